/-! ===== the pure side: numbers ===== -/
def w32 (x : Int) : Int := Int.bmod x 4294967296
def w64 (x : Int) : Int := Int.bmod x 18446744073709551616
def lt32 (a b : Int) : Bool := decide (w32 a < w32 b)
def eq32 (a b : Int) : Bool := decide (w32 a = w32 b)
def lcm64 (a b : Int) : Int := if w64 a < w64 b then -1 else if w64 b < w64 a then 1 else 0
def mx32 (a b : Int) : Int := if lt32 a b then b else a
def mn32 (a b : Int) : Int := if lt32 b a then b else a
def dv32 (a b : Int) : Int := (w32 a).tdiv (w32 b)
def rm32 (a b : Int) : Int := w32 a - dv32 a b * w32 b
def i8 (x : Int) : Int := Int.bmod x 256
def an32 (a b : Int) : Int := (Int32.ofInt a &&& Int32.ofInt b).toInt
def or32 (a b : Int) : Int := (Int32.ofInt a ||| Int32.ofInt b).toInt
def xo32 (a b : Int) : Int := (Int32.ofInt a ^^^ Int32.ofInt b).toInt
def sl32 (a b : Int) : Int := (Int32.ofInt a <<< (Int32.ofInt b &&& 31)).toInt
def sr32 (a b : Int) : Int := (Int32.ofInt a >>> (Int32.ofInt b &&& 31)).toInt
def us32 (a b : Int) : Int := ((Int32.ofInt a).toUInt32 >>> ((Int32.ofInt b).toUInt32 &&& Int32.toUInt32 31)).toInt32.toInt
abbrev iV (x : Int) : Value := .int (Int32.ofInt x)
abbrev jV (x : Int) : Value := .long (Int64.ofInt x)
theorem ofInt_toInt (x : Int32) : Int32.ofInt x.toInt = x := Int32.ofInt_toInt x
theorem w32_toInt (x : Int) : (Int32.ofInt x).toInt = w32 x := by
  unfold w32; exact Int32.toInt_ofInt
theorem w64_toInt (x : Int) : (Int64.ofInt x).toInt = w64 x := by
  unfold w64; exact Int64.toInt_ofInt
theorem w32_id {x : Int} (h1 : -2147483648 ≤ x) (h2 : x < 2147483648) : w32 x = x := by
  unfold w32; rw [Int.bmod_def]; split <;> omega
theorem w32_rng (x : Int) : -2147483648 ≤ w32 x ∧ w32 x < 2147483648 := by
  unfold w32; rw [Int.bmod_def]; split <;> omega
theorem w64_id {x : Int} (h1 : -9223372036854775808 ≤ x) (h2 : x < 9223372036854775808) : w64 x = x := by
  unfold w64; rw [Int.bmod_def]; split <;> omega
theorem ofw32 (x : Int) : Int32.ofInt (w32 x) = Int32.ofInt x := by
  rw [← w32_toInt, ofInt_toInt]
theorem lt32_i (a b : Int) : (Int32.ofInt a < Int32.ofInt b) ↔ lt32 a b = true := by
  unfold lt32; rw [decide_eq_true_iff, Int32.lt_iff_toInt_lt, w32_toInt, w32_toInt]
theorem le32_i (a b : Int) : (Int32.ofInt a ≤ Int32.ofInt b) ↔ lt32 b a = false := by
  unfold lt32; rw [decide_eq_false_iff_not, Int32.le_iff_toInt_le, w32_toInt, w32_toInt]; omega
theorem eq32_i (a b : Int) : (Int32.ofInt a = Int32.ofInt b) ↔ eq32 a b = true := by
  unfold eq32; rw [decide_eq_true_iff, ← Int32.toInt_inj, w32_toInt, w32_toInt]
theorem add32 (a b : Int) : Int32.ofInt a + Int32.ofInt b = Int32.ofInt (a + b) := (Int32.ofInt_add a b).symm
theorem sub32 (a b : Int) : Int32.ofInt a - Int32.ofInt b = Int32.ofInt (a - b) := (Int32.ofInt_sub a b).symm
theorem mul32 (a b : Int) : Int32.ofInt a * Int32.ofInt b = Int32.ofInt (a * b) := (Int32.ofInt_mul a b).symm
theorem i2l32 (a : Int) : (Int32.ofInt a).toInt64 = Int64.ofInt (w32 a) := by
  rw [← Int64.toInt_inj, w64_toInt, Int32.toInt_toInt64, w32_toInt, w64_id] <;> have := w32_rng a <;> omega
theorem i8_i (a : Int) : (Int32.ofInt a).toInt8.toInt32 = Int32.ofInt (i8 a) := by
  rw [← Int32.toInt_inj, Int8.toInt_toInt32, Int32.toInt_toInt8, w32_toInt, w32_toInt]
  unfold i8 w32
  simp only [Int.bmod_def]
  omega
theorem b2v (P : Prop) [Decidable P] (x : Int) (h : Int32.ofInt x = if P then 1 else 0) : True := trivial
/-! ===== worlds: cells by names (Nat), apart from their addresses ===== -/
abbrev Wd : Type := (Nat → Nat → Int) × (Nat → Int → Int) × (Nat → Int → Nat)
def gF (w : Wd) (o k : Nat) : Int := w.1 o k
def gA (w : Wd) (o : Nat) (i : Int) : Int := w.2.1 o i
def gP (w : Wd) (o : Nat) (i : Int) : Nat := w.2.2 o i
def sF (w : Wd) (o k : Nat) (v : Int) : Wd := (fun a b => if a = o ∧ b = k then v else w.1 a b, w.2)
def sA (w : Wd) (o : Nat) (i v : Int) : Wd := (w.1, fun a j => if a = o ∧ j = i then v else w.2.1 a j, w.2.2)
def sP (w : Wd) (o : Nat) (i : Int) (v : Nat) : Wd := (w.1, w.2.1, fun a j => if a = o ∧ j = i then v else w.2.2 a j)
theorem gF_sF (w : Wd) (o k : Nat) (v : Int) (a b : Nat) : gF (sF w o k v) a b = if a = o ∧ b = k then v else gF w a b := rfl
theorem gA_sF (w : Wd) (o k : Nat) (v : Int) (a : Nat) (i : Int) : gA (sF w o k v) a i = gA w a i := rfl
theorem gP_sF (w : Wd) (o k : Nat) (v : Int) (a : Nat) (i : Int) : gP (sF w o k v) a i = gP w a i := rfl
theorem gF_sA (w : Wd) (o : Nat) (i v : Int) (a b : Nat) : gF (sA w o i v) a b = gF w a b := rfl
theorem gA_sA (w : Wd) (o : Nat) (i v : Int) (a : Nat) (j : Int) : gA (sA w o i v) a j = if a = o ∧ j = i then v else gA w a j := rfl
theorem gP_sA (w : Wd) (o : Nat) (i v : Int) (a : Nat) (j : Int) : gP (sA w o i v) a j = gP w a j := rfl
theorem gF_sP (w : Wd) (o : Nat) (i : Int) (v : Nat) (a b : Nat) : gF (sP w o i v) a b = gF w a b := rfl
theorem gA_sP (w : Wd) (o : Nat) (i : Int) (v : Nat) (a : Nat) (j : Int) : gA (sP w o i v) a j = gA w a j := rfl
theorem gP_sP (w : Wd) (o : Nat) (i : Int) (v : Nat) (a : Nat) (j : Int) : gP (sP w o i v) a j = if a = o ∧ j = i then v else gP w a j := rfl
/-- kinds: 1..10 objects (class K - 1 of vwCl), 11 int[], 12 byte[], 13 boolean[], 14 Slab[], 15 long[] -/
def kmain : List Nat := [0, 9, 1, 6, 11, 1, 6, 11, 8, 4, 3, 6, 11, 6, 11, 6, 11, 6, 11, 0, 3, 6, 11, 6, 11, 6, 11, 6, 11, 0, 2, 5, 14, 14, 0, 0, 0, 0, 0, 0, 0, 0, 0, 0, 0, 0, 0, 0, 0, 0, 10, 11, 11, 11, 11, 11, 11, 11, 11, 11, 12, 11, 13, 11, 12]
def lmain : List Nat := [0, 0, 0, 0, 500, 0, 0, 900, 0, 0, 0, 0, 60, 0, 60, 0, 288, 0, 288, 0, 0, 0, 60, 0, 60, 0, 288, 0, 288, 0, 0, 0, 6, 2, 1, 0, 0, 0, 0, 0, 0, 0, 0, 0, 0, 0, 0, 0, 0, 0, 0, 1099, 1099, 60, 60, 1099, 780, 60, 60, 780, 500, 2198, 2, 6594, 1000]
def kslab : List Nat := [7, 6, 11, 6, 11, 6, 11, 6, 11, 6, 11, 2]
def lslab : List Nat := [0, 0, 12, 0, 10, 0, 10, 0, 60, 0, 720]
def kd (na o : Nat) : Nat := if o < 100 then kmain.getD o 0 else if (o - 100) / 16 < na + 2 then kslab.getD ((o - 100) % 16) 0 else 0
def ln (o : Nat) : Nat := if o < 100 then lmain.getD o 0 else lslab.getD ((o - 100) % 16) 0
def dmo (o : Nat) : Nat := if 50 ≤ o ∧ o < 100 then 1 else 0
def sl (j : Nat) : Nat := 100 + 16 * j
def OL (dm na : Nat) : List Nat := (List.range (100 + 16 * (na + 2))).filter (fun o => decide (kd na o ≠ 0) && decide (dmo o = dm))
theorem mem_OL {dm na o : Nat} : o ∈ OL dm na ↔ kd na o ≠ 0 ∧ dmo o = dm := by
  unfold OL
  rw [List.mem_filter, List.mem_range]
  simp only [Bool.and_eq_true, decide_eq_true_eq]
  refine ⟨fun h => h.2, fun h => ⟨?_, h⟩⟩
  have h1 := h.1
  unfold kd at h1
  by_cases c : o < 100
  · omega
  · rw [if_neg c] at h1
    by_cases c2 : (o - 100) / 16 < na + 2
    · omega
    · rw [if_neg c2] at h1; exact absurd rfl h1
theorem kd_mono {na na' o : Nat} (h : na ≤ na') (hk : kd na o ≠ 0) : kd na' o = kd na o := by
  unfold kd at hk ⊢
  by_cases c : o < 100
  · rw [if_pos c, if_pos c]
  · rw [if_neg c] at hk; rw [if_neg c, if_neg c]
    by_cases c2 : (o - 100) / 16 < na + 2
    · rw [if_pos c2, if_pos (by omega)]
    · rw [if_neg c2] at hk; exact absurd rfl hk
/-- field types: 0 a number, 1 a cell that stays, 2 a cell that changes -/
def ftab : List (List Nat) := [[1, 0], [0, 0, 0, 0, 0], [1, 1, 1, 1, 0, 0, 0, 0], [1, 0, 0, 0, 0, 0, 0], [1, 0], [1], [0, 0, 0, 1, 0, 1, 1, 0, 1, 1, 1, 0], [1, 0, 0, 0], [1, 1, 1, 1, 1, 1, 1, 1, 1, 1, 1],
  [0, 1, 1, 2, 1, 1, 0, 0, 0, 0, 0, 1, 1, 1, 1, 1, 0, 1, 0, 0, 0, 0, 0, 0, 0, 0, 0, 0, 1, 1, 1, 0, 1, 0], [1, 0, 0, 0], [1, 0, 0, 0]]
def ft (ci k : Nat) : Nat := (ftab.getD ci []).getD k 0
def nf (ci : Nat) : Nat := (ftab.getD ci []).length
/-- the cell that a field leads to, for good: (relative, number) -/
def chtab : List (List (Bool × Nat)) := [[(true, 1)], [], [(true, 1), (true, 3), (true, 5), (true, 7)], [(false, 8)], [(false, 32)], [(true, 1)],
  [(true, 0), (true, 0), (true, 0), (true, 1), (true, 0), (true, 3), (true, 5), (true, 0), (true, 7), (true, 9), (true, 11)], [(false, 2)],
  [(false, 2), (false, 5), (false, 8), (false, 9), (false, 100), (false, 10), (false, 116), (false, 20), (false, 30), (false, 31), (false, 33)],
  [(false, 0), (false, 51), (false, 52), (false, 0), (false, 53), (false, 54), (false, 0), (false, 0), (false, 0), (false, 0), (false, 0), (false, 55), (false, 56), (false, 57), (false, 58), (false, 59), (false, 0), (false, 60), (false, 0), (false, 0), (false, 0), (false, 0), (false, 0), (false, 0), (false, 0), (false, 0), (false, 0), (false, 0), (false, 61), (false, 62), (false, 63), (false, 0), (false, 64), (false, 0)]]
def ch (o ci k : Nat) : Nat := match (chtab.getD ci []).getD k (true, 0) with
  | (true, n) => o + n
  | (false, n) => n
abbrev Gd : Type := va_G × (Nat → ClassId) × (Nat → Nat) × (Nat → Nat)
abbrev Gd.cy (G : Gd) : Nat → ClassId := G.2.1
abbrev Gd.aK (G : Gd) : Nat → Nat := G.2.2.1
abbrev Gd.aV (G : Gd) : Nat → Nat := G.2.2.2
def ov (ad : Nat → Nat) (q : Nat) : Option Nat := if q = 0 then none else some (ad q)
abbrev rV (ad : Nat → Nat) (q : Nat) : Value := va_rf (ov ad q)
def fv (ad : Nat → Nat) (w : Wd) (o ci k : Nat) : Value := if ft ci k = 0 then iV (gF w o k) else if ft ci k = 1 then .ref (ad (ch o ci k)) else rV ad (gP w o k)
def cellOf (cy : Nat → ClassId) (ad : Nat → Nat) (w : Wd) (K o : Nat) : va_E :=
  if K ≤ 10 then .inr (K - 1, (List.range (nf (K - 1))).map (fv ad w o (K - 1)))
  else if K = 14 then .inl (cy 3, (ln o, .inr (.inr (.inr (.inr fun i => ov ad (gP w o (i : Nat)))))))
  else if K = 15 then .inl (cy 4, (ln o, .inr (.inl fun i => Int64.ofInt (gA w o (i : Nat)))))
  else .inl (cy (K - 11), (ln o, .inl fun i => Int32.ofInt (gA w o (i : Nat))))
def hE (G : Gd) (na : Nat) (ad : Nat → Nat) (w : Wd) (o : Nat) : Nat × va_E := (ad o, cellOf G.cy ad w (kd na o) o)
def hw (G : Gd) (dm na : Nat) (ad : Nat → Nat) (w : Wd) : va_W := (OL dm na).map (hE G na ad w)
/-- what a changing reference may be -/
def okP (na o q : Nat) : Prop := if o = 50 then q = 51 ∨ q = 52 else if o = 32 ∨ o = 33 then q = 0 ∨ kd na q = 7 else True
def okW (na : Nat) (w : Wd) : Prop := ∀ o i, okP na o (gP w o i)
def tysG (G : Gd) : List (ClassId × FieldType) := [(G.cy 0, .int), (G.cy 1, .byte), (G.cy 2, .int), (G.cy 3, .object "SlabCutter$Slab"), (G.cy 4, .int)]
def wdH (G : Gd) (dm na : Nat) (ad : Nat → Nat) (w : Wd) (A : Nat → Prop) (H : Heap) : Prop :=
  va_P G.1 vwCl (hw G dm na ad w) H ∧ va_D A (hw G dm na ad w) ∧ okW na w
theorem hw_get {G : Gd} {dm na : Nat} {ad : Nat → Nat} {w : Wd} {o : Nat} (h : kd na o ≠ 0) (hd : dmo o = dm) : ∃ k : Nat, (OL dm na)[k]? = some o ∧ (hw G dm na ad w)[k]? = some (ad o, cellOf G.cy ad w (kd na o) o) := by
  obtain ⟨k, hk⟩ := List.getElem?_of_mem (mem_OL.mpr ⟨h, hd⟩)
  exact ⟨k, hk, by unfold hw; rw [List.getElem?_map, hk]; rfl⟩
/-- one cell set -/
theorem hw_set {G : Gd} {dm na : Nat} {ad : Nat → Nat} {w w' : Wd} {A : Nat → Prop} {o k : Nat} {e : va_E} (hD : va_D A (hw G dm na ad w)) (hk : (OL dm na)[k]? = some o)
    (he : cellOf G.cy ad w' (kd na o) o = e) (hne : ∀ o', o' ≠ o → cellOf G.cy ad w' (kd na o') o' = cellOf G.cy ad w (kd na o') o') :
    (hw G dm na ad w).set k (ad o, e) = hw G dm na ad w' := by
  apply List.ext_getElem?
  intro i
  unfold hw at hD ⊢
  by_cases hi : k = i
  · subst hi
    rw [List.getElem?_set_self (by rw [List.length_map]; exact (List.getElem?_eq_some_iff.mp hk).1), List.getElem?_map, hk]
    show some (ad o, e) = some (ad o, _)
    rw [he]
  · rw [List.getElem?_set_ne hi, List.getElem?_map, List.getElem?_map]
    cases hj : (OL dm na)[i]? with
    | none => rfl
    | some o' =>
      show some (ad o', _) = some (ad o', _)
      by_cases ho : o' = o
      · subst ho
        exact absurd (hD.1 k i _ _ (by rw [List.getElem?_map, hk]; rfl) (by rw [List.getElem?_map, hj]; rfl) rfl) hi
      · rw [hne o' ho]
/-! ===== what stays around the worlds: texts, the texts' layout, the throwables' statics ===== -/
def lenT : List Nat := [4, 1, 4, 1, 3, 6, 4, 4, 5, 5, 1, 5, 4, 7]
def bytT : List (List Int32) := [[115, 108, 97, 98], [59], [102, 108, 97, 119], [44], [103, 97, 112], [99, 104, 105, 115, 101, 108], [110, 97, 109, 101], [100, 97, 116, 101], [118, 101, 114, 115, 101], [115, 108, 97, 98, 32], [32], [102, 108, 97, 119, 32], [103, 97, 112, 32], [99, 104, 105, 115, 101, 108, 32]]
def siteT : List (String × Nat × String × Nat) := [("SlabCutter$Parser", 53, "slab", 0), ("SlabCutter$Parser", 146, ";", 1), ("SlabCutter$Parser", 80, "flaw", 2), ("SlabCutter$Parser", 108, ",", 3), ("SlabCutter$Parser", 85, "gap", 4), ("SlabCutter$Parser", 90, "chisel", 5), ("SlabCutter$Parser", 95, "name", 6), ("SlabCutter$Parser", 101, "date", 7), ("SlabCutter$Parser", 103, "verse", 8), ("SlabCutterLaw", 54, "slab ", 9), ("SlabCutterLaw", 40, " ", 10), ("SlabCutterLaw", 62, ";", 1), ("SlabCutterLaw", 64, "flaw ", 11), ("SlabCutterLaw", 66, "gap ", 12), ("SlabCutterLaw", 68, "chisel ", 13), ("SlabCutterLaw", 70, "name", 6), ("SlabCutterLaw", 72, "date", 7), ("SlabCutterLaw", 74, "verse", 8)]
/-- the digits of the numbers below 100, as the JDK's tables have them -/
def dgO : Nat → Value := fun j => .int (Int32.ofInt (48 + (j : Int) % 10))
def dgT : Nat → Value := fun j => .int (Int32.ofInt (48 + (j : Int) / 10))
def vtab (n : String) (f : Nat → Value) (A : Nat → Prop) (U : State) (H : Heap) : Prop := ∃ t : Nat, va_Z "java/lang/Integer" n "[B" (.ref t) A U H ∧ va_T .byte t 100 f A U H
theorem vtab.moved {n : String} {f : Nat → Value} {A : Nat → Prop} {u U : State} {H : Heap} (hvm : u.vm.Alike U.vm) (h : vtab n f A u H) : vtab n f A U H := by
  obtain ⟨t, h1, h2⟩ := h
  exact ⟨t, va_Z.moved hvm h1, va_T.moved hvm h2⟩
theorem vtab.kept {n : String} {f : Nat → Value} {A : Nat → Prop} {U : State} {H H1 : Heap} (h : vtab n f A U H) (hq : ∀ a : Nat, a < H.size → ¬ A a → H1[a]? = H[a]?) : vtab n f A U H1 := by
  obtain ⟨t, h1, h2⟩ := h
  exact ⟨t, h1.kept hq, h2.kept hq⟩
theorem vtab.narrow {n : String} {f : Nat → Value} {A B : Nat → Prop} {U : State} {H : Heap} (h : vtab n f A U H) (hAB : ∀ q, B q → A q) : vtab n f B U H := by
  obtain ⟨t, h1, h2⟩ := h
  exact ⟨t, h1.narrow hAB, h2.narrow hAB⟩
def ES (G : Gd) (A : Nat → Prop) (U : State) (H : Heap) : Prop :=
  vk_S 14 lenT bytT G.aK G.aV A U H ∧ (∀ q ∈ siteT, vk_R q.1 q.2.1 q.2.2.1 (G.aK q.2.2.2) U) ∧ va_Z "java/lang/String" "COMPACT_STRINGS" "Z" (.int 1) A U H ∧ va_Zq "jdk/internal/util/Preconditions" "SIOOBE_FORMATTER" "Ljava/util/function/BiFunction;" A U H ∧
  vx_Zq Bundle.tN "UNASSIGNED_STACK" Bundle.steD A U H ∧ vx_Zq Bundle.tN "SUPPRESSED_SENTINEL" Bundle.listD A U H ∧ vtab "DigitOnes" dgO A U H ∧ vtab "DigitTens" dgT A U H
theorem ES.go {G : Gd} {A B : Nat → Prop} {s U : State} {H : Heap} (h : ES G A s s.heap) (hW : s.WarmedH U.vm) (hk : ∀ a : Nat, a < s.heap.size → ¬ A a → H[a]? = s.heap[a]?) (hAB : ∀ q, B q → A q) : ES G B U H := by
  obtain ⟨h1, h2, h3, h4, h5, h6, h7, h8⟩ := h
  exact ⟨((vk_S.moved hW.alike h1).kept hk).narrow hAB, fun q hq => (h2 q hq).warm hW, ((va_Z.moved hW.alike h3).kept hk).narrow hAB, ((va_Zq.moved hW.alike h4).kept hk).narrow hAB, ((vx_Zq.moved hW.alike h5).kept hk).narrow hAB, ((vx_Zq.moved hW.alike h6).kept hk).narrow hAB, ((vtab.moved hW.alike h7).kept hk).narrow hAB, ((vtab.moved hW.alike h8).kept hk).narrow hAB⟩
theorem ES.same {G : Gd} {A : Nat → Prop} {u U : State} {H : Heap} (h : ES G A u H) (hv : U.vm = u.vm) : ES G A U H := by
  obtain ⟨h1, h2, h3, h4, h5, h6, h7, h8⟩ := h
  have ha : u.vm.Alike U.vm := by rw [hv]; exact Vm.Alike.refl _
  exact ⟨vk_S.moved ha h1, fun q hq => (h2 q hq).same hv, va_Z.moved ha h3, va_Zq.moved ha h4, vx_Zq.moved ha h5, vx_Zq.moved ha h6, vtab.moved ha h7, vtab.moved ha h8⟩
/-! ===== the judgement, over one bundle ===== -/
def isNw : Cond → Bool
  | .fieldLinkNest .. => true
  | .methodLinkNest .. => true
  | .castable .. => true
  | .declares .. => true
  | _ => false
def nw_tbl : List Cond := tables_1.filter isNw
/-- the private methods of AbstractStringBuilder, on a StringBuilder -/
def sbx : List Cond := [Cond.selects "java/lang/StringBuilder" yJ5_ensureCapacityInternal_d00df yJ5_ensureCapacityInternal_d00df, Cond.selects "java/lang/StringBuilder" yJ5_newCapacity_0f7a4 yJ5_newCapacity_0f7a4, Cond.selects "java/lang/StringBuilder" yJ5_putStringAt_47b60 yJ5_putStringAt_47b60, Cond.selects "java/lang/StringBuilder" yJ5_inflateIfNeededFor_a7421 yJ5_inflateIfNeededFor_a7421]
theorem selp {y x0 : MethodName} {s : State} {args : Array Value} {C : String} (hy : y.cls ≠ "java/lang/invoke/MethodHandle" ∧ y.cls ≠ "java/lang/invoke/VarHandle") (h0 : (Cond.selects C x0 x0).before args s = true) (hx0 : x0.cls = y.cls) (hpriv : (Cond.privateMethod y).before args s = true) (hinst : (Cond.instanceMethod y).before args s = true) : (Cond.selects C y y).before args s = true := by
  obtain ⟨c, r0, m2, q1, q2, q3, q4, kP, hkP, hkPi⟩ := Cond.selects_spec h0
  obtain ⟨mk, methM, hnamed, hmethM, -, -⟩ := Cond.instanceMethod_spec hinst
  have hfound : s.methodFound? y.cls y.name y.desc = some mk := State.methodFound?_of_named hnamed hy
  have hsel : selectMethod {} s.vm c mk = .method mk := selectMethod_private hmethM (Cond.privateMethod_at hpriv mk methM hnamed hmethM)
  have e : mk.cls = m2.cls := by
    have e1 := findClass_of_methodNamed hnamed
    have e2 := findClass_of_methodNamed q3
    rw [hx0] at e2
    exact Option.some.inj (e1.symm.trans e2)
  simp only [Cond.before, Cond.holds, Cond.value, q1, hfound, hnamed, hsel, e, hkP]
  simp; exact hkPi
theorem sbx_ok {s : State} {args : Array Value} (hts : ∀ w ∈ lw_tbl, w.before args s = true) : ∀ w ∈ sbx, w.before args s = true := by
  have h0 : (Cond.selects "java/lang/StringBuilder" yJ5_isLatin1_aae02 yJ5_isLatin1_aae02).before args s = true := hts _ (by decide +kernel)
  intro w hw
  simp only [sbx, List.mem_cons, List.not_mem_nil, or_false] at hw
  rcases hw with rfl | rfl | rfl | rfl
  · exact selp (x0 := yJ5_isLatin1_aae02) ⟨by decide, by decide⟩ h0 rfl (hts _ (by decide +kernel)) (hts _ (by decide +kernel))
  · exact selp (x0 := yJ5_isLatin1_aae02) ⟨by decide, by decide⟩ h0 rfl (hts _ (by decide +kernel)) (hts _ (by decide +kernel))
  · exact selp (x0 := yJ5_isLatin1_aae02) ⟨by decide, by decide⟩ h0 rfl (hts _ (by decide +kernel)) (hts _ (by decide +kernel))
  · exact selp (x0 := yJ5_isLatin1_aae02) ⟨by decide, by decide⟩ h0 rfl (hts _ (by decide +kernel)) (hts _ (by decide +kernel))
def lw_tg : List Cond := (lw_tbl ++ sbx).filter goodWord
theorem tg_mk {w : Cond} (h : w ∈ lw_tbl ∧ goodWord w = true) : w ∈ lw_tg := List.mem_filter.mpr ⟨List.mem_append_left _ h.1, h.2⟩
theorem tg_ok {s : State} {args : Array Value} (hts : ∀ w ∈ lw_tbl, w.before args s = true) : ∀ w ∈ lw_tg, w.before args s = true := by
  intro w hw
  rcases List.mem_append.mp (List.mem_filter.mp hw).1 with h | h
  · exact hts w h
  · exact sbx_ok hts w h
theorem in_tg {w : Cond} (i : Nat) (h : lw_tbl[i]? = some w) (g : goodWord w = true) : w ∈ lw_tg := tg_mk ⟨List.mem_of_getElem? h, g⟩
theorem in_nw {w : Cond} (i : Nat) (h : tables_1[i]? = some w) (g : isNw w = true) : w ∈ nw_tbl := List.mem_filter.mpr ⟨List.mem_of_getElem? h, g⟩
theorem nw_warmD {y : MethodName} {s U : State} (hW : s.WarmedH U.vm) (hZ : va_Nw (.declares y) s) : va_Nw (.declares y) U := va_tabs rfl (rfl : (s.setVm U.vm).vm = U.vm) (by rw [Cond.declares_setVm hW.alike]; exact hZ)
theorem nw_moved {s U : State} (hW : s.WarmedH U.vm) (h : ∀ w ∈ nw_tbl, va_Nw w s) : ∀ w ∈ nw_tbl, va_Nw w U := by
  intro w hw
  have h1 := h w hw
  have h2 := (List.mem_filter.mp hw).2
  cases w <;> first | exact va_Nw.warmF hW h1 | exact va_Nw.warmM hW h1 | exact va_Nw.warmC hW h1 | exact nw_warmD hW h1 | (exact absurd h2 (by simp [isNw]))
theorem nw_same {u U : State} (hvm : u.vm = U.vm) (h : ∀ w ∈ nw_tbl, va_Nw w u) : ∀ w ∈ nw_tbl, va_Nw w U := by
  intro w hw
  have h1 := h w hw
  have h2 := (List.mem_filter.mp hw).2
  cases w <;> first | exact va_Nw.same rfl hvm h1 | (exact absurd h2 (by simp [isNw]))
abbrev Cx : Type := Program × Launch × Env × Room × State × MethodId × Array Value × List Frame × Method × Code × Nat × (State → Prop) × Gd × (Nat → Prop) × Nat
abbrev Cx.p (g : Cx) : Program := g.1
abbrev Cx.l (g : Cx) : Launch := g.2.1
abbrev Cx.e (g : Cx) : Env := g.2.2.1
abbrev Cx.R (g : Cx) : Room := g.2.2.2.1
abbrev Cx.s (g : Cx) : State := g.2.2.2.2.1
abbrev Cx.m (g : Cx) : MethodId := g.2.2.2.2.2.1
abbrev Cx.args (g : Cx) : Array Value := g.2.2.2.2.2.2.1
abbrev Cx.below (g : Cx) : List Frame := g.2.2.2.2.2.2.2.1
abbrev Cx.meth (g : Cx) : Method := g.2.2.2.2.2.2.2.2.1
abbrev Cx.c (g : Cx) : Code := g.2.2.2.2.2.2.2.2.2.1
abbrev Cx.nL (g : Cx) : Nat := g.2.2.2.2.2.2.2.2.2.2.1
abbrev Cx.Q (g : Cx) : State → Prop := g.2.2.2.2.2.2.2.2.2.2.2.1
abbrev Cx.G (g : Cx) : Gd := g.2.2.2.2.2.2.2.2.2.2.2.2.1
abbrev Cx.A (g : Cx) : Nat → Prop := g.2.2.2.2.2.2.2.2.2.2.2.2.2.1
abbrev Cx.dm (g : Cx) : Nat := g.2.2.2.2.2.2.2.2.2.2.2.2.2.2
/-- what moves with what is made: (how many slabs, the addresses, cells, slots) -/
abbrev Dl : Type := Nat × (Nat → Nat) × Nat × Nat
abbrev Dl.na (d : Dl) : Nat := d.1
abbrev Dl.ad (d : Dl) : Nat → Nat := d.2.1
abbrev Dl.ce (d : Dl) : Nat := d.2.2.1
abbrev Dl.so (d : Dl) : Nat := d.2.2.2
def hP (g : Cx) (d : Dl) (w : Wd) : Heap → Prop := fun H => wdH g.G g.dm d.na d.ad w g.A H
def XG (g : Cx) (d : Dl) (hp : Heap → Prop) (lv : List (Nat × Value)) (st : List Value) (pc : Nat) : Prop :=
  ∀ (H : Heap) (locs : List Loc) (ls : Array Slot), hp H → va_S g.A g.s.heap H locs → lv_has ls g.nL lv → W g.p g.l g.e g.R g.s g.m g.args g.below g.meth g.c H locs d.ce d.so g.Q (F0 g.m pc ls st)
def CX (g : Cx) (cc : ByteArray) (nL : Nat) (ret : Option FieldType) (own : String) : Prop :=
  g.p.tables.exec = Jvm.exec ∧ g.c.code = cc ∧ g.c.maxLocals = nL ∧ g.nL = nL ∧ g.meth.sig.returnType = ret ∧ g.meth.locks = false ∧ g.s.vm.findClass own = some g.m.cls ∧ (∀ w ∈ lw_tg, w.before g.args g.s = true) ∧ (∀ w ∈ nw_tbl, va_Nw w g.s) ∧ va_K g.G.1 vwCl (tysG g.G) g.s ∧ ES g.G g.A g.s g.s.heap
section XR
variable {g : Cx} {d : Dl} {cc : ByteArray} {nL : Nat} {ret : Option FieldType} {own : String} {hp : Heap → Prop} {w : Wd} {lv : List (Nat × Value)} {st : List Value} {pc : Nat}
theorem CX.x (C : CX g cc nL ret own) : g.p.tables.exec = Jvm.exec := C.1
theorem CX.b (C : CX g cc nL ret own) : g.c.code = cc := C.2.1
theorem CX.ml (C : CX g cc nL ret own) : g.c.maxLocals = nL := C.2.2.1
theorem CX.n (C : CX g cc nL ret own) : g.nL = nL := C.2.2.2.1
theorem CX.r (C : CX g cc nL ret own) : g.meth.sig.returnType = ret := C.2.2.2.2.1
theorem CX.k (C : CX g cc nL ret own) : g.meth.locks = false := C.2.2.2.2.2.1
theorem CX.o (C : CX g cc nL ret own) : g.s.vm.findClass own = some g.m.cls := C.2.2.2.2.2.2.1
theorem CX.t (C : CX g cc nL ret own) : ∀ w ∈ lw_tg, w.before g.args g.s = true := C.2.2.2.2.2.2.2.1
theorem CX.nw (C : CX g cc nL ret own) : ∀ w ∈ nw_tbl, va_Nw w g.s := C.2.2.2.2.2.2.2.2.1
theorem CX.K (C : CX g cc nL ret own) : va_K g.G.1 vwCl (tysG g.G) g.s := C.2.2.2.2.2.2.2.2.2.1
theorem CX.E (C : CX g cc nL ret own) : ES g.G g.A g.s g.s.heap := C.2.2.2.2.2.2.2.2.2.2
/-- the same values in another order, or fewer -/
theorem XG.sub {lv' : List (Nat × Value)} (ks : List Nat) (hl : lv_pick lv ks = lv') (k : XG g d hp lv' st pc) : XG g d hp lv st pc := fun H locs ls h1 h2 h3 => k H locs ls h1 h2 (lv_sub h3 ks hl)
theorem x_iconst (C : CX g cc nL ret own) {n : Int} (dg : decode cc pc = .ok (.iconst n, 1)) (k : XG g d hp lv (iV n :: st) (pc + 1)) : XG g d hp lv st pc := fun H locs ls h1 h2 h3 => lv_iconst C.x C.b dg rfl (k H locs ls h1 h2 h3)
theorem x_bipush (C : CX g cc nL ret own) {n v : Int} (dg : decode cc pc = .ok (.bipush n, 2)) (hv : (Int8.ofInt n).toInt32 = Int32.ofInt v) (k : XG g d hp lv (iV v :: st) (pc + 2)) : XG g d hp lv st pc := fun H locs ls h1 h2 h3 => lv_bipush C.x C.b dg hv (k H locs ls h1 h2 h3)
theorem x_sipush (C : CX g cc nL ret own) {n v : Int} (dg : decode cc pc = .ok (.sipush n, 3)) (hv : (Int16.ofInt n).toInt32 = Int32.ofInt v) (k : XG g d hp lv (iV v :: st) (pc + 3)) : XG g d hp lv st pc := fun H locs ls h1 h2 h3 => lv_sipush C.x C.b dg hv (k H locs ls h1 h2 h3)
theorem x_iload_n (C : CX g cc nL ret own) {f : Fin 4} {x : Int} (i : Nat) (dg : decode cc pc = .ok (.iload_n f, 1)) (hl : lv[i]? = some ((f : Nat), iV x)) (k : XG g d hp lv (iV x :: st) (pc + 1)) : XG g d hp lv st pc := fun H locs ls h1 h2 h3 => lv_iload_n C.x C.b dg rfl (lv_at h3 i hl) (k H locs ls h1 h2 h3)
theorem x_iload (C : CX g cc nL ret own) {f : Nat} {x : Int} (i : Nat) (dg : decode cc pc = .ok (.iload f, 2)) (hl : lv[i]? = some (f, iV x)) (k : XG g d hp lv (iV x :: st) (pc + 2)) : XG g d hp lv st pc := fun H locs ls h1 h2 h3 => lv_iload C.x C.b dg (lv_at h3 i hl) (k H locs ls h1 h2 h3)
theorem x_aload_n (C : CX g cc nL ret own) {f : Fin 4} {x : Nat} (i : Nat) (dg : decode cc pc = .ok (.aload_n f, 1)) (hl : lv[i]? = some ((f : Nat), .ref x)) (k : XG g d hp lv (.ref x :: st) (pc + 1)) : XG g d hp lv st pc := fun H locs ls h1 h2 h3 => lv_aload_n C.x C.b dg rfl (lv_at h3 i hl) (k H locs ls h1 h2 h3)
theorem x_aload (C : CX g cc nL ret own) {f : Nat} {x : Nat} (i : Nat) (dg : decode cc pc = .ok (.aload f, 2)) (hl : lv[i]? = some (f, .ref x)) (k : XG g d hp lv (.ref x :: st) (pc + 2)) : XG g d hp lv st pc := fun H locs ls h1 h2 h3 => lv_aload C.x C.b dg (lv_at h3 i hl) (k H locs ls h1 h2 h3)
theorem x_istore_n (C : CX g cc nL ret own) {f : Fin 4} {x : Int} {lv' : List (Nat × Value)} (dg : decode cc pc = .ok (.istore_n f, 1)) (hn : (f : Nat) < nL) (hl : ((f : Nat), iV x) :: lv.filter (fun q => !(q.1 == (f : Nat)) && !(q.1 + 1 == (f : Nat) && q.2.category == 2)) = lv') (k : XG g d hp lv' st (pc + 1)) : XG g d hp lv (iV x :: st) pc := fun H locs ls h1 h2 h3 => lv_istore_n C.x C.b dg rfl h3 (by rw [C.n]; exact hn) hl (fun ls h3 => k H locs ls h1 h2 h3)
theorem x_istore (C : CX g cc nL ret own) {f : Nat} {x : Int} {lv' : List (Nat × Value)} (dg : decode cc pc = .ok (.istore f, 2)) (hn : f < nL) (hl : (f, iV x) :: lv.filter (fun q => !(q.1 == f) && !(q.1 + 1 == f && q.2.category == 2)) = lv') (k : XG g d hp lv' st (pc + 2)) : XG g d hp lv (iV x :: st) pc := fun H locs ls h1 h2 h3 => lv_istore C.x C.b dg h3 (by rw [C.n]; exact hn) hl (fun ls h3 => k H locs ls h1 h2 h3)
theorem x_iinc (C : CX g cc nL ret own) {f : Nat} {n x : Int} {lv' : List (Nat × Value)} (i : Nat) (dg : decode cc pc = .ok (.iinc f n, 3)) (hi : lv[i]? = some (f, iV x)) (hn : f < nL) (hl : (f, iV (x + n)) :: lv.filter (fun q => !(q.1 == f) && !(q.1 + 1 == f && q.2.category == 2)) = lv') (k : XG g d hp lv' st (pc + 3)) : XG g d hp lv st pc := fun H locs ls h1 h2 h3 => lv_iinc C.x C.b dg h3 hi (add32 x n) (by rw [C.n]; exact hn) hl (fun ls h3 => k H locs ls h1 h2 h3)
theorem x_iadd (C : CX g cc nL ret own) {a b : Int} (dg : decode cc pc = .ok (.iadd, 1)) (k : XG g d hp lv (iV (a + b) :: st) (pc + 1)) : XG g d hp lv (iV b :: iV a :: st) pc := fun H locs ls h1 h2 h3 => lv_iadd C.x C.b dg (by rw [add32]; exact k H locs ls h1 h2 h3)
theorem x_isub (C : CX g cc nL ret own) {a b : Int} (dg : decode cc pc = .ok (.isub, 1)) (k : XG g d hp lv (iV (a - b) :: st) (pc + 1)) : XG g d hp lv (iV b :: iV a :: st) pc := fun H locs ls h1 h2 h3 => lv_isub C.x C.b dg (by rw [sub32]; exact k H locs ls h1 h2 h3)
theorem x_imul (C : CX g cc nL ret own) {a b : Int} (dg : decode cc pc = .ok (.imul, 1)) (k : XG g d hp lv (iV (a * b) :: st) (pc + 1)) : XG g d hp lv (iV b :: iV a :: st) pc := fun H locs ls h1 h2 h3 => lv_imul C.x C.b dg (by rw [mul32]; exact k H locs ls h1 h2 h3)
theorem x_goto (C : CX g cc nL ret own) {off : Int} {tgt : Nat} (dg : decode cc pc = .ok (.goto off, 3)) (ht : (pc : Int) + off = (tgt : Int)) (k : XG g d hp lv st tgt) : XG g d hp lv st pc := fun H locs ls h1 h2 h3 => lv_goto C.x C.b dg ht (k H locs ls h1 h2 h3)
end XR
/-! ===== rows over a world ===== -/
theorem cell_obj {cy : Nat → ClassId} {ad : Nat → Nat} {w : Wd} {K o : Nat} (h : K ≤ 10) : cellOf cy ad w K o = .inr (K - 1, (List.range (nf (K - 1))).map (fv ad w o (K - 1))) := by
  unfold cellOf; rw [if_pos h]
theorem cell_int {cy : Nat → ClassId} {ad : Nat → Nat} {w : Wd} {K o : Nat} (h : K = 11 ∨ K = 12 ∨ K = 13) : cellOf cy ad w K o = .inl (cy (K - 11), (ln o, .inl fun i => Int32.ofInt (gA w o (i : Nat)))) := by
  unfold cellOf; rw [if_neg (by omega), if_neg (by omega), if_neg (by omega)]
theorem cell_ref {cy : Nat → ClassId} {ad : Nat → Nat} {w : Wd} {o : Nat} : cellOf cy ad w 14 o = .inl (cy 3, (ln o, .inr (.inr (.inr (.inr fun i => ov ad (gP w o (i : Nat))))))) := rfl
theorem cell_long {cy : Nat → ClassId} {ad : Nat → Nat} {w : Wd} {o : Nat} : cellOf cy ad w 15 o = .inl (cy 4, (ln o, .inr (.inl fun i => Int64.ofInt (gA w o (i : Nat))))) := rfl
theorem fs_at {ad : Nat → Nat} {w : Wd} {o ci k : Nat} (h : k < nf ci) : ((List.range (nf ci)).map (fv ad w o ci))[k]? = some (fv ad w o ci k) := by
  rw [List.getElem?_map, List.getElem?_range h]; rfl
theorem fs_set {ad : Nat → Nat} {w w' : Wd} {o ci k : Nat} {v : Value} (hv : fv ad w' o ci k = v) (hne : ∀ j, j ≠ k → fv ad w' o ci j = fv ad w o ci j) :
    ((List.range (nf ci)).map (fv ad w o ci)).set k v = (List.range (nf ci)).map (fv ad w' o ci) := by
  apply List.ext_getElem?
  intro i
  by_cases hi : k = i
  · subst hi
    by_cases hl : k < nf ci
    · rw [List.getElem?_set_self (by simpa using hl), fs_at hl, hv]
    · rw [List.getElem?_eq_none (by simpa using Nat.not_lt.mp hl), List.getElem?_eq_none (by simpa using Nat.not_lt.mp hl)]
  · rw [List.getElem?_set_ne hi]
    by_cases hl : i < nf ci
    · rw [fs_at hl, fs_at hl, hne i (fun e => hi e.symm)]
    · rw [List.getElem?_eq_none (by simpa using Nat.not_lt.mp hl), List.getElem?_eq_none (by simpa using Nat.not_lt.mp hl)]
theorem cell_sF_ne {cy : Nat → ClassId} {ad : Nat → Nat} {w : Wd} {K o o' k : Nat} {v : Int} (h : o' ≠ o) : cellOf cy ad (sF w o k v) K o' = cellOf cy ad w K o' := by
  have e : ∀ ci j, fv ad (sF w o k v) o' ci j = fv ad w o' ci j := fun ci j => by
    unfold fv; simp only [gF_sF, gP_sF, h, false_and, if_false]
  unfold cellOf
  simp only [gA_sF, gP_sF, funext (e (K - 1))]
theorem cell_sA_ne {cy : Nat → ClassId} {ad : Nat → Nat} {w : Wd} {K o o' : Nat} {i v : Int} (h : o' ≠ o) : cellOf cy ad (sA w o i v) K o' = cellOf cy ad w K o' := by
  have e : ∀ ci j, fv ad (sA w o i v) o' ci j = fv ad w o' ci j := fun ci j => rfl
  unfold cellOf
  simp only [gA_sA, gP_sA, funext (e (K - 1)), h, false_and, if_false]
theorem cell_sP_ne {cy : Nat → ClassId} {ad : Nat → Nat} {w : Wd} {K o o' : Nat} {i : Int} {v : Nat} (h : o' ≠ o) : cellOf cy ad (sP w o i v) K o' = cellOf cy ad w K o' := by
  have e : ∀ ci j, fv ad (sP w o i v) o' ci j = fv ad w o' ci j := fun ci j => by
    unfold fv; simp only [gF_sP, gP_sP, h, false_and, if_false]
  unfold cellOf
  simp only [gA_sP, gP_sP, funext (e (K - 1)), h, false_and, if_false]
theorem fv_int {ad : Nat → Nat} {w : Wd} {o ci k : Nat} (h : ft ci k = 0) : fv ad w o ci k = iV (gF w o k) := by unfold fv; rw [if_pos h]
theorem fv_ref {ad : Nat → Nat} {w : Wd} {o ci k : Nat} (h : ft ci k = 1) : fv ad w o ci k = .ref (ad (ch o ci k)) := by unfold fv; rw [if_neg (by omega), if_pos h]
theorem fv_dyn {ad : Nat → Nat} {w : Wd} {o ci k : Nat} (h : ft ci k = 2) : fv ad w o ci k = rV ad (gP w o (k : Nat)) := by unfold fv; rw [if_neg (by omega), if_neg (by omega)]
theorem okW_sF {na : Nat} {w : Wd} {o k : Nat} {v : Int} (h : okW na w) : okW na (sF w o k v) := fun a i => h a i
theorem okW_sA {na : Nat} {w : Wd} {o : Nat} {i v : Int} (h : okW na w) : okW na (sA w o i v) := fun a j => h a j
theorem okW_sP {na : Nat} {w : Wd} {o : Nat} {i : Int} {v : Nat} (h : okW na w) (hv : okP na o v) : okW na (sP w o i v) := fun a j => by
  rw [gP_sP]; split
  · rename_i q; rw [q.1]; exact hv
  · exact h a j
/-- a cell of kind K, in the part dm -/
def isK (na dm K o : Nat) : Prop := kd na o = K ∧ dmo o = dm
section XH
variable {g : Cx} {d : Dl} {cc : ByteArray} {nL : Nat} {ret : Option FieldType} {own : String} {w : Wd} {lv : List (Nat × Value)} {st : List Value} {pc : Nat}
/-- the words of a field's access: plain, or of a nest mate -/
def fldW (own ref n dsc : String) (index : Nat) : Prop := Cond.fieldLink own index ref n dsc ∈ lw_tg ∨ ∃ host, Cond.fieldLinkNest own index ref n dsc host ∈ nw_tbl
/-- a class's rows: K - 1 is its place in vwCl -/
def clsW (ci : Nat) (C : String) (T : u_T) (ty : Nat → FieldType) : Prop := vwCl[ci]? = some (C, T, nf ci) ∧ (∀ q ∈ u_ws C T (nf ci), q ∈ lw_tg) ∧ (∀ k, k < nf ci → parseFieldDescriptor (T k).2.2.1 = some (ty k)) ∧ ∀ a, a < nf ci → ∀ b, b < nf ci → a ≠ b → (T a).2.1 ≠ (T b).2.1
theorem x_get0 (C : CX g cc nL ret own) {o K k index : Nat} {Cn n dsc : String} {T : u_T} {ty : Nat → FieldType} (hk : isK d.na g.dm K o) (hK : 0 < K ∧ K ≤ 10) (hc : clsW (K - 1) Cn T ty) (hkn : k < nf (K - 1)) (hT : (T k).1 = Cn ∧ (T k).2.1 = n ∧ (T k).2.2.1 = dsc) (hf : fldW own Cn n dsc index) (dg : decode cc pc = .ok (.getfield index, 3))
    (k' : XG g d (hP g d w) lv (fv d.ad w o (K - 1) k :: st) (pc + 3)) : XG g d (hP g d w) lv (.ref (d.ad o) :: st) pc := by
  intro H locs ls h1 h2 h3
  obtain ⟨q, hq, hq2⟩ := hw_get (G := g.G) (ad := d.ad) (w := w) (show kd d.na o ≠ 0 by rw [hk.1]; omega) hk.2
  rw [hk.1, cell_obj hK.2] at hq2
  obtain ⟨hc1, hc2, hc3, hc4⟩ := hc
  obtain ⟨t1, t2, t3⟩ := hT
  subst t2; subst t3
  rcases hf with hf | ⟨host, hf⟩
  · exact va_get C.x C.b C.t hc2 C.o C.K h1.1 q hq2 hc1 k hkn (C.t _ hf) (fun x hx => by rw [← t1]; exact hx) (fs_at hkn) dg (k' H locs ls h1 h2 h3)
  · exact va_getN C.x C.b C.t hc2 C.o C.K h1.1 q hq2 hc1 k hkn (va_Nw.use rfl (C.nw _ hf)) (fun x hx => by rw [← t1]; exact hx) (fs_at hkn) dg (k' H locs ls h1 h2 h3)
theorem x_get (C : CX g cc nL ret own) {o K k index : Nat} {Cn n dsc : String} {T : u_T} {ty : Nat → FieldType} (hk : isK d.na g.dm K o) (hK : 0 < K ∧ K ≤ 10) (hc : clsW (K - 1) Cn T ty) (hkn : k < nf (K - 1) ∧ ft (K - 1) k = 0) (hT : (T k).1 = Cn ∧ (T k).2.1 = n ∧ (T k).2.2.1 = dsc) (hf : fldW own Cn n dsc index) (dg : decode cc pc = .ok (.getfield index, 3))
    (k' : XG g d (hP g d w) lv (iV (gF w o k) :: st) (pc + 3)) : XG g d (hP g d w) lv (.ref (d.ad o) :: st) pc :=
  x_get0 C hk hK hc hkn.1 hT hf dg (by rw [fv_int hkn.2]; exact k')
theorem x_getr (C : CX g cc nL ret own) {o K k index o2 : Nat} {Cn n dsc : String} {T : u_T} {ty : Nat → FieldType} (hk : isK d.na g.dm K o) (hK : 0 < K ∧ K ≤ 10) (hc : clsW (K - 1) Cn T ty) (hkn : k < nf (K - 1) ∧ ft (K - 1) k = 1) (hT : (T k).1 = Cn ∧ (T k).2.1 = n ∧ (T k).2.2.1 = dsc) (hf : fldW own Cn n dsc index) (ho : ch o (K - 1) k = o2) (dg : decode cc pc = .ok (.getfield index, 3))
    (k' : XG g d (hP g d w) lv (.ref (d.ad o2) :: st) (pc + 3)) : XG g d (hP g d w) lv (.ref (d.ad o) :: st) pc :=
  x_get0 C hk hK hc hkn.1 hT hf dg (by rw [fv_ref hkn.2, ho]; exact k')
theorem x_put (C : CX g cc nL ret own) {o K k index : Nat} {x : Int} {Cn n dsc : String} {T : u_T} {ty : Nat → FieldType} (hk : isK d.na g.dm K o) (hK : 0 < K ∧ K ≤ 10) (hc : clsW (K - 1) Cn T ty) (hkn : k < nf (K - 1) ∧ ft (K - 1) k = 0) (hT : (T k).1 = Cn ∧ (T k).2.1 = n ∧ (T k).2.2.1 = dsc ∧ (T k).2.2.2 = false) (hf : fldW own Cn n dsc index) (hn : narrow (ty k) (iV x) = iV x ∧ fits (ty k) (iV x) = true) (dg : decode cc pc = .ok (.putfield index, 3))
    (k' : XG g d (hP g d (sF w o k x)) lv st (pc + 3)) : XG g d (hP g d w) lv (iV x :: .ref (d.ad o) :: st) pc := by
  intro H locs ls h1 h2 h3
  obtain ⟨q, hq, hq2⟩ := hw_get (G := g.G) (ad := d.ad) (w := w) (show kd d.na o ≠ 0 by rw [hk.1]; omega) hk.2
  have hs := fun e he => hw_set (G := g.G) (ad := d.ad) (w := w) (w' := sF w o k x) (e := e) h1.2.1 hq he (fun o' ho' => cell_sF_ne ho')
  rw [hk.1, cell_obj hK.2] at hq2 hs
  have hs := hs _ rfl
  rw [← fs_set (w := w) (k := k) (v := iV x) (by rw [fv_int hkn.2, gF_sF, if_pos ⟨rfl, rfl⟩]) (fun j hj => by unfold fv; simp only [gF_sF, gP_sF, hj, and_false, if_false])] at hs
  obtain ⟨hc1, hc2, hc3, hc4⟩ := hc
  obtain ⟨t1, t2, t3, t4⟩ := hT
  subst t2; subst t3
  rcases hf with hf | ⟨host, hf⟩
  · exact va_put C.x C.b C.t hc2 ty hc3 hc4 C.o C.K h1.1 h1.2.1 h2 q hq2 hc1 k hkn.1 (C.t _ hf) (fun y hy => by rw [← t1]; exact hy) t4 (hc3 k hkn.1) hn.1 hn.2 (by simpa using hkn.1) dg (fun H1 locs1 a1 a2 a3 => by rw [hs] at a1 a2; exact k' H1 locs1 ls ⟨a1, a2, okW_sF h1.2.2⟩ a3 h3)
  · exact va_putN C.x C.b C.t hc2 ty hc3 hc4 C.o C.K h1.1 h1.2.1 h2 q hq2 hc1 k hkn.1 (va_Nw.use rfl (C.nw _ hf)) (fun y hy => by rw [← t1]; exact hy) t4 (hc3 k hkn.1) hn.1 hn.2 (by simpa using hkn.1) dg (fun H1 locs1 a1 a2 a3 => by rw [hs] at a1 a2; exact k' H1 locs1 ls ⟨a1, a2, okW_sF h1.2.2⟩ a3 h3)
/-- an index that is in its row -/
def inb (i : Int) (n : Nat) : Bool := decide (0 ≤ i ∧ i < n)
theorem inb_cl {i : Int} {n : Nat} (h : inb i n = true) (hn : n < 2147483648) : (Int32.ofInt i).toNatClampNeg = i.toNat ∧ vp_in (Int32.ofInt i) n ∧ ((i.toNat : Nat) : Int) = i := by
  have h1 := of_decide_eq_true h
  have h2 : (Int32.ofInt i).toInt = i := by rw [w32_toInt, w32_id] <;> omega
  have h3 : (Int32.ofInt i).toNatClampNeg = i.toNat := by
    show (Int32.ofInt i).toInt.toNat = i.toNat
    rw [h2]
  refine ⟨h3, ?_, Int.toNat_of_nonneg h1.1⟩
  rintro (q | q)
  · rw [Int32.lt_iff_toInt_lt, h2] at q
    have : (0 : Int32).toInt = 0 := rfl
    omega
  · rw [h3] at q; omega
theorem ln_lt (o : Nat) : ln o < 2147483648 := by
  unfold ln
  have h1 : ∀ l : List Nat, l.all (fun x => decide (x < 2147483648)) = true → ∀ k, l.getD k 0 < 2147483648 := by
    intro l hl k
    rw [List.getD_eq_getElem?_getD]
    cases hk : l[k]? with
    | none => decide
    | some x => exact of_decide_eq_true (List.all_eq_true.mp hl x (List.mem_of_getElem? hk))
  split
  · exact h1 _ (by decide) _
  · exact h1 _ (by decide) _
theorem hw_arr {o K : Nat} (hk : isK d.na g.dm K o) (hK : K = 11 ∨ K = 12 ∨ K = 13) : ∃ q : Nat, (OL g.dm d.na)[q]? = some o ∧ (hw g.G g.dm d.na d.ad w)[q]? = some (d.ad o, .inl (g.G.cy (K - 11), (ln o, .inl fun i => Int32.ofInt (gA w o (i : Nat))))) := by
  obtain ⟨q, hq, hq2⟩ := hw_get (G := g.G) (ad := d.ad) (w := w) (show kd d.na o ≠ 0 by rw [hk.1]; omega) hk.2
  rw [hk.1, cell_int hK] at hq2
  exact ⟨q, hq, hq2⟩
theorem x_iald (C : CX g cc nL ret own) {o : Nat} {i : Int} (hk : isK d.na g.dm 11 o) (hin : inb i (ln o) = true) (dg : decode cc pc = .ok (.iaload, 1))
    (k' : XG g d (hP g d w) lv (iV (gA w o i) :: st) (pc + 1)) : XG g d (hP g d w) lv (iV i :: .ref (d.ad o) :: st) pc := by
  intro H locs ls h1 h2 h3
  obtain ⟨q, hq, hq2⟩ := hw_arr (g := g) (d := d) (w := w) hk (Or.inl rfl)
  obtain ⟨e1, e2, e3⟩ := inb_cl hin (ln_lt o)
  refine va_iald C.x C.b C.K h1.1 q 0 hq2 rfl e2 dg ?_
  rw [e1, e3]
  exact k' H locs ls h1 h2 h3
theorem x_bald (C : CX g cc nL ret own) {o : Nat} {i : Int} (hk : isK d.na g.dm 12 o) (hin : inb i (ln o) = true) (dg : decode cc pc = .ok (.baload, 1))
    (k' : XG g d (hP g d w) lv (iV (gA w o i) :: st) (pc + 1)) : XG g d (hP g d w) lv (iV i :: .ref (d.ad o) :: st) pc := by
  intro H locs ls h1 h2 h3
  obtain ⟨q, hq, hq2⟩ := hw_arr (g := g) (d := d) (w := w) hk (Or.inr (Or.inl rfl))
  obtain ⟨e1, e2, e3⟩ := inb_cl hin (ln_lt o)
  refine va_bald C.x C.b C.K h1.1 q 1 hq2 rfl e2 dg ?_
  rw [e1, e3]
  exact k' H locs ls h1 h2 h3
theorem upd_sA {w : Wd} {o : Nat} {i x y : Int} {z : Int32} (hi : ((i.toNat : Nat) : Int) = i) (hz : z = Int32.ofInt y) : (fun j : Nat => Int32.ofInt (gA (sA w o i y) o (j : Nat))) = upd (fun j : Nat => Int32.ofInt (gA w o (j : Nat))) i.toNat z := by
  funext j
  unfold upd
  rw [gA_sA]
  by_cases c : j = i.toNat
  · subst c
    rw [if_pos ⟨rfl, hi⟩, if_pos rfl, hz]
  · rw [if_neg (fun q => c (by omega)), if_neg c]
theorem hw_stA {A : Nat → Prop} {o K q : Nat} {i y : Int} {z : Int32} (hD : va_D A (hw g.G g.dm d.na d.ad w)) (hq : (OL g.dm d.na)[q]? = some o) (hk : isK d.na g.dm K o) (hK : K = 11 ∨ K = 12 ∨ K = 13) (hi : ((i.toNat : Nat) : Int) = i) (hz : z = Int32.ofInt y) :
    (hw g.G g.dm d.na d.ad w).set q (d.ad o, .inl (g.G.cy (K - 11), (ln o, .inl (upd (fun j : Nat => Int32.ofInt (gA w o (j : Nat))) i.toNat z)))) = hw g.G g.dm d.na d.ad (sA w o i y) := by
  refine hw_set hD hq ?_ (fun o' ho' => cell_sA_ne ho')
  rw [hk.1, cell_int hK, upd_sA (x := 0) hi hz]
theorem x_iast (C : CX g cc nL ret own) {o : Nat} {i x : Int} (hk : isK d.na g.dm 11 o) (hin : inb i (ln o) = true) (dg : decode cc pc = .ok (.iastore, 1))
    (k' : XG g d (hP g d (sA w o i x)) lv st (pc + 1)) : XG g d (hP g d w) lv (iV x :: iV i :: .ref (d.ad o) :: st) pc := by
  intro H locs ls h1 h2 h3
  obtain ⟨q, hq, hq2⟩ := hw_arr (g := g) (d := d) (w := w) hk (Or.inl rfl)
  obtain ⟨e1, e2, e3⟩ := inb_cl hin (ln_lt o)
  refine va_iast C.x C.b C.K h1.1 h1.2.1 h2 q 0 hq2 rfl e2 dg (fun H1 locs1 a1 a2 a3 => ?_)
  rw [e1, hw_stA (K := 11) h1.2.1 hq hk (Or.inl rfl) e3 rfl] at a1 a2
  exact k' H1 locs1 ls ⟨a1, a2, okW_sA h1.2.2⟩ a3 h3
theorem x_bast (C : CX g cc nL ret own) {o : Nat} {i x : Int} (hk : isK d.na g.dm 12 o) (hin : inb i (ln o) = true) (dg : decode cc pc = .ok (.bastore, 1))
    (k' : XG g d (hP g d (sA w o i (i8 x))) lv st (pc + 1)) : XG g d (hP g d w) lv (iV x :: iV i :: .ref (d.ad o) :: st) pc := by
  intro H locs ls h1 h2 h3
  obtain ⟨q, hq, hq2⟩ := hw_arr (g := g) (d := d) (w := w) hk (Or.inr (Or.inl rfl))
  obtain ⟨e1, e2, e3⟩ := inb_cl hin (ln_lt o)
  refine va_bast C.x C.b C.K h1.1 h1.2.1 h2 q 1 hq2 rfl e2 dg (fun H1 locs1 a1 a2 a3 => ?_)
  rw [e1, hw_stA (K := 12) (y := i8 x) h1.2.1 hq hk (Or.inr (Or.inl rfl)) e3 (by rw [vp_nar_byte, i8_i])] at a1 a2
  exact k' H1 locs1 ls ⟨a1, a2, okW_sA h1.2.2⟩ a3 h3
theorem x_alen (C : CX g cc nL ret own) {o : Nat} (hk : isK d.na g.dm 11 o) (dg : decode cc pc = .ok (.arraylength, 1))
    (k' : XG g d (hP g d w) lv (iV (ln o : Nat) :: st) (pc + 1)) : XG g d (hP g d w) lv (.ref (d.ad o) :: st) pc := by
  intro H locs ls h1 h2 h3
  obtain ⟨q, hq, hq2⟩ := hw_arr (g := g) (d := d) (w := w) hk (Or.inl rfl)
  exact va_alen C.x C.b C.K h1.1 q 0 hq2 rfl (by rw [← Int32.ofInt_eq_ofNat]) dg (k' H locs ls h1 h2 h3)
end XH
/-! ===== contracts ===== -/
def rg (dm na : Nat) (ad : Nat → Nat) (sz : Nat) : Nat → Prop := fun q => (∃ o, o ∈ OL dm na ∧ ad o = q) ∨ sz ≤ q
def rmv (f lo mc ms : Nat) : Room := { frames := f, cells := mc, slots := ms, locals := lo }
abbrev WSx (y : MethodName) (cc : ByteArray) (nL : Nat) (ret : Option FieldType) : List Cond := .code y cc nL ret :: lw_tg
def preS (G : Gd) (dm na : Nat) (ad : Nat → Nat) (w : Wd) (sz : Nat) (U : State) : Prop :=
  U.heap.size = sz ∧ wdH G dm na ad w (fun _ => True) U.heap ∧ va_K G.1 vwCl (tysG G) U ∧ (∀ q ∈ nw_tbl, va_Nw q U) ∧ ES G (rg dm na ad sz) U U.heap
theorem good_tg {y : MethodName} {cc : ByteArray} {nL : Nat} {ret : Option FieldType} (h : Cond.code y cc nL ret ∈ lw_tg) : GoodIn lw_tg (WSx y cc nL ret) := by
  intro w hw
  rcases List.mem_cons.mp hw with e | hw
  · rw [e]; exact ⟨h, good_of_word (List.mem_filter.mp h).2⟩
  · exact ⟨hw, good_of_word (List.mem_filter.mp hw).2⟩
theorem wdH.self {G : Gd} {dm na : Nat} {ad : Nat → Nat} {w : Wd} {H : Heap} {sz : Nat} {A : Nat → Prop} (h : wdH G dm na ad w A H) : wdH G dm na ad w (rg dm na ad sz) H := by
  refine ⟨h.1, ⟨h.2.1.1, fun k q hk => ?_⟩, h.2.2⟩
  unfold hw at hk
  rw [List.getElem?_map] at hk
  cases ho : (OL dm na)[k]? with
  | none => rw [ho] at hk; cases hk
  | some o =>
    rw [ho] at hk
    cases hk
    exact Or.inl ⟨o, List.mem_of_getElem? ho, rfl⟩
theorem wdH.weaken {G : Gd} {dm na : Nat} {ad : Nat → Nat} {w : Wd} {H : Heap} {A B : Nat → Prop} (h : wdH G dm na ad w A H) (hAB : ∀ q, A q → B q) : wdH G dm na ad w B H :=
  ⟨h.1, h.2.1.weaken (fun _ q _ hq => hAB q.1 hq), h.2.2⟩
theorem wdH.in {G : Gd} {dm na : Nat} {ad : Nat → Nat} {w : Wd} {H : Heap} {A : Nat → Prop} {o : Nat} (h : wdH G dm na ad w A H) (ho : o ∈ OL dm na) : A (ad o) := by
  obtain ⟨k, hk⟩ := List.getElem?_of_mem ho
  exact h.2.1.2 k (ad o, cellOf G.cy ad w (kd na o) o) (by unfold hw; rw [List.getElem?_map, hk]; rfl)
theorem wdH.rg {G : Gd} {dm na : Nat} {ad : Nat → Nat} {w : Wd} {H H0 : Heap} {A : Nat → Prop} {locs : List Loc} (h : wdH G dm na ad w A H) (hS : va_S A H0 H locs) (hA : ∀ q : Nat, H0.size ≤ q → A q) : ∀ q, rg dm na ad H.size q → A q := by
  rintro q (⟨o, ho, rfl⟩ | hq)
  · exact h.in ho
  · exact hA q (Nat.le_trans hS.1 hq)
theorem preS.blind {G : Gd} {dm na : Nat} {ad : Nat → Nat} {w : Wd} {sz : Nat} {vs : List Value} : FrameBlind (va_Pc vs (preS G dm na ad w sz)) := by
  rintro a U g mk ⟨h1, h2, h3, h4, h5, h6⟩
  exact ⟨h1, h2, h3, va_K.moved (u := U) (U := U.calling g mk a) (Vm.Alike.refl U.vm) h4, nw_same (u := U) (U := U.calling g mk a) rfl h5, ES.same (u := U) (U := U.calling g mk a) h6 rfl⟩
/-- an instance method's own words -/
def mfV (y : MethodName) (cc : ByteArray) (nL : Nat) (ret : Option FieldType) (n : Nat) : Prop :=
  Cond.instanceMethod y ∈ lw_tg ∧ Cond.selects y.cls y y ∈ lw_tg ∧ Cond.initialized y.cls ∈ lw_tg ∧ Cond.code y cc nL ret ∈ lw_tg ∧ y.cls ≠ "java/lang/invoke/MethodHandle" ∧ y.cls ≠ "java/lang/invoke/VarHandle" ∧ (parseMethodDescriptor y.desc).map (fun d => d.parameters.length) = some n
def mfS (y : MethodName) (cc : ByteArray) (nL : Nat) (ret : Option FieldType) (n : Nat) : Prop :=
  Cond.static y ∈ lw_tg ∧ Cond.initialized y.cls ∈ lw_tg ∧ Cond.code y cc nL ret ∈ lw_tg ∧ y.cls ≠ "java/lang/invoke/MethodHandle" ∧ y.cls ≠ "java/lang/invoke/VarHandle" ∧ (parseMethodDescriptor y.desc).map (fun d => d.parameters.length) = some n
/-- a method that answers a number / nothing / a float / a double, makes nothing, throws nothing -/
def mI (l : Launch) (y : MethodName) (cc : ByteArray) (nL : Nat) (ret : Option FieldType) (rm : Room) (G : Gd) (dm na : Nat) (ad : Nat → Nat) (vs : List Value) (w : Wd) (r : Int) (w' : Wd) : Prop :=
  ∀ sz : Nat, Met l y (WSx y cc nL ret) rm (va_Pc vs (preS G dm na ad w sz)) (va_Qi (fun v (_ : Unit) => v = Int32.ofInt r) (fun _ t => wdH G dm na ad w' (rg dm na ad sz) t.heap) (rg dm na ad sz)) 0 0 (rg dm na ad sz)
def mV (l : Launch) (y : MethodName) (cc : ByteArray) (nL : Nat) (ret : Option FieldType) (rm : Room) (G : Gd) (dm na : Nat) (ad : Nat → Nat) (vs : List Value) (w : Wd) (w' : Wd) : Prop :=
  ∀ sz : Nat, Met l y (WSx y cc nL ret) rm (va_Pc vs (preS G dm na ad w sz)) (va_Qv (fun (_ : Unit) => True) (fun _ t => wdH G dm na ad w' (rg dm na ad sz) t.heap) (rg dm na ad sz)) 0 0 (rg dm na ad sz)
def mF (l : Launch) (y : MethodName) (cc : ByteArray) (nL : Nat) (ret : Option FieldType) (rm : Room) (G : Gd) (dm na : Nat) (ad : Nat → Nat) (vs : List Value) (w : Wd) (r : UInt32) (w' : Wd) : Prop :=
  ∀ sz : Nat, Met l y (WSx y cc nL ret) rm (va_Pc vs (preS G dm na ad w sz)) (va_Qf (fun v (_ : Unit) => v = r) (fun _ t => wdH G dm na ad w' (rg dm na ad sz) t.heap) (rg dm na ad sz)) 0 0 (rg dm na ad sz)
def mD (l : Launch) (y : MethodName) (cc : ByteArray) (nL : Nat) (ret : Option FieldType) (rm : Room) (G : Gd) (dm na : Nat) (ad : Nat → Nat) (vs : List Value) (w : Wd) (r : UInt64) (w' : Wd) : Prop :=
  ∀ sz : Nat, Met l y (WSx y cc nL ret) rm (va_Pc vs (preS G dm na ad w sz)) (va_Qd (fun v (_ : Unit) => v = r) (fun _ t => wdH G dm na ad w' (rg dm na ad sz) t.heap) (rg dm na ad sz)) 0 0 (rg dm na ad sz)
/-- the bundle of a method's start -/
def stX (g : Cx) (d : Dl) (l : Launch) (rm : Room) (G : Gd) (dm na : Nat) (ad : Nat → Nat) : Prop := g.l = l ∧ g.R = rm ∧ g.G = G ∧ g.dm = dm ∧ d = (na, ad, 0, 0) ∧ ∀ q : Nat, g.s.heap.size ≤ q → g.A q
theorem start_X {l : Launch} {y : MethodName} {cc : ByteArray} {nL : Nat} {ret : Option FieldType} {rm : Room} {G : Gd} {dm na : Nat} {ad : Nat → Nat} {vs : List Value} {w : Wd} {Qc : Array Value → State → Outcome → State → Prop} {sz : Nat}
    (hy : plainName y.cls = true) (hlen : (lg_sl vs).length ≤ nL)
    (body : ∀ (g : Cx) (d : Dl), CX g cc nL ret y.cls → stX g d l rm G dm na ad → g.A = rg dm na ad sz → g.s.heap.size = sz → g.Q = MQ g.below Qc g.args g.s 0 0 (rg dm na ad sz) → XG g d (hP g d w) (lv_args 0 vs) [] 0) :
    Met l y (WSx y cc nL ret) rm (va_Pc vs (preS G dm na ad w sz)) Qc 0 0 (rg dm na ad sz) := by
  refine Met.ofW (cc := cc) (maxL := nL) (ret := ret) hy rfl ?_
  intro p e s m args below meth c s₁ B hml hv
  obtain ⟨rfl, hsz, hwd, hK, hN, hE⟩ := hv
  have hts := atoms_spec (ws := WSx y cc nL ret) B.pre
  have hown : s.vm.findClass y.cls = some m.cls := findClass_of_methodNamed B.named
  have hl := lv_entry vs (n := nL) hlen
  rw [lg_entry_eq]
  refine body (p, l, e, rm, s, m, vs.toArray, below, meth, c, nL, _, G, rg dm na ad sz, dm) (na, ad, 0, 0) ⟨B.exec, B.bytes, hml, rfl, B.returns, B.notSynchronized, hown, fun q hq => hts q (List.mem_cons_of_mem _ hq), hN, hK, hE⟩ ⟨rfl, rfl, rfl, rfl, rfl, fun q hq => Or.inr (hsz ▸ hq)⟩ rfl hsz rfl s.heap [] _ hwd.self va_S.rf hl
section XC
variable {g : Cx} {d : Dl} {cc : ByteArray} {nL : Nat} {ret : Option FieldType} {own : String} {w : Wd} {lv : List (Nat × Value)} {st : List Value} {pc : Nat}
theorem xrecv_of (C : CX g cc nL ret own) {A : Nat → Prop} {H : Heap} (h1 : wdH g.G g.dm d.na d.ad w A H) {o K : Nat} {Cn : String} {T : u_T} (hk : isK d.na g.dm K o) (hK : 0 < K ∧ K ≤ 10) (hc : vwCl[K - 1]? = some (Cn, T, nf (K - 1))) :
    ∃ cell : Cell, H[d.ad o]? = some cell ∧ cell.vm.isStatics = false ∧ g.s.vm.findClass Cn = some cell.cls := by
  obtain ⟨q, hq, hq2⟩ := hw_get (G := g.G) (ad := d.ad) (w := w) (show kd d.na o ≠ 0 by rw [hk.1]; omega) hk.2
  rw [hk.1, cell_obj hK.2] at hq2
  exact va_recv C.K h1.1 hc hq2
theorem pre_of (C : CX g cc nL ret own) {H : Heap} {locs : List Loc} (h1 : wdH g.G g.dm d.na d.ad w g.A H) (h2 : va_S g.A g.s.heap H locs) (hF : ∀ q, rg g.dm d.na d.ad H.size q → g.A q) {vs : List Value} : ∀ U : State, U.heap = H → g.s.WarmedH U.vm → va_Pc vs (preS g.G g.dm d.na d.ad w H.size) vs.toArray U :=
  fun U hU hW => ⟨rfl, by rw [hU], by rw [hU]; exact h1.weaken (fun _ _ => trivial), va_K.moved hW.alike C.K, nw_moved hW C.nw, by rw [hU]; exact C.E.go hW h2.2.1 hF⟩
theorem x_callVi (C : CX g cc nL ret own) {rmO : Room} (hA : ∀ q : Nat, g.s.heap.size ≤ q → g.A q) (hR : g.R = rmO) {y : MethodName} {cc' : ByteArray} {nL' n index : Nat} {ret' : Option FieldType} {rm : Room} {o K : Nat} {T : u_T} {As rest stk : List Value} {α : Type} {pv : Option (Int × Wd)} {Kt : Int × Wd → Option α} {res : α}
    (hf : mfV y cc' nL' ret' n) (hlk : Cond.methodLink own index y ∈ lw_tg) (hcl : vwCl[K - 1]? = some (y.cls, T, nf (K - 1))) (hk : isK d.na g.dm K o) (hK : 0 < K ∧ K ≤ 10) (hrm : rm.cells = 0 ∧ rm.slots = 0) (hrr : rm.frames + 1 ≤ rmO.frames ∧ 8 + (nL' + 11) + rm.locals ≤ rmO.locals)
    (hst : stk = As.reverse ++ .ref (d.ad o) :: rest) (hn : As.length = n) (hro : (rest.map fun v => v.category).sum ≤ 8) (hce : d.ce ≤ g.R.cells ∧ d.so ≤ g.R.slots) (dg : decode cc pc = .ok (.invokevirtual index, 3))
    (hq : pv.bind Kt = some res) (hM : ∀ r w', pv = some (r, w') → mI g.l y cc' nL' ret' rm g.G g.dm d.na d.ad (.ref (d.ad o) :: As) w r w')
    (k' : ∀ r w', pv = some (r, w') → Kt (r, w') = some res → XG g d (hP g d w') lv (iV r :: rest) (pc + 3)) : XG g d (hP g d w) lv stk pc := by
  intro H locs ls h1 h2 h3
  obtain ⟨⟨r, w'⟩, hpv, hq⟩ := Option.bind_eq_some_iff.mp hq
  obtain ⟨f1, f2, f3, f4, f5, f6, f7⟩ := hf
  have hF := wdH.rg h1 h2 hA
  refine va_calli (va_runV (C := y.cls) (As := As) (rest := rest) ⟨C.x, C.b, C.ml, C.o, C.t⟩ (hM r w' hpv H.size)
    ⟨callB_of n C.t (good_tg f4) rfl hrm.1 hrm.2 (C.t _ f3) (C.t _ hlk) ⟨f5, f6, f7⟩ (by rw [hR]; exact hrr), C.t _ f1, C.t _ f2⟩
    ⟨preS.blind, xrecv_of C h1 hk hK hcl, pre_of C h1 h2 hF⟩ rfl hn (by show ls.size = nL; rw [h3.1, C.n]) hst (lv_room hro) dg ⟨hce.1, hce.2⟩) h2 (fun q _ h => hF q h) hF (fun v u t H1 locs1 ht hvm hw hB hz1 hk1 hS => ?_)
  have hB : wdH g.G g.dm d.na d.ad w' (rg g.dm d.na d.ad H.size) t.heap := hB
  rw [ht] at hB
  rw [hw]
  exact k' r w' hpv hq H1 locs1 ls (hB.weaken hF) hS h3
end XC
