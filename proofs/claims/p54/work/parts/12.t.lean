/-! ===== the JDK's builders and strings, walked over lists of cells ===== -/
theorem ltq {a b : Int} (h : -2147483648 ≤ a ∧ a < 2147483648 ∧ -2147483648 ≤ b ∧ b < 2147483648) : (lt32 a b = true) = (a < b) := by
  unfold lt32; rw [decide_eq_true_iff, w32_id h.1 h.2.1, w32_id h.2.2.1 h.2.2.2]
theorem eqq {a b : Int} (h : -2147483648 ≤ a ∧ a < 2147483648 ∧ -2147483648 ≤ b ∧ b < 2147483648) : (eq32 a b = true) = (a = b) := by
  unfold eq32; rw [decide_eq_true_iff, w32_id h.1 h.2.1, w32_id h.2.2.1 h.2.2.2]
theorem mxq {a b : Int} (h : -2147483648 ≤ a ∧ a < 2147483648 ∧ -2147483648 ≤ b ∧ b < 2147483648) : mx32 a b = max a b := by
  unfold mx32
  by_cases c : a < b
  · rw [if_pos ((ltq h).mpr c)]; omega
  · rw [if_neg (fun z => c ((ltq h).mp z))]; omega
theorem mnq {a b : Int} (h : -2147483648 ≤ a ∧ a < 2147483648 ∧ -2147483648 ≤ b ∧ b < 2147483648) : mn32 a b = min a b := by
  unfold mn32
  by_cases c : b < a
  · rw [if_pos ((ltq ⟨h.2.2.1, h.2.2.2, h.1, h.2.1⟩).mpr c)]; omega
  · rw [if_neg (fun z => c ((ltq ⟨h.2.2.1, h.2.2.2, h.1, h.2.1⟩).mp z))]; omega
theorem sl_0 {x : Int} (h : -2147483648 ≤ x ∧ x < 2147483648) : sl32 x 0 = x := by
  unfold sl32
  rw [show Int32.ofInt 0 = (0 : Int32) from rfl, sb_shl0, w32_toInt, w32_id h.1 h.2]
theorem sr_0 {x : Int} (h : -2147483648 ≤ x ∧ x < 2147483648) : sr32 x 0 = x := by
  unfold sr32
  rw [show Int32.ofInt 0 = (0 : Int32) from rfl, sb_shr0, w32_toInt, w32_id h.1 h.2]
theorem i8q {x : Int} (h : -128 ≤ x ∧ x < 128) : i8 x = x := by unfold i8; rw [Int.bmod_def]; omega
theorem gU {own Cn owner : String} {idx nL : Nat} {x y : MethodName} {cc : ByteArray} {ret : Option FieldType} (h1 : Cond.methodLink own idx x ∈ lw_tg) (h2 : Cond.sameMethod x.cls owner x.name x.desc ∈ lw_tg) (h3 : Cond.selects Cn x y ∈ lw_tg) (h4 : Cond.instanceMethod y ∈ lw_tg) (h5 : Cond.initialized y.cls ∈ lw_tg) (h6 : Cond.code y cc nL ret ∈ lw_tg) : GoodIn lw_tg (va_wsU own idx Cn owner x y (WSx y cc nL ret)) := by
  intro w hw
  have hm : w ∈ lw_tg := by
    unfold va_wsU at hw
    rcases List.mem_append.mp hw with h | h
    · simp only [List.mem_cons, List.not_mem_nil, or_false] at h
      rcases h with rfl | rfl | rfl | rfl | rfl <;> assumption
    · rcases List.mem_cons.mp h with rfl | h
      · exact h6
      · exact h
  exact ⟨hm, good_of_word (List.mem_filter.mp hm).2⟩
theorem gO {own Cn owner : String} {idx nL : Nat} {x y : MethodName} {cc : ByteArray} {ret : Option FieldType} (h1 : Cond.methodLink own idx x ∈ lw_tg) (h2 : Cond.sameMethod x.cls owner x.name x.desc ∈ lw_tg) (h0 : Cond.instanceMethod ⟨owner, x.name, x.desc⟩ ∈ lw_tg) (h3 : Cond.selects Cn x y ∈ lw_tg) (h4 : Cond.instanceMethod y ∈ lw_tg) (h5 : Cond.initialized y.cls ∈ lw_tg) (h6 : Cond.code y cc nL ret ∈ lw_tg) : GoodIn lw_tg (va_wsO own idx Cn owner x y (WSx y cc nL ret)) := by
  intro w hw
  have hm : w ∈ lw_tg := by
    unfold va_wsO at hw
    rcases List.mem_append.mp hw with h | h
    · simp only [List.mem_cons, List.not_mem_nil, or_false] at h
      rcases h with rfl | rfl | rfl | rfl | rfl | rfl <;> assumption
    · rcases List.mem_cons.mp h with rfl | h
      · exact h6
      · exact h
  exact ⟨hm, good_of_word (List.mem_filter.mp hm).2⟩
theorem gS {own : String} {idx nL : Nat} {y : MethodName} {cc : ByteArray} {ret : Option FieldType} (h1 : Cond.methodLink own idx y ∈ lw_tg) (h2 : Cond.sameMethod y.cls y.cls y.name y.desc ∈ lw_tg) (h3 : Cond.superclass own y.cls ∈ lw_tg) (h4 : Cond.instanceMethod y ∈ lw_tg) (h5 : Cond.initialized y.cls ∈ lw_tg) (h6 : Cond.code y cc nL ret ∈ lw_tg) : GoodIn lw_tg (va_wsSU own idx y (WSx y cc nL ret)) := by
  intro w hw
  have hm : w ∈ lw_tg := by
    unfold va_wsSU at hw
    rcases List.mem_append.mp hw with h | h
    · simp only [List.mem_cons, List.not_mem_nil, or_false] at h
      rcases h with rfl | rfl | rfl | rfl | rfl <;> assumption
    · rcases List.mem_cons.mp h with rfl | h
      · exact h6
      · exact h
  exact ⟨hm, good_of_word (List.mem_filter.mp hm).2⟩
theorem cl_J0 : clsW 10 RJ0 TJ0 tyJ0 := ⟨rfl, (fun q hq => tg_mk ⟨(by decide +kernel : ∀ q ∈ u_ws RJ0 TJ0 (nf 10), q ∈ lw_tbl) q hq, (by decide +kernel : ∀ q ∈ u_ws RJ0 TJ0 (nf 10), goodWord q = true) q hq⟩), tyJ0_ok, nmJ0⟩
theorem cl_J4 : clsW 11 RJ4 TJ4 tyJ4 := ⟨rfl, (fun q hq => tg_mk ⟨(by decide +kernel : ∀ q ∈ u_ws RJ4 TJ4 (nf 11), q ∈ lw_tbl) q hq, (by decide +kernel : ∀ q ∈ u_ws RJ4 TJ4 (nf 11), goodWord q = true) q hq⟩), tyJ4_ok, nmJ4⟩
theorem permA {α : Type} (s n a : α) (X : List α) : ((s :: n :: X) ++ [a]).Perm (s :: a :: (X ++ [n])) := by
  refine List.Perm.cons s ?_
  refine (List.perm_append_singleton a (n :: X)).trans (List.Perm.cons a ?_)
  exact (List.perm_append_singleton n X).symm
theorem x_hL {g : Cx} {d : Dl} {hp hp' : Heap → Prop} {lv : List (Nat × Value)} {st : List Value} {pc : Nat} (h : ∀ H, hp H → hp' H) (k : XG g d hp' lv st pc) : XG g d hp lv st pc := fun H locs ls h1 h2 h3 => k H locs ls (h H h1) h2 h3
theorem rcB {g : Cx} {cc : ByteArray} {nL : Nat} {ret : Option FieldType} {own : String} (C : CX g cc nL ret own) {hb : Nat} {fs : List Value} {X : va_W} : ∀ (H : Heap) (locs : List Loc), hL g ((hb, .inr (11, fs)) :: X) H → va_S g.A g.s.heap H locs → ∃ cell : Cell, H[hb]? = some cell ∧ cell.vm.isStatics = false ∧ g.s.vm.findClass "java/lang/StringBuilder" = some cell.cls :=
  fun H locs h1 h2 => va_recv (q0 := 0) (ci := 11) (q := (RJ4, TJ4, 4)) C.K h1.1 rfl rfl
theorem rcS {g : Cx} {cc : ByteArray} {nL : Nat} {ret : Option FieldType} {own : String} (C : CX g cc nL ret own) {hb : Nat} {fs : List Value} {X : va_W} : ∀ (H : Heap) (locs : List Loc), hL g ((hb, .inr (10, fs)) :: X) H → va_S g.A g.s.heap H locs → ∃ cell : Cell, H[hb]? = some cell ∧ cell.vm.isStatics = false ∧ g.s.vm.findClass "java/lang/String" = some cell.cls :=
  fun H locs h1 h2 => va_recv (q0 := 0) (ci := 10) (q := (RJ0, TJ0, 4)) C.K h1.1 rfl rfl
theorem rcK {g : Cx} {cc : ByteArray} {nL : Nat} {ret : Option FieldType} {own : String} (C : CX g cc nL ret own) {hp : Heap → Prop} {i : Nat} (hi : i < 14) : ∀ (H : Heap) (locs : List Loc), hp H → va_S g.A g.s.heap H locs → ∃ cell : Cell, H[g.G.aK i]? = some cell ∧ cell.vm.isStatics = false ∧ g.s.vm.findClass "java/lang/String" = some cell.cls :=
  fun H locs h1 h2 => srecv C hi H locs h2
theorem va_cpy_at {f g : Nat → Int32} {sp dp n j : Nat} : va_cpy f g sp dp n j = if dp ≤ j ∧ j < dp + n then f (sp + (j - dp)) else g j := rfl
theorem setLast {α : Type} (ws : List α) (x y : α) : (ws ++ [x]).set ws.length y = ws ++ [y] := by
  induction ws with
  | nil => rfl
  | cons a l ih => show a :: ((l ++ [x]).set l.length y) = _; rw [ih]; rfl
theorem getLast' {α : Type} (ws : List α) (x : α) : (ws ++ [x])[ws.length]? = some x := by simp
def bcon (a : Nat → Int32) (t : List Int) : Prop := ∀ j, j < t.length → a j = Int32.ofInt (t.getD j 0)
/-- the cells of a builder that holds the text t -/
def TXb (G : Gd) (hb : Nat) (t : List Int) (X ws : va_W) : Prop := ∃ (ha m : Nat) (a : Nat → Int32), ws = sbc hb ha (t.length : Nat) :: bya G ha m a :: X ∧ t.length ≤ m ∧ m ≤ 800 ∧ bcon a t ∧ fitB a
theorem getD_app_l {t s : List Int} {j : Nat} (h : j < t.length) : (t ++ s).getD j 0 = t.getD j 0 := by
  rw [List.getD_eq_getElem?_getD, List.getD_eq_getElem?_getD, List.getElem?_append_left h]
theorem getD_app_r {t s : List Int} {j : Nat} : (t ++ s).getD (t.length + j) 0 = s.getD j 0 := by
  rw [List.getD_eq_getElem?_getD, List.getD_eq_getElem?_getD, List.getElem?_append_right (Nat.le_add_right _ _), Nat.add_sub_cancel_left]
theorem fit_i8 (x : Int) : fits .byte (.int (Int32.ofInt (i8 x))) = true := by rw [← i8_i]; exact pk_fb _
theorem fitB_upd {a : Nat → Int32} (h : fitB a) (k : Nat) (x : Int) : fitB (upd a k (Int32.ofInt (i8 x))) := fun j => by
  unfold upd
  by_cases c : j = k
  · rw [if_pos c]; exact fit_i8 x
  · rw [if_neg c]; exact h j
theorem upd_at (a : Nat → Int32) (k : Nat) (x : Int32) : upd a k x k = x := if_pos rfl
theorem upd_ne {a : Nat → Int32} {k j : Nat} {x : Int32} (h : j ≠ k) : upd a k x j = a j := if_neg h
theorem bcon_put {a : Nat → Int32} {t : List Int} {c : Int} (hc : bcon a t) (h : 0 ≤ c ∧ c < 128) {k : Nat} (hk : k = t.length) : bcon (upd a k (Int32.ofInt (i8 c))) (t ++ [c]) := fun j hj => by
  subst hk
  rw [List.length_append] at hj
  by_cases e : j = t.length
  · subst e
    rw [upd_at, i8q (by omega), show t.length = t.length + 0 from rfl, getD_app_r]; rfl
  · have hj2 : j < t.length := by simp at hj; omega
    rw [upd_ne e, getD_app_l hj2]; exact hc j hj2
theorem bcon_sub {a a' : Nat → Int32} {t : List Int} {m : Nat} (hc : bcon a t) (h : t.length ≤ m) (he : ∀ j, j < m → a' j = a j) : bcon a' t := fun j hj => (he j (by omega)).trans (hc j hj)
theorem txb_put {G : Gd} {hb ha m : Nat} {a : Nat → Int32} {t : List Int} {c : Int} {X : va_W} {n : Int} {k : Nat} (h1 : t.length + 1 ≤ m) (h2 : m ≤ 800) (hc : bcon a t) (hf : fitB a) (h : 0 ≤ c ∧ c < 128) (hn : n = (t.length : Nat) + 1) (hk : k = t.length) : TXb G hb (t ++ [c]) X (sbc hb ha n :: bya G ha m (upd a k (Int32.ofInt (i8 c))) :: X) :=
  ⟨ha, m, _, by rw [List.length_append, hn]; rfl, by rw [List.length_append]; exact h1, h2, bcon_put hc h hk, fitB_upd hf _ _⟩
/-- the digits of a number below 100 -/
def digs (v : Int) : List Int := if v < 10 then [48 + v] else [48 + v / 10, 48 + v % 10]
theorem digs_len (v : Int) : (digs v).length = if v < 10 then 1 else 2 := by unfold digs; split <;> rfl
/-- a constant text -/
def ctx (i : Nat) : List Int := (bytT.getD i []).map fun x => x.toInt
theorem ctx_len : ∀ i, i < 14 → (ctx i).length = slen i := by decide +kernel
theorem ctx_at : ∀ i, i < 14 → ∀ j, j < slen i → (bytT.getD i []).getD j 0 = Int32.ofInt ((ctx i).getD j 0) := by decide +kernel
theorem bytT_fitB {i : Nat} (hi : i < 14) : fitB (fun j => (bytT.getD i []).getD j 0) := fun j => by
  by_cases h : j < slen i
  · exact bytT_fit i hi j h
  · have e : (bytT.getD i []).getD j 0 = 0 := by
      have hl : (bytT.getD i []).length = slen i := (by decide +kernel : ∀ i, i < 14 → (bytT.getD i []).length = slen i) i hi
      rw [List.getD_eq_getElem?_getD, List.getElem?_eq_none (by omega)]; rfl
    show fits .byte (.int ((bytT.getD i []).getD j 0)) = true
    rw [e]; rfl
theorem txb_cat {G : Gd} {hb ha m i : Nat} {a : Nat → Int32} {t : List Int} {X : va_W} {n : Int} (hi : i < 14) (h1 : t.length + slen i ≤ m) (h2 : m ≤ 800) (hc : bcon a t) (hf : fitB a) (hn : n = (t.length : Nat) + (slen i : Nat)) : TXb G hb (t ++ ctx i) X (sbc hb ha n :: bya G ha m (va_cpy (fun j => (bytT.getD i []).getD j 0) a 0 t.length (slen i)) :: X) := by
  refine ⟨ha, m, _, by rw [List.length_append, ctx_len i hi, hn]; rfl, by rw [List.length_append, ctx_len i hi]; exact h1, h2, fun j hj => ?_, sb_fitC (bytT_fitB hi) hf⟩
  rw [List.length_append, ctx_len i hi] at hj
  rw [va_cpy_at]
  by_cases e : j < t.length
  · rw [if_neg (by omega), getD_app_l e]; exact hc j e
  · obtain ⟨k, rfl⟩ : ∃ k, j = t.length + k := ⟨j - t.length, by omega⟩
    rw [if_pos (by omega), getD_app_r, show 0 + (t.length + k - t.length) = k by omega]
    exact ctx_at i hi k (by omega)
/-- the tables of digits -/
theorem x_dig {g : Cx} {d : Dl} {cc : ByteArray} {nL : Nat} {ret : Option FieldType} {own : String} {hp : Heap → Prop} {lv : List (Nat × Value)} {st : List Value} {pc : Nat} (C : CX g cc nL ret own) {n : String} {t index : Nat} (hz : va_Z "java/lang/Integer" n "[B" (.ref t) g.A g.s g.s.heap) (hl : Cond.fieldLink own index "java/lang/Integer" n "[B" ∈ lw_tg) (dg : decode cc pc = .ok (.getstatic index, 3)) (k : XG g d hp lv (.ref t :: st) (pc + 3)) : XG g d hp lv st pc :=
  fun H locs ls h1 h2 h3 => va_gets C.x C.b hz h2 C.o (C.t _ hl) (fun _ h => h) dg (k H locs ls h1 h2 h3)
theorem x_digO {g : Cx} {d : Dl} {cc : ByteArray} {nL : Nat} {ret : Option FieldType} {own : String} {hp : Heap → Prop} {lv : List (Nat × Value)} {st : List Value} {pc : Nat} (C : CX g cc nL ret own) {t : Nat} {i : Int} (hT : va_T .byte t 100 dgO g.A g.s g.s.heap) (hi : 0 ≤ i ∧ i < 100) (dg : decode cc pc = .ok (.baload, 1)) (k : XG g d hp lv (iV (48 + i % 10) :: st) (pc + 1)) : XG g d hp lv (iV i :: .ref t :: st) pc := by
  intro H locs ls h1 h2 h3
  obtain ⟨e1, e2, e3⟩ := inb_cl (i := i) (n := 100) (decide_eq_true hi) (by decide)
  exact va_tb C.x C.b hT h2 e2 (by rw [e1]; show Value.int (Int32.ofInt (48 + (i.toNat : Int) % 10)) = _; rw [e3]) dg (k H locs ls h1 h2 h3)
theorem x_digT {g : Cx} {d : Dl} {cc : ByteArray} {nL : Nat} {ret : Option FieldType} {own : String} {hp : Heap → Prop} {lv : List (Nat × Value)} {st : List Value} {pc : Nat} (C : CX g cc nL ret own) {t : Nat} {i : Int} (hT : va_T .byte t 100 dgT g.A g.s g.s.heap) (hi : 0 ≤ i ∧ i < 100) (dg : decode cc pc = .ok (.baload, 1)) (k : XG g d hp lv (iV (48 + i / 10) :: st) (pc + 1)) : XG g d hp lv (iV i :: .ref t :: st) pc := by
  intro H locs ls h1 h2 h3
  obtain ⟨e1, e2, e3⟩ := inb_cl (i := i) (n := 100) (decide_eq_true hi) (by decide)
  exact va_tb C.x C.b hT h2 e2 (by rw [e1]; show Value.int (Int32.ofInt (48 + (i.toNat : Int) / 10)) = _; rw [e3]) dg (k H locs ls h1 h2 h3)
theorem rcBk {g : Cx} {cc : ByteArray} {nL : Nat} {ret : Option FieldType} {own : String} (C : CX g cc nL ret own) {hb ha k : Nat} {n : Int} {ws : va_W} (hq : ws[k]? = some (sbc hb ha n)) : ∀ (H : Heap) (locs : List Loc), hL g ws H → va_S g.A g.s.heap H locs → ∃ cell : Cell, H[hb]? = some cell ∧ cell.vm.isStatics = false ∧ g.s.vm.findClass "java/lang/StringBuilder" = some cell.cls :=
  fun H locs h1 h2 => va_recv (q0 := k) (ci := 11) (q := (RJ4, TJ4, 4)) C.K h1.1 rfl hq
theorem rcSk {g : Cx} {cc : ByteArray} {nL : Nat} {ret : Option FieldType} {own : String} (C : CX g cc nL ret own) {hs hv k : Nat} {ws : va_W} (hq : ws[k]? = some (stc hs hv)) : ∀ (H : Heap) (locs : List Loc), hL g ws H → va_S g.A g.s.heap H locs → ∃ cell : Cell, H[hs]? = some cell ∧ cell.vm.isStatics = false ∧ g.s.vm.findClass "java/lang/String" = some cell.cls :=
  fun H locs h1 h2 => va_recv (q0 := k) (ci := 10) (q := (RJ0, TJ0, 4)) C.K h1.1 rfl hq
theorem permB {α : Type} (s n : α) (X : List α) : ((s :: n :: X) ++ []).Perm (s :: (X ++ [n])) := by
  rw [List.append_nil]
  exact List.Perm.cons s (List.perm_append_singleton n X).symm
theorem bcon_put1 {a : Nat → Int32} {t : List Int} {v : Int} (hc : bcon a t) (c : v < 10) (hv : 0 ≤ v ∧ v < 100) {k : Nat} (hk : k = t.length) : bcon (upd a k (Int32.ofInt (i8 (48 + v % 10)))) (t ++ [48 + v]) := by
  rw [show 48 + v % 10 = 48 + v by omega]
  exact bcon_put hc (by omega) hk
theorem bcon_put2 {a : Nat → Int32} {t : List Int} {v : Int} (hc : bcon a t) (hv : 0 ≤ v ∧ v < 100) {k l : Nat} (hk : k = t.length + 1) (hl : l = t.length) : bcon (upd (upd a k (Int32.ofInt (i8 (48 + v % 10)))) l (Int32.ofInt (i8 (48 + v / 10)))) (t ++ [48 + v / 10, 48 + v % 10]) := fun j hj => by
  subst hk; subst hl
  simp at hj
  by_cases e : j = t.length
  · subst e
    rw [upd_at, i8q (by omega)]
    have h1 := getD_app_r (t := t) (s := [48 + v / 10, 48 + v % 10]) (j := 0)
    rw [show t.length + 0 = t.length from rfl] at h1
    rw [h1]; rfl
  · rw [upd_ne e]
    by_cases e2 : j = t.length + 1
    · subst e2
      rw [upd_at, i8q (by omega), getD_app_r]; rfl
    · rw [upd_ne e2, getD_app_l (by omega)]
      exact hc j (by omega)
theorem tl_max : Cond.methodLink "jdk/internal/util/ArraysSupport" 194 Lib.Math.max.name ∈ lw_tg := in_tg 545 (by decide +kernel) rfl
theorem tk_ArraysSupport_200 : Cond.constant "jdk/internal/util/ArraysSupport" 200 2147483639 ∈ lw_tg := in_tg 546 (by decide +kernel) rfl
theorem tf_String_38 : Cond.fieldLink "java/lang/String" 38 "java/lang/String" "COMPACT_STRINGS" "Z" ∈ lw_tg := in_tg 505 (by decide +kernel) rfl
theorem tl_String_335 : Cond.methodLink "java/lang/String" 335 yJ0_coder_7d493 ∈ lw_tg := in_tg 501 (by decide +kernel) rfl
theorem tm_J0_coder_7d493 : mfV yJ0_coder_7d493 cJ0_coder_7d493 1 (some .byte) 0 := ⟨in_tg 502 (by decide +kernel) rfl, in_tg 503 (by decide +kernel) rfl, in_tg 45 (by decide +kernel) rfl, in_tg 504 (by decide +kernel) rfl, by decide +kernel, by decide +kernel, by decide +kernel⟩
theorem tf_AbstractStringBuilder_18 : Cond.fieldLink "java/lang/AbstractStringBuilder" 18 "java/lang/String" "COMPACT_STRINGS" "Z" ∈ lw_tg := in_tg 569 (by decide +kernel) rfl
theorem tf_AbstractStringBuilder_22 : Cond.fieldLink "java/lang/AbstractStringBuilder" 22 "java/lang/AbstractStringBuilder" "coder" "B" ∈ lw_tg := in_tg 630 (by decide +kernel) rfl
theorem tf_AbstractStringBuilder_15 : Cond.fieldLink "java/lang/AbstractStringBuilder" 15 "java/lang/AbstractStringBuilder" "value" "[B" ∈ lw_tg := in_tg 629 (by decide +kernel) rfl
theorem tf_AbstractStringBuilder_79 : Cond.fieldLink "java/lang/AbstractStringBuilder" 79 "java/lang/AbstractStringBuilder" "count" "I" ∈ lw_tg := in_tg 632 (by decide +kernel) rfl
theorem tl_StringBuilder_343 : Cond.methodLink "java/lang/StringBuilder" 343 yJ5_length_8abf5 ∈ lw_tg := in_tg 726 (by decide +kernel) rfl
theorem ts_StringBuilder_343 : GoodIn lw_tg (va_wsSU "java/lang/StringBuilder" 343 yJ5_length_8abf5 (WSx yJ5_length_8abf5 cJ5_length_8abf5 1 (some .int))) := gS (by decide +kernel) (by decide +kernel) (by decide +kernel) (by decide +kernel) (by decide +kernel) (in_tg 727 (by decide +kernel) rfl)
theorem tl_AbstractStringBuilder_114 : Cond.methodLink "java/lang/AbstractStringBuilder" 114 yJ8_newLength_cabcc ∈ lw_tg := in_tg 542 (by decide +kernel) rfl
theorem tm_J8_newLength_cabcc : mfS yJ8_newLength_cabcc cJ8_newLength_cabcc 4 (some .int) 3 := ⟨in_tg 543 (by decide +kernel) rfl, in_tg 47 (by decide +kernel) rfl, in_tg 544 (by decide +kernel) rfl, by decide +kernel, by decide +kernel, by decide +kernel⟩
theorem tk_AbstractStringBuilder_39 : Cond.constant "java/lang/AbstractStringBuilder" 39 2147483647 ∈ lw_tg := in_tg 508 (by decide +kernel) rfl
theorem tl_min : Cond.methodLink "java/util/Arrays" 304 Lib.Math.min.name ∈ lw_tg := in_tg 560 (by decide +kernel) rfl
theorem tl_Arrays_150 : Cond.methodLink "java/util/Arrays" 150 arraycopyName ∈ lw_tg := in_tg 561 (by decide +kernel) rfl
theorem tl_AbstractStringBuilder_104 : Cond.methodLink "java/lang/AbstractStringBuilder" 104 yJ5_newCapacity_0f7a4 ∈ lw_tg := in_tg 538 (by decide +kernel) rfl
theorem tu_AbstractStringBuilder_104 : GoodIn lw_tg (va_wsU "java/lang/AbstractStringBuilder" 104 "java/lang/StringBuilder" "java/lang/AbstractStringBuilder" yJ5_newCapacity_0f7a4 yJ5_newCapacity_0f7a4 (WSx yJ5_newCapacity_0f7a4 cJ5_newCapacity_0f7a4 6 (some .int))) := gU (by decide +kernel) (by decide +kernel) (by decide +kernel) (by decide +kernel) (by decide +kernel) (in_tg 541 (by decide +kernel) rfl)
theorem tl_AbstractStringBuilder_108 : Cond.methodLink "java/lang/AbstractStringBuilder" 108 yJ7_copyOf_9075b ∈ lw_tg := in_tg 550 (by decide +kernel) rfl
theorem tm_J7_copyOf_9075b : mfS yJ7_copyOf_9075b cJ7_copyOf_9075b 3 (some (.array .byte)) 2 := ⟨in_tg 551 (by decide +kernel) rfl, in_tg 49 (by decide +kernel) rfl, in_tg 552 (by decide +kernel) rfl, by decide +kernel, by decide +kernel, by decide +kernel⟩
theorem tl_AbstractStringBuilder_100 : Cond.methodLink "java/lang/AbstractStringBuilder" 100 yJ5_ensureCapacityInternal_d00df ∈ lw_tg := in_tg 534 (by decide +kernel) rfl
theorem tu_AbstractStringBuilder_100 : GoodIn lw_tg (va_wsU "java/lang/AbstractStringBuilder" 100 "java/lang/StringBuilder" "java/lang/AbstractStringBuilder" yJ5_ensureCapacityInternal_d00df yJ5_ensureCapacityInternal_d00df (WSx yJ5_ensureCapacityInternal_d00df cJ5_ensureCapacityInternal_d00df 3 none)) := gU (by decide +kernel) (by decide +kernel) (by decide +kernel) (by decide +kernel) (by decide +kernel) (in_tg 537 (by decide +kernel) rfl)
theorem tl_AbstractStringBuilder_83 : Cond.methodLink "java/lang/AbstractStringBuilder" 83 yJ5_isLatin1_aae02 ∈ lw_tg := in_tg 564 (by decide +kernel) rfl
theorem tu_AbstractStringBuilder_83 : GoodIn lw_tg (va_wsU "java/lang/AbstractStringBuilder" 83 "java/lang/StringBuilder" "java/lang/AbstractStringBuilder" yJ5_isLatin1_aae02 yJ5_isLatin1_aae02 (WSx yJ5_isLatin1_aae02 cJ5_isLatin1_aae02 1 (some .boolean))) := gU (by decide +kernel) (by decide +kernel) (by decide +kernel) (by decide +kernel) (by decide +kernel) (in_tg 568 (by decide +kernel) rfl)
theorem tl_AbstractStringBuilder_191 : Cond.methodLink "java/lang/AbstractStringBuilder" 191 yJ1_canEncode_fc78d ∈ lw_tg := in_tg 687 (by decide +kernel) rfl
theorem tm_J1_canEncode_fc78d : mfS yJ1_canEncode_fc78d cJ1_canEncode_fc78d 1 (some .boolean) 1 := ⟨in_tg 688 (by decide +kernel) rfl, in_tg 52 (by decide +kernel) rfl, in_tg 689 (by decide +kernel) rfl, by decide +kernel, by decide +kernel, by decide +kernel⟩
theorem tl_StringBuilder_50 : Cond.methodLink "java/lang/StringBuilder" 50 yJ5_append_3fe6f ∈ lw_tg := in_tg 684 (by decide +kernel) rfl
theorem ts_StringBuilder_50 : GoodIn lw_tg (va_wsSU "java/lang/StringBuilder" 50 yJ5_append_3fe6f (WSx yJ5_append_3fe6f cJ5_append_3fe6f 2 (some (.object "java/lang/AbstractStringBuilder")))) := gS (by decide +kernel) (by decide +kernel) (by decide +kernel) (by decide +kernel) (by decide +kernel) (in_tg 686 (by decide +kernel) rfl)
theorem tf_Integer_83 : Cond.fieldLink "java/lang/Integer" 83 "java/lang/Integer" "DigitOnes" "[B" ∈ lw_tg := in_tg 655 (by decide +kernel) rfl
theorem tf_Integer_87 : Cond.fieldLink "java/lang/Integer" 87 "java/lang/Integer" "DigitTens" "[B" ∈ lw_tg := in_tg 657 (by decide +kernel) rfl
theorem tl_AbstractStringBuilder_245 : Cond.methodLink "java/lang/AbstractStringBuilder" 245 yJ6_stringSize_0f7a4 ∈ lw_tg := in_tg 649 (by decide +kernel) rfl
theorem tm_J6_stringSize_0f7a4 : mfS yJ6_stringSize_0f7a4 cJ6_stringSize_0f7a4 4 (some .int) 1 := ⟨in_tg 650 (by decide +kernel) rfl, in_tg 54 (by decide +kernel) rfl, in_tg 651 (by decide +kernel) rfl, by decide +kernel, by decide +kernel, by decide +kernel⟩
theorem tl_AbstractStringBuilder_248 : Cond.methodLink "java/lang/AbstractStringBuilder" 248 yJ6_getChars_ba4f3 ∈ lw_tg := in_tg 652 (by decide +kernel) rfl
theorem tm_J6_getChars_ba4f3 : mfS yJ6_getChars_ba4f3 cJ6_getChars_ba4f3 7 (some .int) 3 := ⟨in_tg 653 (by decide +kernel) rfl, in_tg 54 (by decide +kernel) rfl, in_tg 654 (by decide +kernel) rfl, by decide +kernel, by decide +kernel, by decide +kernel⟩
theorem tl_StringBuilder_53 : Cond.methodLink "java/lang/StringBuilder" 53 yJ5_append_c97b9 ∈ lw_tg := in_tg 646 (by decide +kernel) rfl
theorem ts_StringBuilder_53 : GoodIn lw_tg (va_wsSU "java/lang/StringBuilder" 53 yJ5_append_c97b9 (WSx yJ5_append_c97b9 cJ5_append_c97b9 4 (some (.object "java/lang/AbstractStringBuilder")))) := gS (by decide +kernel) (by decide +kernel) (by decide +kernel) (by decide +kernel) (by decide +kernel) (in_tg 648 (by decide +kernel) rfl)
theorem tf_String_9 : Cond.fieldLink "java/lang/String" 9 "java/lang/String" "value" "[B" ∈ lw_tg := in_tg 751 (by decide +kernel) rfl
theorem tl_String_212 : Cond.methodLink "java/lang/String" 212 arraycopyName ∈ lw_tg := in_tg 627 (by decide +kernel) rfl
theorem tl_AbstractStringBuilder_40 : Cond.methodLink "java/lang/AbstractStringBuilder" 40 yJ0_coder_7d493 ∈ lw_tg := in_tg 509 (by decide +kernel) rfl
theorem tl_AbstractStringBuilder_397 : Cond.methodLink "java/lang/AbstractStringBuilder" 397 yJ5_inflateIfNeededFor_a7421 ∈ lw_tg := in_tg 600 (by decide +kernel) rfl
theorem tu_AbstractStringBuilder_397 : GoodIn lw_tg (va_wsU "java/lang/AbstractStringBuilder" 397 "java/lang/StringBuilder" "java/lang/AbstractStringBuilder" yJ5_inflateIfNeededFor_a7421 yJ5_inflateIfNeededFor_a7421 (WSx yJ5_inflateIfNeededFor_a7421 cJ5_inflateIfNeededFor_a7421 2 none)) := gU (by decide +kernel) (by decide +kernel) (by decide +kernel) (by decide +kernel) (by decide +kernel) (in_tg 603 (by decide +kernel) rfl)
theorem tl_AbstractStringBuilder_399 : Cond.methodLink "java/lang/AbstractStringBuilder" 399 yJ0_getBytes_840e7 ∈ lw_tg := in_tg 623 (by decide +kernel) rfl
theorem tm_J0_getBytes_840e7 : mfV yJ0_getBytes_840e7 cJ0_getBytes_840e7 4 none 3 := ⟨in_tg 624 (by decide +kernel) rfl, in_tg 625 (by decide +kernel) rfl, in_tg 45 (by decide +kernel) rfl, in_tg 626 (by decide +kernel) rfl, by decide +kernel, by decide +kernel, by decide +kernel⟩
theorem tl_AbstractStringBuilder_32 : Cond.methodLink "java/lang/AbstractStringBuilder" 32 yJ0_length_8abf5 ∈ lw_tg := in_tg 497 (by decide +kernel) rfl
theorem tm_J0_length_8abf5 : mfV yJ0_length_8abf5 cJ0_length_8abf5 1 (some .int) 0 := ⟨in_tg 498 (by decide +kernel) rfl, in_tg 499 (by decide +kernel) rfl, in_tg 45 (by decide +kernel) rfl, in_tg 500 (by decide +kernel) rfl, by decide +kernel, by decide +kernel, by decide +kernel⟩
theorem tl_AbstractStringBuilder_208 : Cond.methodLink "java/lang/AbstractStringBuilder" 208 yJ5_putStringAt_47b60 ∈ lw_tg := in_tg 596 (by decide +kernel) rfl
theorem tu_AbstractStringBuilder_208 : GoodIn lw_tg (va_wsU "java/lang/AbstractStringBuilder" 208 "java/lang/StringBuilder" "java/lang/AbstractStringBuilder" yJ5_putStringAt_47b60 yJ5_putStringAt_47b60 (WSx yJ5_putStringAt_47b60 cJ5_putStringAt_47b60 3 none)) := gU (by decide +kernel) (by decide +kernel) (by decide +kernel) (by decide +kernel) (by decide +kernel) (in_tg 599 (by decide +kernel) rfl)
theorem tl_StringBuilder_29 : Cond.methodLink "java/lang/StringBuilder" 29 yJ5_append_cf1ce ∈ lw_tg := in_tg 527 (by decide +kernel) rfl
theorem ts_StringBuilder_29 : GoodIn lw_tg (va_wsSU "java/lang/StringBuilder" 29 yJ5_append_cf1ce (WSx yJ5_append_cf1ce cJ5_append_cf1ce 3 (some (.object "java/lang/AbstractStringBuilder")))) := gS (by decide +kernel) (by decide +kernel) (by decide +kernel) (by decide +kernel) (by decide +kernel) (in_tg 529 (by decide +kernel) rfl)
theorem tl_StringBuilder_23 : Cond.methodLink "java/lang/StringBuilder" 23 yJ4_append_15ec4 ∈ lw_tg := in_tg 523 (by decide +kernel) rfl
theorem tm_J4_append_15ec4 : mfV yJ4_append_15ec4 cJ4_append_15ec4 2 (some (.object "java/lang/StringBuilder")) 1 := ⟨in_tg 524 (by decide +kernel) rfl, in_tg 525 (by decide +kernel) rfl, in_tg 44 (by decide +kernel) rfl, in_tg 526 (by decide +kernel) rfl, by decide +kernel, by decide +kernel, by decide +kernel⟩
theorem ct_newLength (l : Launch) (G : Gd) {o p q : Int} (h : 0 ≤ o ∧ o ≤ 2000 ∧ 1 ≤ p ∧ p ≤ 2000 ∧ 0 ≤ q ∧ q ≤ 3000) : mTI l yJ8_newLength_cabcc cJ8_newLength_cabcc 4 (some .int) (rmv 1 21 0 0) G [iV o, iV p, iV q] [] (fun r ws' => r = o + max p q ∧ ws' = []) 0 0 := by
  refine met_TI [(0, iV o), (1, iV p), (2, iV q)] (by decide) (Nat.le_of_ble_eq_true rfl) rfl .int rfl (fun g C S hR => ?_)
  obtain ⟨rfl, hR0, rfl, hA, hin⟩ := S
  refine x_iload_n C 0 dJ8_newLength_cabcc_0 rfl ?_
  refine x_iload_n C 1 dJ8_newLength_cabcc_1 rfl ?_
  refine x_iload_n C 2 dJ8_newLength_cabcc_2 rfl ?_
  refine x_max C hR0 tl_max jm_max_s jm_i jm_max_c ⟨Nat.le_of_ble_eq_true rfl, Nat.le_of_ble_eq_true rfl⟩ (by constructor <;> (dsimp only [nx, dz, Dl.ce, Dl.so, rmv]; omega)) dJ8_newLength_cabcc_3 ?_
  rw [mxq (by omega)]
  refine x_iadd C dJ8_newLength_cabcc_6 ?_
  refine x_istore_n (lv' := [(3, iV (o + (max p q))), (0, iV o), (1, iV p), (2, iV q)]) C dJ8_newLength_cabcc_7 (by decide) rfl ?_
  refine x_iconst C dJ8_newLength_cabcc_8 ?_
  refine x_iload_n C 0 dJ8_newLength_cabcc_9 rfl ?_
  refine x_icmp_ge (tgt := 21) (P1 := some ()) (P2 := none) (z := ()) C dJ8_newLength_cabcc_10 (by decide) (if_pos (by rw [ltq (by omega)] <;> omega)) (fun h => nomatch h) (fun _ => ?_)
  refine x_iload_n C 0 dJ8_newLength_cabcc_13 rfl ?_
  refine x_ldc (v := 2147483639) C rfl tk_ArraysSupport_200 dJ8_newLength_cabcc_14 ?_
  refine x_icmp_gt (tgt := 21) (P1 := none) (P2 := some ()) (z := ()) C dJ8_newLength_cabcc_16 (by decide) (if_neg (by rw [ltq (by omega)] <;> omega)) (fun h => nomatch h) (fun _ => ?_)
  refine x_iload_n C 0 dJ8_newLength_cabcc_19 rfl ?_
  exact hR _ _ _ _ _ ⟨rfl, rfl⟩ rfl (by dsimp only [nx, dz, Dl.ce, Dl.so]; omega) (by dsimp only [nx, dz, Dl.ce, Dl.so]; omega) dJ8_newLength_cabcc_20

theorem ct_canEncode (l : Launch) (G : Gd) {c : Int} (h : 0 ≤ c ∧ c < 128) : mTI l yJ1_canEncode_fc78d cJ1_canEncode_fc78d 1 (some .boolean) (rmv 0 0 0 0) G [iV c] [] (fun r ws' => r = 1 ∧ ws' = []) 0 0 := by
  refine met_TI [(0, iV c)] (by decide) (Nat.le_of_ble_eq_true rfl) rfl .boolean rfl (fun g C S hR => ?_)
  obtain ⟨rfl, hR0, rfl, hA, hin⟩ := S
  refine x_iload_n C 0 dJ1_canEncode_fc78d_0 rfl ?_
  refine x_sipush (v := 255) C dJ1_canEncode_fc78d_1 (by decide +kernel) ?_
  refine x_icmp_gt (tgt := 11) (P1 := none) (P2 := some ()) (z := ()) C dJ1_canEncode_fc78d_4 (by decide) (if_neg (by rw [ltq (by omega)] <;> omega)) (fun h => nomatch h) (fun _ => ?_)
  refine x_iconst C dJ1_canEncode_fc78d_7 ?_
  refine x_goto (tgt := 12) C dJ1_canEncode_fc78d_8 (by decide) ?_
  exact hR _ _ _ _ _ ⟨rfl, rfl⟩ (by decide +kernel) (by dsimp only [nx, dz, Dl.ce, Dl.so]; omega) (by dsimp only [nx, dz, Dl.ce, Dl.so]; omega) dJ1_canEncode_fc78d_12

theorem ct_strSize (l : Launch) (G : Gd) {v : Int} (h : 0 ≤ v ∧ v < 100) : mTI l yJ6_stringSize_0f7a4 cJ6_stringSize_0f7a4 4 (some .int) (rmv 0 0 0 0) G [iV v] [] (fun r ws' => r = (if v < 10 then 1 else 2) ∧ ws' = []) 0 0 := by
  refine met_TI [(0, iV v)] (by decide) (Nat.le_of_ble_eq_true rfl) rfl .int rfl (fun g C S hR => ?_)
  obtain ⟨rfl, hR0, rfl, hA, hin⟩ := S
  refine x_iconst C dJ6_stringSize_0f7a4_0 ?_
  refine x_istore_n (lv' := [(1, iV 1), (0, iV v)]) C dJ6_stringSize_0f7a4_1 (by decide) rfl ?_
  refine x_iload_n C 1 dJ6_stringSize_0f7a4_2 rfl ?_
  refine x_if_lt (tgt := 11) (P1 := none) (P2 := some ()) (z := ()) C dJ6_stringSize_0f7a4_3 (by decide) (if_neg (by rw [ltq (by omega)] <;> omega)) (fun h => nomatch h) (fun _ => ?_)
  refine x_iconst C dJ6_stringSize_0f7a4_6 ?_
  refine x_istore_n (lv' := [(1, iV 0), (0, iV v)]) C dJ6_stringSize_0f7a4_7 (by decide) rfl ?_
  refine x_iload_n C 1 dJ6_stringSize_0f7a4_8 rfl ?_
  refine x_ineg C dJ6_stringSize_0f7a4_9 ?_
  refine x_istore_n (lv' := [(0, iV (-v)), (1, iV 0)]) C dJ6_stringSize_0f7a4_10 (by decide) rfl ?_
  refine x_bipush (v := -10) C dJ6_stringSize_0f7a4_11 (by decide +kernel) ?_
  refine x_istore_n (lv' := [(2, iV (-10)), (0, iV (-v)), (1, iV 0)]) C dJ6_stringSize_0f7a4_13 (by decide) rfl ?_
  refine x_iconst C dJ6_stringSize_0f7a4_14 ?_
  refine x_istore_n (lv' := [(3, iV 1), (2, iV (-10)), (0, iV (-v)), (1, iV 0)]) C dJ6_stringSize_0f7a4_15 (by decide) rfl ?_
  refine x_iload_n C 0 dJ6_stringSize_0f7a4_16 rfl ?_
  refine x_bipush (v := 10) C dJ6_stringSize_0f7a4_17 (by decide +kernel) ?_
  refine x_icmp_ge (tgt := 42) (P1 := some ()) (P2 := none) (z := ()) C dJ6_stringSize_0f7a4_19 (by decide) (if_pos (by rw [ltq (by omega)] <;> omega)) (fun h => nomatch h) (fun _ => ?_)
  refine x_iload_n C 2 dJ6_stringSize_0f7a4_22 rfl ?_
  refine x_iload_n C 1 dJ6_stringSize_0f7a4_23 rfl ?_
  by_cases c : v < 10
  · refine x_icmp_le (tgt := 31) (P1 := some ()) (P2 := none) (z := ()) C dJ6_stringSize_0f7a4_24 (by decide) (if_pos (by rw [ltq (by omega)] <;> omega)) (fun h => nomatch h) (fun _ => ?_)
    refine x_iload_n C 0 dJ6_stringSize_0f7a4_27 rfl ?_
    refine x_iload_n C 3 dJ6_stringSize_0f7a4_28 rfl ?_
    refine x_iadd C dJ6_stringSize_0f7a4_29 ?_
    exact hR _ _ _ _ _ ⟨by rw [if_pos c]; rfl, rfl⟩ rfl (by dsimp only [nx, dz, Dl.ce, Dl.so]; omega) (by dsimp only [nx, dz, Dl.ce, Dl.so]; omega) dJ6_stringSize_0f7a4_30
  · refine x_icmp_le (tgt := 31) (P1 := none) (P2 := some ()) (z := ()) C dJ6_stringSize_0f7a4_24 (by decide) (if_neg (by rw [ltq (by omega)] <;> omega)) (fun _ => ?_) (fun h => nomatch h)
    refine x_bipush (v := 10) C dJ6_stringSize_0f7a4_31 (by decide +kernel) ?_
    refine x_iload_n C 1 dJ6_stringSize_0f7a4_33 rfl ?_
    refine x_imul C dJ6_stringSize_0f7a4_34 ?_
    refine x_istore_n (lv' := [(2, iV (10 * (-10))), (3, iV 1), (0, iV (-v)), (1, iV 0)]) C dJ6_stringSize_0f7a4_35 (by decide) rfl ?_
    refine x_iinc (lv' := [(3, iV (1 + 1)), (2, iV (10 * (-10))), (0, iV (-v)), (1, iV 0)]) C 1 dJ6_stringSize_0f7a4_36 rfl (by decide) rfl ?_
    refine x_goto (tgt := 16) C dJ6_stringSize_0f7a4_39 (by decide) ?_
    refine x_iload_n C 0 dJ6_stringSize_0f7a4_16 rfl ?_
    refine x_bipush (v := 10) C dJ6_stringSize_0f7a4_17 (by decide +kernel) ?_
    refine x_icmp_ge (tgt := 42) (P1 := some ()) (P2 := none) (z := ()) C dJ6_stringSize_0f7a4_19 (by decide) (if_pos (by rw [ltq (by omega)] <;> omega)) (fun h => nomatch h) (fun _ => ?_)
    refine x_iload_n C 2 dJ6_stringSize_0f7a4_22 rfl ?_
    refine x_iload_n C 1 dJ6_stringSize_0f7a4_23 rfl ?_
    refine x_icmp_le (tgt := 31) (P1 := some ()) (P2 := none) (z := ()) C dJ6_stringSize_0f7a4_24 (by decide) (if_pos (by rw [ltq (by omega)] <;> omega)) (fun h => nomatch h) (fun _ => ?_)
    refine x_iload_n C 0 dJ6_stringSize_0f7a4_27 rfl ?_
    refine x_iload_n C 3 dJ6_stringSize_0f7a4_28 rfl ?_
    refine x_iadd C dJ6_stringSize_0f7a4_29 ?_
    exact hR _ _ _ _ _ ⟨by rw [if_neg c]; rfl, rfl⟩ rfl (by dsimp only [nx, dz, Dl.ce, Dl.so]; omega) (by dsimp only [nx, dz, Dl.ce, Dl.so]; omega) dJ6_stringSize_0f7a4_30

theorem ct_coder (l : Launch) (G : Gd) {i : Nat} (hi : i < 14) : mTI l yJ0_coder_7d493 cJ0_coder_7d493 1 (some .byte) (rmv 0 0 0 0) G [.ref (G.aK i)] [] (fun r ws' => r = 0 ∧ ws' = []) 0 0 := by
  refine met_TI [(0, .ref (G.aK i))] (by decide) (Nat.le_of_ble_eq_true rfl) rfl .byte rfl (fun g C S hR => ?_)
  obtain ⟨rfl, hR0, rfl, hA, hin⟩ := S
  refine x_compact C tf_String_38 dJ0_coder_7d493_0 ?_
  refine x_if_eq (tgt := 13) (P1 := none) (P2 := some ()) (z := ()) C dJ0_coder_7d493_3 (by decide) (if_neg (by rw [eqq (by omega)] <;> omega)) (fun h => nomatch h) (fun _ => ?_)
  refine x_aload_n C 0 dJ0_coder_7d493_6 rfl ?_
  refine x_scoder C hi fj_coder dJ0_coder_7d493_7 ?_
  refine x_goto (tgt := 14) C dJ0_coder_7d493_10 (by decide) ?_
  exact hR _ _ _ _ _ ⟨rfl, rfl⟩ (by decide +kernel) (by dsimp only [nx, dz, Dl.ce, Dl.so]; omega) (by dsimp only [nx, dz, Dl.ce, Dl.so]; omega) dJ0_coder_7d493_14

theorem ct_slen (l : Launch) (G : Gd) {i : Nat} (hi : i < 14) : mTI l yJ0_length_8abf5 cJ0_length_8abf5 1 (some .int) (rmv 1 20 0 0) G [.ref (G.aK i)] [] (fun r ws' => r = (slen i : Nat) ∧ ws' = []) 0 0 := by
  refine met_TI [(0, .ref (G.aK i))] (by decide) (Nat.le_of_ble_eq_true rfl) rfl .int rfl (fun g C S hR => ?_)
  obtain ⟨rfl, hR0, rfl, hA, hin⟩ := S
  refine x_aload_n C 0 dJ0_length_8abf5_0 rfl ?_
  refine x_svalue C hi fj_value dJ0_length_8abf5_1 ?_
  refine x_svlen C hi dJ0_length_8abf5_4 ?_
  refine x_aload_n C 0 dJ0_length_8abf5_5 rfl ?_
  refine x_tI (hp' := fun _ => hL g []) C hA hsub.E (t_V (rm := rmv 0 0 0 0) (As := []) (rest := [iV (slen i : Nat)]) C hA hR0 hsub.E (rcK C hi) (ct_coder g.l g.G hi) tm_J0_coder_7d493 tl_String_335 ⟨rfl, rfl⟩ ⟨Nat.le_of_ble_eq_true rfl, Nat.le_of_ble_eq_true rfl⟩ rfl rfl (Nat.le_of_ble_eq_true rfl) (by constructor <;> (dsimp only [nx, dz, Dl.ce, Dl.so, rmv]; omega)) dJ0_length_8abf5_6) (fun _ _ _ => hback.E) (fun r ws' hp => ?_)
  obtain ⟨rfl, rfl⟩ := hp
  have hs := slen_lt hi
  refine x_ishr C dJ0_length_8abf5_9 ?_
  rw [sr_0 (by omega)]
  exact hR _ _ _ _ _ ⟨rfl, rfl⟩ rfl (by dsimp only [nx, dz, Dl.ce, Dl.so]; omega) (by dsimp only [nx, dz, Dl.ce, Dl.so]; omega) dJ0_length_8abf5_10

theorem ct_isLatin1 (l : Launch) (G : Gd) {hb ha k : Nat} {n : Int} {ws : va_W} (hq : ws[k]? = some (sbc hb ha n)) : mTI l yJ5_isLatin1_aae02 cJ5_isLatin1_aae02 1 (some .boolean) (rmv 0 0 0 0) G [.ref hb] ws (fun r ws' => r = 1 ∧ ws' = ws) 0 0 := by
  refine met_TI [(0, .ref hb)] (by decide) (Nat.le_of_ble_eq_true rfl) rfl .boolean rfl (fun g C S hR => ?_)
  obtain ⟨rfl, hR0, rfl, hA, hin⟩ := S
  refine x_compact C tf_AbstractStringBuilder_18 dJ5_isLatin1_aae02_0 ?_
  refine x_if_eq (tgt := 17) (P1 := none) (P2 := some ()) (z := ()) C dJ5_isLatin1_aae02_3 (by decide) (if_neg (by rw [eqq (by omega)] <;> omega)) (fun h => nomatch h) (fun _ => ?_)
  refine x_aload_n C 0 dJ5_isLatin1_aae02_6 rfl ?_
  refine x_tget C k (k := 1) hq cl_J4 (by decide) ⟨rfl, rfl, rfl⟩ tf_AbstractStringBuilder_22 rfl dJ5_isLatin1_aae02_7 ?_
  refine x_if_ne (tgt := 17) (P1 := some ()) (P2 := none) (z := ()) C dJ5_isLatin1_aae02_10 (by decide) (if_pos (by rw [eqq (by omega)])) (fun h => nomatch h) (fun _ => ?_)
  refine x_iconst C dJ5_isLatin1_aae02_13 ?_
  refine x_goto (tgt := 18) C dJ5_isLatin1_aae02_14 (by decide) ?_
  exact hR _ _ _ _ _ ⟨rfl, rfl⟩ (by decide +kernel) (by dsimp only [nx, dz, Dl.ce, Dl.so]; omega) (by dsimp only [nx, dz, Dl.ce, Dl.so]; omega) dJ5_isLatin1_aae02_18

theorem ct_getValue (l : Launch) (G : Gd) {hb ha k : Nat} {n : Int} {ws : va_W} (hq : ws[k]? = some (sbc hb ha n)) : mTR l yJ5_getValue_6d5f1 cJ5_getValue_6d5f1 1 (some (.array .byte)) (rmv 0 0 0 0) G [.ref hb] ws (fun r ws' => r = ha ∧ ws' = ws) 0 0 := by
  refine met_TR [(0, .ref hb)] (by decide) (Nat.le_of_ble_eq_true rfl) rfl (.array .byte) rfl (Or.inr ⟨.byte, rfl⟩) (fun g C S hR => ?_)
  obtain ⟨rfl, hR0, rfl, hA, hin⟩ := S
  refine x_aload_n C 0 dJ5_getValue_6d5f1_0 rfl ?_
  refine x_tget C k (k := 0) hq cl_J4 (by decide) ⟨rfl, rfl, rfl⟩ tf_AbstractStringBuilder_15 rfl dJ5_getValue_6d5f1_1 ?_
  exact hR _ _ _ _ _ ⟨rfl, rfl⟩ (by dsimp only [nx, dz, Dl.ce, Dl.so]; omega) (by dsimp only [nx, dz, Dl.ce, Dl.so]; omega) dJ5_getValue_6d5f1_4

theorem ct_len5 (l : Launch) (G : Gd) {hb ha k : Nat} {n : Int} {ws : va_W} (hq : ws[k]? = some (sbc hb ha n)) : mTI l yJ5_length_8abf5 cJ5_length_8abf5 1 (some .int) (rmv 0 0 0 0) G [.ref hb] ws (fun r ws' => r = n ∧ ws' = ws) 0 0 := by
  refine met_TI [(0, .ref hb)] (by decide) (Nat.le_of_ble_eq_true rfl) rfl .int rfl (fun g C S hR => ?_)
  obtain ⟨rfl, hR0, rfl, hA, hin⟩ := S
  refine x_aload_n C 0 dJ5_length_8abf5_0 rfl ?_
  refine x_tget C k (k := 3) hq cl_J4 (by decide) ⟨rfl, rfl, rfl⟩ tf_AbstractStringBuilder_79 rfl dJ5_length_8abf5_1 ?_
  exact hR _ _ _ _ _ ⟨rfl, rfl⟩ rfl (by dsimp only [nx, dz, Dl.ce, Dl.so]; omega) (by dsimp only [nx, dz, Dl.ce, Dl.so]; omega) dJ5_length_8abf5_4

theorem ct_len4 (l : Launch) (G : Gd) {hb ha k : Nat} {n : Int} {ws : va_W} (hq : ws[k]? = some (sbc hb ha n)) : mTI l yJ4_length_8abf5 cJ4_length_8abf5 1 (some .int) (rmv 1 20 0 0) G [.ref hb] ws (fun r ws' => r = n ∧ ws' = ws) 0 0 := by
  refine met_TI [(0, .ref hb)] (by decide) (Nat.le_of_ble_eq_true rfl) rfl .int rfl (fun g C S hR => ?_)
  obtain ⟨rfl, hR0, rfl, hA, hin⟩ := S
  refine x_aload_n C 0 dJ4_length_8abf5_0 rfl ?_
  refine x_tI (hp' := fun ws' => hL g ws') C hA hsub.rf (t_SU (Cn := "java/lang/StringBuilder") (rm := rmv 0 0 0 0) (As := []) (rest := []) C hA hR0 hsub.rf (C.K.1 11 _ rfl).2 (rcBk C hq) (ct_len5 g.l g.G hq) (va_cwSU 0 C.t ts_StringBuilder_343 rfl rfl rfl ⟨by decide +kernel, by decide +kernel⟩ (by rw [hR0]; exact ⟨Nat.le_of_ble_eq_true rfl, Nat.le_of_ble_eq_true rfl⟩)) rfl rfl (Nat.le_of_ble_eq_true rfl) (by constructor <;> (dsimp only [nx, dz, Dl.ce, Dl.so, rmv]; omega)) dJ4_length_8abf5_1) (fun _ _ _ => hback.rf) (fun r ws' hp => ?_)
  obtain ⟨rfl, hw⟩ := hp
  exact hR _ _ _ _ _ ⟨rfl, hw⟩ rfl (by dsimp only [nx, dz, Dl.ce, Dl.so]; omega) (by dsimp only [nx, dz, Dl.ce, Dl.so]; omega) dJ4_length_8abf5_4

theorem ct_newCap (l : Launch) (G : Gd) {hb ha m : Nat} {n q : Int} {a : Nat → Int32} {X : va_W} (h : (m : Int) < q ∧ q ≤ 400) : mTI l yJ5_newCapacity_0f7a4 cJ5_newCapacity_0f7a4 6 (some .int) (rmv 2 44 0 0) G [.ref hb, iV q] (sbc hb ha n :: bya G ha m a :: X) (fun r ws' => r = (m : Nat) + max (q - (m : Nat)) ((m : Nat) + 2) ∧ ws' = sbc hb ha n :: bya G ha m a :: X) 0 0 := by
  refine met_TI [(0, .ref hb), (1, iV q)] (by decide) (Nat.le_of_ble_eq_true rfl) rfl .int rfl (fun g C S hR => ?_)
  obtain ⟨rfl, hR0, rfl, hA, hin⟩ := S
  refine x_aload_n C 0 dJ5_newCapacity_0f7a4_0 rfl ?_
  refine x_tget C 0 (k := 0) rfl cl_J4 (by decide) ⟨rfl, rfl, rfl⟩ tf_AbstractStringBuilder_15 rfl dJ5_newCapacity_0f7a4_1 ?_
  refine x_talen C 1 rfl dJ5_newCapacity_0f7a4_4 ?_
  refine x_istore_n (lv' := [(2, iV (m : Nat)), (0, .ref hb), (1, iV q)]) C dJ5_newCapacity_0f7a4_5 (by decide) rfl ?_
  refine x_iload_n C 2 dJ5_newCapacity_0f7a4_6 rfl ?_
  refine x_aload_n C 1 dJ5_newCapacity_0f7a4_7 rfl ?_
  refine x_tget C 0 (k := 1) rfl cl_J4 (by decide) ⟨rfl, rfl, rfl⟩ tf_AbstractStringBuilder_22 rfl dJ5_newCapacity_0f7a4_8 ?_
  refine x_ishl C dJ5_newCapacity_0f7a4_11 ?_
  rw [sl_0 (by omega)]
  refine x_istore_n (lv' := [(3, iV q), (2, iV (m : Nat)), (0, .ref hb), (1, iV q)]) C dJ5_newCapacity_0f7a4_12 (by decide) rfl ?_
  refine x_iload_n C 0 dJ5_newCapacity_0f7a4_13 rfl ?_
  refine x_iload_n C 1 dJ5_newCapacity_0f7a4_14 rfl ?_
  refine x_isub C dJ5_newCapacity_0f7a4_15 ?_
  refine x_istore (lv' := [(4, iV (q - (m : Nat))), (3, iV q), (2, iV (m : Nat)), (0, .ref hb), (1, iV q)]) C dJ5_newCapacity_0f7a4_16 (by decide) rfl ?_
  refine x_iload_n C 2 dJ5_newCapacity_0f7a4_18 rfl ?_
  refine x_iload C 0 dJ5_newCapacity_0f7a4_19 rfl ?_
  refine x_iload_n C 2 dJ5_newCapacity_0f7a4_21 rfl ?_
  refine x_iconst C dJ5_newCapacity_0f7a4_22 ?_
  refine x_aload_n C 3 dJ5_newCapacity_0f7a4_23 rfl ?_
  refine x_tget C 0 (k := 1) rfl cl_J4 (by decide) ⟨rfl, rfl, rfl⟩ tf_AbstractStringBuilder_22 rfl dJ5_newCapacity_0f7a4_24 ?_
  refine x_ishl C dJ5_newCapacity_0f7a4_27 ?_
  rw [sl_0 (by omega)]
  refine x_iadd C dJ5_newCapacity_0f7a4_28 ?_
  refine x_tI (hp' := fun _ => hL g (sbc hb ha n :: bya g.G ha m a :: X)) C hA hsub.E (t_S (rm := rmv 1 21 0 0) (As := [iV (m : Nat), iV (q - (m : Nat)), iV ((m : Nat) + 2)]) (rest := []) C hA hR0 hsub.E (ct_newLength g.l g.G (by omega)) tm_J8_newLength_cabcc tl_AbstractStringBuilder_114 ⟨rfl, rfl⟩ ⟨Nat.le_of_ble_eq_true rfl, Nat.le_of_ble_eq_true rfl⟩ rfl rfl (Nat.le_of_ble_eq_true rfl) (by constructor <;> (dsimp only [nx, dz, Dl.ce, Dl.so, rmv]; omega)) dJ5_newCapacity_0f7a4_29) (fun _ _ _ => hback.E) (fun r ws' hp => ?_)
  obtain ⟨rfl, rfl⟩ := hp
  refine x_istore (lv' := [(5, iV ((m : Nat) + max (q - (m : Nat)) ((m : Nat) + 2))), (4, iV (q - (m : Nat))), (3, iV q), (2, iV (m : Nat)), (0, .ref hb), (1, iV q)]) C dJ5_newCapacity_0f7a4_32 (by decide) rfl ?_
  refine x_iload C 0 dJ5_newCapacity_0f7a4_34 rfl ?_
  refine x_ldc (v := 2147483647) C rfl tk_AbstractStringBuilder_39 dJ5_newCapacity_0f7a4_36 ?_
  refine x_icmp_ne (tgt := 51) (P1 := none) (P2 := some ()) (z := ()) C dJ5_newCapacity_0f7a4_38 (by decide) (if_neg (by rw [eqq (by omega)] <;> omega)) (fun _ => ?_) (fun h => nomatch h)
  refine x_iload C 0 dJ5_newCapacity_0f7a4_51 rfl ?_
  refine x_aload_n C 4 dJ5_newCapacity_0f7a4_53 rfl ?_
  refine x_tget C 0 (k := 1) rfl cl_J4 (by decide) ⟨rfl, rfl, rfl⟩ tf_AbstractStringBuilder_22 rfl dJ5_newCapacity_0f7a4_54 ?_
  refine x_ishr C dJ5_newCapacity_0f7a4_57 ?_
  rw [sr_0 (by omega)]
  exact hR _ _ _ _ _ ⟨rfl, rfl⟩ rfl (by dsimp only [nx, dz, Dl.ce, Dl.so]; omega) (by dsimp only [nx, dz, Dl.ce, Dl.so]; omega) dJ5_newCapacity_0f7a4_58

theorem ct_copyOf (l : Launch) (G : Gd) {ha m k i : Nat} {a : Nat → Int32} {ws : va_W} (hq : ws[i]? = some (bya G ha m a)) (hf : fitB a) (h : m < k ∧ k ≤ 800) : mTR l yJ7_copyOf_9075b cJ7_copyOf_9075b 3 (some (.array .byte)) (rmv 1 100 1 800) G [.ref ha, iV (k : Nat)] ws (fun r ws' => ws' = ws ++ [bya G r k (va_cpy a (fun _ => 0) 0 0 m)]) 1 800 := by
  refine met_TR [(0, .ref ha), (1, iV (k : Nat))] (by decide) (Nat.le_of_ble_eq_true rfl) rfl (.array .byte) rfl (Or.inr ⟨.byte, rfl⟩) (fun g C S hR => ?_)
  obtain ⟨rfl, hR0, rfl, hA, hin⟩ := S
  refine x_iload_n C 1 dJ7_copyOf_9075b_0 rfl ?_
  refine x_aload_n C 0 dJ7_copyOf_9075b_1 rfl ?_
  refine x_talen C i hq dJ7_copyOf_9075b_2 ?_
  refine x_icmp_ne (tgt := 14) (P1 := none) (P2 := some ()) (z := ()) C dJ7_copyOf_9075b_3 (by decide) (if_neg (by rw [eqq (by omega)] <;> omega)) (fun _ => ?_) (fun h => nomatch h)
  refine x_iload_n C 1 dJ7_copyOf_9075b_14 rfl ?_
  refine x_tnewb C hA hR0 (by omega) (by constructor <;> (dsimp only [nx, dz, Dl.ce, Dl.so, rmv]; omega)) dJ7_copyOf_9075b_15 (fun q => ?_)
  have hi : i < ws.length := (List.getElem?_eq_some_iff.mp hq).1
  have hq1 : (ws ++ [bya g.G q k (fun _ => 0)])[i]? = some (bya g.G ha m a) := by rw [List.getElem?_append_left hi]; exact hq
  refine x_astore_n (lv' := [(2, .ref q), (0, .ref ha), (1, iV (k : Nat))]) C dJ7_copyOf_9075b_17 (by decide) rfl ?_
  refine x_aload_n C 1 dJ7_copyOf_9075b_18 rfl ?_
  refine x_iconst C dJ7_copyOf_9075b_19 ?_
  refine x_aload_n C 0 dJ7_copyOf_9075b_20 rfl ?_
  refine x_iconst C dJ7_copyOf_9075b_21 ?_
  refine x_aload_n C 1 dJ7_copyOf_9075b_22 rfl ?_
  refine x_talen C i hq1 dJ7_copyOf_9075b_23 ?_
  refine x_iload_n C 2 dJ7_copyOf_9075b_24 rfl ?_
  refine x_min C hR0 tl_min jm_min_s jm_i jm_min_c ⟨Nat.le_of_ble_eq_true rfl, Nat.le_of_ble_eq_true rfl⟩ (by rw [hR0]; exact (by constructor <;> (dsimp only [nx, dz, Dl.ce, Dl.so, rmv]; omega))) dJ7_copyOf_9075b_25 ?_
  rw [show mn32 ((m : Nat) : Int) ((k : Nat) : Int) = ((m : Nat) : Int) by rw [mnq (by omega)]; omega]
  refine x_tcopy (ws' := (ws ++ [bya g.G q k (va_cpy a (fun _ => 0) 0 0 m)])) (sp := 0) (dp := 0) (n := m) C hR0 i ws.length hq1 (getLast' _ _) tl_Arrays_150 ⟨by omega, by omega, by omega, by omega⟩ hf ⟨Nat.le_of_ble_eq_true rfl, Nat.le_of_ble_eq_true rfl⟩ (setLast _ _ _) dJ7_copyOf_9075b_28 ?_
  refine x_aload_n C 0 dJ7_copyOf_9075b_31 rfl ?_
  exact hR _ _ _ _ _ (rfl : _ = _) (by dsimp only [nx, dz, Dl.ce, Dl.so]; omega) (by dsimp only [nx, dz, Dl.ce, Dl.so]; omega) dJ7_copyOf_9075b_32

theorem ct_ensure (l : Launch) (G : Gd) {hb ha m : Nat} {n q : Int} {a : Nat → Int32} {X : va_W} (hf : fitB a) (h : 0 ≤ q ∧ q ≤ 400 ∧ m ≤ 800) : mTV l yJ5_ensureCapacityInternal_d00df cJ5_ensureCapacityInternal_d00df 3 (rmv 3 122 1 800) G [.ref hb, iV q] (sbc hb ha n :: bya G ha m a :: X) (fun ws' => ∃ ha' m' a', ws' = sbc hb ha' n :: bya G ha' m' a' :: X ∧ q ≤ (m' : Int) ∧ m ≤ m' ∧ m' ≤ 800 ∧ (∀ j, j < m → a' j = a j) ∧ fitB a') 1 800 := by
  refine met_TV [(0, .ref hb), (1, iV q)] (by decide) (Nat.le_of_ble_eq_true rfl) rfl (fun g C S hR => ?_)
  obtain ⟨rfl, hR0, rfl, hA, hin⟩ := S
  refine x_aload_n C 0 dJ5_ensureCapacityInternal_d00df_0 rfl ?_
  refine x_tget C 0 (k := 0) rfl cl_J4 (by decide) ⟨rfl, rfl, rfl⟩ tf_AbstractStringBuilder_15 rfl dJ5_ensureCapacityInternal_d00df_1 ?_
  refine x_talen C 1 rfl dJ5_ensureCapacityInternal_d00df_4 ?_
  refine x_aload_n C 0 dJ5_ensureCapacityInternal_d00df_5 rfl ?_
  refine x_tget C 0 (k := 1) rfl cl_J4 (by decide) ⟨rfl, rfl, rfl⟩ tf_AbstractStringBuilder_22 rfl dJ5_ensureCapacityInternal_d00df_6 ?_
  refine x_ishr C dJ5_ensureCapacityInternal_d00df_9 ?_
  rw [sr_0 (by omega)]
  refine x_istore_n (lv' := [(2, iV (m : Nat)), (0, .ref hb), (1, iV q)]) C dJ5_ensureCapacityInternal_d00df_10 (by decide) rfl ?_
  refine x_iload_n C 2 dJ5_ensureCapacityInternal_d00df_11 rfl ?_
  refine x_iload_n C 0 dJ5_ensureCapacityInternal_d00df_12 rfl ?_
  refine x_isub C dJ5_ensureCapacityInternal_d00df_13 ?_
  by_cases c : q ≤ (m : Int)
  · refine x_if_le (tgt := 38) (P1 := none) (P2 := some ()) (z := ()) C dJ5_ensureCapacityInternal_d00df_14 (by decide) (if_neg (by rw [ltq (by omega)] <;> omega)) (fun _ => ?_) (fun h => nomatch h)
    exact hR _ _ _ _ ⟨ha, m, a, rfl, by omega, by omega, by omega, fun j hj => rfl, hf⟩ (by dsimp only [nx, dz, Dl.ce, Dl.so]; omega) (by dsimp only [nx, dz, Dl.ce, Dl.so]; omega) dJ5_ensureCapacityInternal_d00df_38
  · refine x_if_le (tgt := 38) (P1 := some ()) (P2 := none) (z := ()) C dJ5_ensureCapacityInternal_d00df_14 (by decide) (if_pos (by rw [ltq (by omega)] <;> omega)) (fun h => nomatch h) (fun _ => ?_)
    refine x_aload_n C 1 dJ5_ensureCapacityInternal_d00df_17 rfl ?_
    refine x_aload_n C 1 dJ5_ensureCapacityInternal_d00df_18 rfl ?_
    refine x_tget C 0 (k := 0) rfl cl_J4 (by decide) ⟨rfl, rfl, rfl⟩ tf_AbstractStringBuilder_15 rfl dJ5_ensureCapacityInternal_d00df_19 ?_
    refine x_aload_n C 1 dJ5_ensureCapacityInternal_d00df_22 rfl ?_
    refine x_iload_n C 2 dJ5_ensureCapacityInternal_d00df_23 rfl ?_
    refine x_tI (hp' := fun ws' => hL g ws') C hA hsub.rf (t_U (Cn := "java/lang/StringBuilder") (rm := rmv 2 44 0 0) (As := [iV q]) (rest := [.ref ha, .ref hb]) C hA hR0 hsub.rf (rcB C) (ct_newCap g.l g.G (by omega)) (va_cwU 1 C.t tu_AbstractStringBuilder_104 rfl rfl rfl rfl ⟨by decide +kernel, by decide +kernel, by decide +kernel⟩ (by rw [hR0]; exact ⟨Nat.le_of_ble_eq_true rfl, Nat.le_of_ble_eq_true rfl⟩)) rfl rfl (Nat.le_of_ble_eq_true rfl) (by constructor <;> (dsimp only [nx, dz, Dl.ce, Dl.so, rmv]; omega)) dJ5_ensureCapacityInternal_d00df_24) (fun _ _ _ => hback.rf) (fun r ws' hp => ?_)
    obtain ⟨hr, rfl⟩ := hp
    refine x_aload_n C 1 dJ5_ensureCapacityInternal_d00df_27 rfl ?_
    refine x_tget C 0 (k := 1) rfl cl_J4 (by decide) ⟨rfl, rfl, rfl⟩ tf_AbstractStringBuilder_22 rfl dJ5_ensureCapacityInternal_d00df_28 ?_
    obtain ⟨k, rfl⟩ : ∃ k : Nat, r = (k : Int) := ⟨r.toNat, by omega⟩
    refine x_ishl C dJ5_ensureCapacityInternal_d00df_31 ?_
    rw [sl_0 (by omega)]
    refine x_tR (hp' := fun ws' => hL g ws') C hA hsub.rf (t_S (rm := rmv 1 100 1 800) (As := [.ref ha, iV (k : Nat)]) (rest := [.ref hb]) C hA hR0 hsub.rf (ct_copyOf (i := 1) g.l g.G rfl hf (by omega)) tm_J7_copyOf_9075b tl_AbstractStringBuilder_108 ⟨rfl, rfl⟩ ⟨Nat.le_of_ble_eq_true rfl, Nat.le_of_ble_eq_true rfl⟩ rfl rfl (Nat.le_of_ble_eq_true rfl) (by constructor <;> (dsimp only [nx, dz, Dl.ce, Dl.so, rmv]; omega)) dJ5_ensureCapacityInternal_d00df_32) (fun _ _ _ => hback.rf) (fun r ws' hp => ?_)
    subst hp
    refine x_tput (ws' := ((sbc hb r n :: bya g.G ha m a :: (X ++ [bya g.G r k (va_cpy a (fun _ => 0) 0 0 m)])))) C 0 (k := 0) rfl cl_J4 (by decide) ⟨rfl, rfl, rfl, rfl⟩ tf_AbstractStringBuilder_15 ⟨rfl, rfl⟩ (Nat.le_of_ble_eq_true rfl) rfl dJ5_ensureCapacityInternal_d00df_35 ?_
    refine x_hL (hp' := hL g (sbc hb r n :: bya g.G r k (va_cpy a (fun _ => 0) 0 0 m) :: X)) (fun H h => h.perm (permA _ _ _ _)) ?_
    exact hR _ _ _ _ ⟨r, k, _, rfl, by omega, by omega, by omega, fun j hj => by rw [va_cpy_at, if_pos (by omega)]; congr 1; omega, sb_fitC hf sb_fit0⟩ (by dsimp only [nx, dz, Dl.ce, Dl.so]; omega) (by dsimp only [nx, dz, Dl.ce, Dl.so]; omega) dJ5_ensureCapacityInternal_d00df_38

theorem ct_appC5 (l : Launch) (G : Gd) {hb ha m : Nat} {a : Nat → Int32} {t : List Int} {X : va_W} (hc : bcon a t) (hf : fitB a) {c : Int} (hv : 0 ≤ c ∧ c < 128) (h0 : t.length ≤ m) (h : m ≤ 800 ∧ t.length + 1 ≤ 400) : mTR l yJ5_append_3fe6f cJ5_append_3fe6f 2 (some (.object "java/lang/AbstractStringBuilder")) (rmv 4 144 1 800) G [.ref hb, iV c] (sbc hb ha (t.length : Nat) :: bya G ha m a :: X) (fun r ws' => r = hb ∧ TXb G hb (t ++ [c]) X ws') 1 800 := by
  refine met_TR [(0, .ref hb), (1, iV c)] (by decide) (Nat.le_of_ble_eq_true rfl) rfl (.object "java/lang/AbstractStringBuilder") rfl (Or.inl ⟨_, rfl⟩) (fun g C S hR => ?_)
  obtain ⟨rfl, hR0, rfl, hA, hin⟩ := S
  refine x_aload_n C 0 dJ5_append_3fe6f_0 rfl ?_
  refine x_aload_n C 0 dJ5_append_3fe6f_1 rfl ?_
  refine x_tget C 0 (k := 3) rfl cl_J4 (by decide) ⟨rfl, rfl, rfl⟩ tf_AbstractStringBuilder_79 rfl dJ5_append_3fe6f_2 ?_
  refine x_iconst C dJ5_append_3fe6f_5 ?_
  refine x_iadd C dJ5_append_3fe6f_6 ?_
  refine x_tV (hp' := fun ws' => hL g ws') C hA hsub.rf (t_U (Cn := "java/lang/StringBuilder") (rm := rmv 3 122 1 800) (As := [iV ((t.length : Nat) + 1)]) (rest := []) C hA hR0 hsub.rf (rcB C) (ct_ensure g.l g.G hf (by omega)) (va_cwU 1 C.t tu_AbstractStringBuilder_100 rfl rfl rfl rfl ⟨by decide +kernel, by decide +kernel, by decide +kernel⟩ (by rw [hR0]; exact ⟨Nat.le_of_ble_eq_true rfl, Nat.le_of_ble_eq_true rfl⟩)) rfl rfl (Nat.le_of_ble_eq_true rfl) (by constructor <;> (dsimp only [nx, dz, Dl.ce, Dl.so, rmv]; omega)) dJ5_append_3fe6f_7) (fun _ _ => hback.rf) (fun ws' hp => ?_)
  obtain ⟨ha1, m1, a1, rfl, e1, e2, e3, e4, e5⟩ := hp
  have hc1 := bcon_sub hc h0 e4
  refine x_aload_n C 0 dJ5_append_3fe6f_10 rfl ?_
  refine x_tI (hp' := fun ws' => hL g ws') C hA hsub.rf (t_U (Cn := "java/lang/StringBuilder") (rm := rmv 0 0 0 0) (As := []) (rest := []) C hA hR0 hsub.rf (rcB C) (ct_isLatin1 (k := 0) g.l g.G rfl) (va_cwU 0 C.t tu_AbstractStringBuilder_83 rfl rfl rfl rfl ⟨by decide +kernel, by decide +kernel, by decide +kernel⟩ (by rw [hR0]; exact ⟨Nat.le_of_ble_eq_true rfl, Nat.le_of_ble_eq_true rfl⟩)) rfl rfl (Nat.le_of_ble_eq_true rfl) (by constructor <;> (dsimp only [nx, dz, Dl.ce, Dl.so, rmv]; omega)) dJ5_append_3fe6f_11) (fun _ _ _ => hback.rf) (fun r ws' hp => ?_)
  obtain ⟨rfl, rfl⟩ := hp
  refine x_if_eq (tgt := 45) (P1 := none) (P2 := some ()) (z := ()) C dJ5_append_3fe6f_14 (by decide) (if_neg (by rw [eqq (by omega)] <;> omega)) (fun h => nomatch h) (fun _ => ?_)
  refine x_iload_n C 1 dJ5_append_3fe6f_17 rfl ?_
  refine x_tI (hp' := fun _ => hL g (sbc hb ha1 (t.length : Nat) :: bya g.G ha1 m1 a1 :: X)) C hA hsub.E (t_S (rm := rmv 0 0 0 0) (As := [iV c]) (rest := []) C hA hR0 hsub.E (ct_canEncode g.l g.G hv) tm_J1_canEncode_fc78d tl_AbstractStringBuilder_191 ⟨rfl, rfl⟩ ⟨Nat.le_of_ble_eq_true rfl, Nat.le_of_ble_eq_true rfl⟩ rfl rfl (Nat.le_of_ble_eq_true rfl) (by constructor <;> (dsimp only [nx, dz, Dl.ce, Dl.so, rmv]; omega)) dJ5_append_3fe6f_18) (fun _ _ _ => hback.E) (fun r ws' hp => ?_)
  obtain ⟨rfl, hw⟩ := hp
  refine x_if_eq (tgt := 45) (P1 := none) (P2 := some ()) (z := ()) C dJ5_append_3fe6f_21 (by decide) (if_neg (by rw [eqq (by omega)] <;> omega)) (fun h => nomatch h) (fun _ => ?_)
  refine x_aload_n C 0 dJ5_append_3fe6f_24 rfl ?_
  refine x_tget C 0 (k := 0) rfl cl_J4 (by decide) ⟨rfl, rfl, rfl⟩ tf_AbstractStringBuilder_15 rfl dJ5_append_3fe6f_25 ?_
  refine x_aload_n C 0 dJ5_append_3fe6f_28 rfl ?_
  refine x_dup C rfl dJ5_append_3fe6f_29 ?_
  refine x_tget C 0 (k := 3) rfl cl_J4 (by decide) ⟨rfl, rfl, rfl⟩ tf_AbstractStringBuilder_79 rfl dJ5_append_3fe6f_30 ?_
  refine x_dup_x1 C rfl rfl dJ5_append_3fe6f_33 ?_
  refine x_iconst C dJ5_append_3fe6f_34 ?_
  refine x_iadd C dJ5_append_3fe6f_35 ?_
  refine x_tput (ws' := (sbc hb ha1 ((t.length : Nat) + 1) :: bya g.G ha1 m1 a1 :: X)) C 0 (k := 3) rfl cl_J4 (by decide) ⟨rfl, rfl, rfl, rfl⟩ tf_AbstractStringBuilder_79 ⟨rfl, rfl⟩ (Nat.le_of_ble_eq_true rfl) rfl dJ5_append_3fe6f_36 ?_
  refine x_iload_n C 1 dJ5_append_3fe6f_39 rfl ?_
  refine x_i2b C dJ5_append_3fe6f_40 ?_
  rw [i8q (by omega)]
  refine x_tbast (ws' := (sbc hb ha1 ((t.length : Nat) + 1) :: bya g.G ha1 m1 (upd a1 (Int.toNat (t.length : Nat)) (Int32.ofInt (i8 c))) :: X)) C 1 rfl (by omega) (by omega) rfl dJ5_append_3fe6f_41 ?_
  refine x_goto (tgt := 75) C dJ5_append_3fe6f_42 (by decide) ?_
  refine x_aload_n C 0 dJ5_append_3fe6f_75 rfl ?_
  exact hR _ _ _ _ _ ⟨rfl, txb_put (by omega) e3 hc1 e5 hv rfl (by omega)⟩ (by dsimp only [nx, dz, Dl.ce, Dl.so]; omega) (by dsimp only [nx, dz, Dl.ce, Dl.so]; omega) dJ5_append_3fe6f_76

theorem ct_appC (l : Launch) (G : Gd) {hb ha m : Nat} {a : Nat → Int32} {t : List Int} {X : va_W} (hc : bcon a t) (hf : fitB a) {c : Int} (hv : 0 ≤ c ∧ c < 128) (h0 : t.length ≤ m) (h : m ≤ 800 ∧ t.length + 1 ≤ 400) : mTR l yJ4_append_cf468 cJ4_append_cf468 2 (some (.object "java/lang/StringBuilder")) (rmv 5 165 1 800) G [.ref hb, iV c] (sbc hb ha (t.length : Nat) :: bya G ha m a :: X) (fun r ws' => r = hb ∧ TXb G hb (t ++ [c]) X ws') 1 800 := by
  refine met_TR [(0, .ref hb), (1, iV c)] (by decide) (Nat.le_of_ble_eq_true rfl) rfl (.object "java/lang/StringBuilder") rfl (Or.inl ⟨_, rfl⟩) (fun g C S hR => ?_)
  obtain ⟨rfl, hR0, rfl, hA, hin⟩ := S
  refine x_aload_n C 0 dJ4_append_cf468_0 rfl ?_
  refine x_iload_n C 1 dJ4_append_cf468_1 rfl ?_
  refine x_tR (hp' := fun ws' => hL g ws') C hA hsub.rf (t_SU (Cn := "java/lang/StringBuilder") (rm := rmv 4 144 1 800) (As := [iV c]) (rest := []) C hA hR0 hsub.rf (C.K.1 11 _ rfl).2 (rcB C) (ct_appC5 g.l g.G hc hf hv h0 h) (va_cwSU 1 C.t ts_StringBuilder_50 rfl rfl rfl ⟨by decide +kernel, by decide +kernel⟩ (by rw [hR0]; exact ⟨Nat.le_of_ble_eq_true rfl, Nat.le_of_ble_eq_true rfl⟩)) rfl rfl (Nat.le_of_ble_eq_true rfl) (by constructor <;> (dsimp only [nx, dz, Dl.ce, Dl.so, rmv]; omega)) dJ4_append_cf468_2) (fun _ _ _ => hback.rf) (fun r ws' hp => ?_)
  obtain ⟨rfl, ht⟩ := hp
  refine x_pop C rfl dJ4_append_cf468_5 ?_
  refine x_aload_n C 0 dJ4_append_cf468_6 rfl ?_
  exact hR _ _ _ _ _ ⟨rfl, ht⟩ (by dsimp only [nx, dz, Dl.ce, Dl.so]; omega) (by dsimp only [nx, dz, Dl.ce, Dl.so]; omega) dJ4_append_cf468_7

theorem ct_getChars (l : Launch) (G : Gd) {hb ha m : Nat} {a : Nat → Int32} {t : List Int} {X : va_W} {v p n : Int} (hc : bcon a t) (hf : fitB a) (hv : 0 ≤ v ∧ v < 100) (hp : p = (t.length : Nat) + (if v < 10 then 1 else 2)) (h : p ≤ m ∧ m ≤ 800) : mTI l yJ6_getChars_ba4f3 cJ6_getChars_ba4f3 7 (some .int) (rmv 0 0 0 0) G [iV v, iV p, .ref ha] (sbc hb ha n :: bya G ha m a :: X) (fun _ ws' => ∃ a', ws' = sbc hb ha n :: bya G ha m a' :: X ∧ bcon a' (t ++ digs v) ∧ fitB a') 0 0 := by
  refine met_TI [(0, iV v), (1, iV p), (2, .ref ha)] (by decide) (Nat.le_of_ble_eq_true rfl) rfl .int rfl (fun g C S hR => ?_)
  obtain ⟨rfl, hR0, rfl, hA, hin⟩ := S
  obtain ⟨t1, hz1, hT1⟩ := C.E.2.2.2.2.2.2.1
  obtain ⟨t2, hz2, hT2⟩ := C.E.2.2.2.2.2.2.2
  refine x_iload_n C 1 dJ6_getChars_ba4f3_0 rfl ?_
  refine x_istore (lv' := [(5, iV p), (0, iV v), (1, iV p), (2, .ref ha)]) C dJ6_getChars_ba4f3_1 (by decide) rfl ?_
  refine x_iload_n C 1 dJ6_getChars_ba4f3_3 rfl ?_
  refine x_if_ge (tgt := 11) (P1 := none) (P2 := some ()) (z := ()) C dJ6_getChars_ba4f3_4 (by decide) (if_neg (by rw [ltq (by omega)] <;> omega)) (fun _ => ?_) (fun h => nomatch h)
  refine x_iconst C dJ6_getChars_ba4f3_11 ?_
  refine x_istore (lv' := [(6, iV 0), (5, iV p), (0, iV v), (1, iV p), (2, .ref ha)]) C dJ6_getChars_ba4f3_12 (by decide) rfl ?_
  refine x_iload C 0 dJ6_getChars_ba4f3_14 rfl ?_
  refine x_if_ne (tgt := 22) (P1 := some ()) (P2 := none) (z := ()) C dJ6_getChars_ba4f3_16 (by decide) (if_pos (by rw [eqq (by omega)])) (fun h => nomatch h) (fun _ => ?_)
  refine x_iload_n C 2 dJ6_getChars_ba4f3_19 rfl ?_
  refine x_ineg C dJ6_getChars_ba4f3_20 ?_
  refine x_istore_n (lv' := [(0, iV (-v)), (6, iV 0), (5, iV p), (1, iV p), (2, .ref ha)]) C dJ6_getChars_ba4f3_21 (by decide) rfl ?_
  refine x_iload_n C 0 dJ6_getChars_ba4f3_22 rfl ?_
  refine x_bipush (v := -100) C dJ6_getChars_ba4f3_23 (by decide +kernel) ?_
  refine x_icmp_gt (tgt := 72) (P1 := some ()) (P2 := none) (z := ()) C dJ6_getChars_ba4f3_25 (by decide) (if_pos (by rw [ltq (by omega)] <;> omega)) (fun _ => ?_) (fun h => nomatch h)
  refine x_aload_n C 4 dJ6_getChars_ba4f3_72 rfl ?_
  refine x_iinc (lv' := [(5, iV (p + (-1))), (0, iV (-v)), (6, iV 0), (1, iV p), (2, .ref ha)]) C 2 dJ6_getChars_ba4f3_73 rfl (by decide) rfl ?_
  refine x_iload C 0 dJ6_getChars_ba4f3_76 rfl ?_
  refine x_dig C hz1 tf_Integer_83 dJ6_getChars_ba4f3_78 ?_
  refine x_iload_n C 1 dJ6_getChars_ba4f3_81 rfl ?_
  refine x_ineg C dJ6_getChars_ba4f3_82 ?_
  rw [show -(-v) = v by omega]
  refine x_digO C hT1 hv dJ6_getChars_ba4f3_83 ?_
  refine x_tbast (ws' := (sbc hb ha n :: bya g.G ha m (upd a (p + (-1)).toNat (Int32.ofInt (i8 (48 + v % 10)))) :: X)) C 1 rfl (by omega) (by omega) rfl dJ6_getChars_ba4f3_84 ?_
  refine x_iload_n C 1 dJ6_getChars_ba4f3_85 rfl ?_
  refine x_bipush (v := -9) C dJ6_getChars_ba4f3_86 (by decide +kernel) ?_
  by_cases c : v < 10
  · rw [if_pos c] at hp
    refine x_icmp_ge (tgt := 104) (P1 := none) (P2 := some ()) (z := ()) C dJ6_getChars_ba4f3_88 (by decide) (if_neg (by rw [ltq (by omega)] <;> omega)) (fun _ => ?_) (fun h => nomatch h)
    refine x_iload C 2 dJ6_getChars_ba4f3_104 rfl ?_
    refine x_if_eq (tgt := 118) (P1 := some ()) (P2 := none) (z := ()) C dJ6_getChars_ba4f3_106 (by decide) (if_pos (by rw [eqq (by omega)])) (fun _ => ?_) (fun h => nomatch h)
    refine x_iload C 0 dJ6_getChars_ba4f3_118 rfl ?_
    exact hR _ _ _ _ _ ⟨_, rfl, by rw [digs, if_pos c]; exact bcon_put1 hc c hv (by omega), fitB_upd hf _ _⟩ rfl (by dsimp only [nx, dz, Dl.ce, Dl.so]; omega) (by dsimp only [nx, dz, Dl.ce, Dl.so]; omega) dJ6_getChars_ba4f3_120
  · rw [if_neg c] at hp
    refine x_icmp_ge (tgt := 104) (P1 := some ()) (P2 := none) (z := ()) C dJ6_getChars_ba4f3_88 (by decide) (if_pos (by rw [ltq (by omega)] <;> omega)) (fun h => nomatch h) (fun _ => ?_)
    refine x_aload_n C 4 dJ6_getChars_ba4f3_91 rfl ?_
    refine x_iinc (lv' := [(5, iV ((p + (-1)) + (-1))), (0, iV (-v)), (6, iV 0), (1, iV p), (2, .ref ha)]) C 0 dJ6_getChars_ba4f3_92 rfl (by decide) rfl ?_
    refine x_iload C 0 dJ6_getChars_ba4f3_95 rfl ?_
    refine x_dig C hz2 tf_Integer_87 dJ6_getChars_ba4f3_97 ?_
    refine x_iload_n C 1 dJ6_getChars_ba4f3_100 rfl ?_
    refine x_ineg C dJ6_getChars_ba4f3_101 ?_
    rw [show -(-v) = v by omega]
    refine x_digT C hT2 hv dJ6_getChars_ba4f3_102 ?_
    refine x_tbast (ws' := (sbc hb ha n :: bya g.G ha m (upd (upd a (p + (-1)).toNat (Int32.ofInt (i8 (48 + v % 10)))) (p + (-1) + (-1)).toNat (Int32.ofInt (i8 (48 + v / 10)))) :: X)) C 1 rfl (by omega) (by omega) rfl dJ6_getChars_ba4f3_103 ?_
    refine x_iload C 2 dJ6_getChars_ba4f3_104 rfl ?_
    refine x_if_eq (tgt := 118) (P1 := some ()) (P2 := none) (z := ()) C dJ6_getChars_ba4f3_106 (by decide) (if_pos (by rw [eqq (by omega)])) (fun _ => ?_) (fun h => nomatch h)
    refine x_iload C 0 dJ6_getChars_ba4f3_118 rfl ?_
    exact hR _ _ _ _ _ ⟨_, rfl, by rw [digs, if_neg c]; exact bcon_put2 hc hv (by omega) (by omega), fitB_upd (fitB_upd hf _ _) _ _⟩ rfl (by dsimp only [nx, dz, Dl.ce, Dl.so]; omega) (by dsimp only [nx, dz, Dl.ce, Dl.so]; omega) dJ6_getChars_ba4f3_120

theorem ct_appI5 (l : Launch) (G : Gd) {hb ha m : Nat} {a : Nat → Int32} {t : List Int} {X : va_W} (hc : bcon a t) (hf : fitB a) {v : Int} (hv : 0 ≤ v ∧ v < 100) (h0 : t.length ≤ m) (h : m ≤ 800 ∧ t.length + 2 ≤ 400) : mTR l yJ5_append_c97b9 cJ5_append_c97b9 4 (some (.object "java/lang/AbstractStringBuilder")) (rmv 4 144 1 800) G [.ref hb, iV v] (sbc hb ha (t.length : Nat) :: bya G ha m a :: X) (fun r ws' => r = hb ∧ TXb G hb (t ++ digs v) X ws') 1 800 := by
  refine met_TR [(0, .ref hb), (1, iV v)] (by decide) (Nat.le_of_ble_eq_true rfl) rfl (.object "java/lang/AbstractStringBuilder") rfl (Or.inl ⟨_, rfl⟩) (fun g C S hR => ?_)
  obtain ⟨rfl, hR0, rfl, hA, hin⟩ := S
  have hz : (if v < 10 then (1 : Int) else 2) = 1 ∨ (if v < 10 then (1 : Int) else 2) = 2 := by split <;> simp
  refine x_aload_n C 0 dJ5_append_c97b9_0 rfl ?_
  refine x_tget C 0 (k := 3) rfl cl_J4 (by decide) ⟨rfl, rfl, rfl⟩ tf_AbstractStringBuilder_79 rfl dJ5_append_c97b9_1 ?_
  refine x_istore_n (lv' := [(2, iV (t.length : Nat)), (0, .ref hb), (1, iV v)]) C dJ5_append_c97b9_4 (by decide) rfl ?_
  refine x_iload_n C 0 dJ5_append_c97b9_5 rfl ?_
  refine x_iload_n C 2 dJ5_append_c97b9_6 rfl ?_
  refine x_tI (hp' := fun _ => hL g (sbc hb ha (t.length : Nat) :: bya g.G ha m a :: X)) C hA hsub.E (t_S (rm := rmv 0 0 0 0) (As := [iV v]) (rest := [iV (t.length : Nat)]) C hA hR0 hsub.E (ct_strSize g.l g.G hv) tm_J6_stringSize_0f7a4 tl_AbstractStringBuilder_245 ⟨rfl, rfl⟩ ⟨Nat.le_of_ble_eq_true rfl, Nat.le_of_ble_eq_true rfl⟩ rfl rfl (Nat.le_of_ble_eq_true rfl) (by constructor <;> (dsimp only [nx, dz, Dl.ce, Dl.so, rmv]; omega)) dJ5_append_c97b9_7) (fun _ _ _ => hback.E) (fun r ws' hp => ?_)
  obtain ⟨rfl, hw⟩ := hp
  refine x_iadd C dJ5_append_c97b9_10 ?_
  refine x_istore_n (lv' := [(3, iV ((t.length : Nat) + (if v < 10 then 1 else 2))), (2, iV (t.length : Nat)), (0, .ref hb), (1, iV v)]) C dJ5_append_c97b9_11 (by decide) rfl ?_
  refine x_aload_n C 2 dJ5_append_c97b9_12 rfl ?_
  refine x_iload_n C 0 dJ5_append_c97b9_13 rfl ?_
  refine x_tV (hp' := fun ws' => hL g ws') C hA hsub.rf (t_U (Cn := "java/lang/StringBuilder") (rm := rmv 3 122 1 800) (As := [iV ((t.length : Nat) + (if v < 10 then 1 else 2))]) (rest := []) C hA hR0 hsub.rf (rcB C) (ct_ensure g.l g.G hf (by omega)) (va_cwU 1 C.t tu_AbstractStringBuilder_100 rfl rfl rfl rfl ⟨by decide +kernel, by decide +kernel, by decide +kernel⟩ (by rw [hR0]; exact ⟨Nat.le_of_ble_eq_true rfl, Nat.le_of_ble_eq_true rfl⟩)) rfl rfl (Nat.le_of_ble_eq_true rfl) (by constructor <;> (dsimp only [nx, dz, Dl.ce, Dl.so, rmv]; omega)) dJ5_append_c97b9_14) (fun _ _ => hback.rf) (fun ws' hp => ?_)
  obtain ⟨ha1, m1, a1, rfl, e1, e2, e3, e4, e5⟩ := hp
  have hc1 := bcon_sub hc h0 e4
  refine x_aload_n C 2 dJ5_append_c97b9_17 rfl ?_
  refine x_tI (hp' := fun ws' => hL g ws') C hA hsub.rf (t_U (Cn := "java/lang/StringBuilder") (rm := rmv 0 0 0 0) (As := []) (rest := []) C hA hR0 hsub.rf (rcB C) (ct_isLatin1 (k := 0) g.l g.G rfl) (va_cwU 0 C.t tu_AbstractStringBuilder_83 rfl rfl rfl rfl ⟨by decide +kernel, by decide +kernel, by decide +kernel⟩ (by rw [hR0]; exact ⟨Nat.le_of_ble_eq_true rfl, Nat.le_of_ble_eq_true rfl⟩)) rfl rfl (Nat.le_of_ble_eq_true rfl) (by constructor <;> (dsimp only [nx, dz, Dl.ce, Dl.so, rmv]; omega)) dJ5_append_c97b9_18) (fun _ _ _ => hback.rf) (fun r ws' hp => ?_)
  obtain ⟨rfl, rfl⟩ := hp
  refine x_if_eq (tgt := 37) (P1 := none) (P2 := some ()) (z := ()) C dJ5_append_c97b9_21 (by decide) (if_neg (by rw [eqq (by omega)] <;> omega)) (fun h => nomatch h) (fun _ => ?_)
  refine x_iload_n C 3 dJ5_append_c97b9_24 rfl ?_
  refine x_iload_n C 0 dJ5_append_c97b9_25 rfl ?_
  refine x_aload_n C 2 dJ5_append_c97b9_26 rfl ?_
  refine x_tget C 0 (k := 0) rfl cl_J4 (by decide) ⟨rfl, rfl, rfl⟩ tf_AbstractStringBuilder_15 rfl dJ5_append_c97b9_27 ?_
  refine x_tI (hp' := fun ws' => hL g ws') C hA hsub.rf (t_S (rm := rmv 0 0 0 0) (As := [iV v, iV ((t.length : Nat) + (if v < 10 then 1 else 2)), .ref ha1]) (rest := []) C hA hR0 hsub.rf (ct_getChars g.l g.G hc1 e5 hv rfl (by omega)) tm_J6_getChars_ba4f3 tl_AbstractStringBuilder_248 ⟨rfl, rfl⟩ ⟨Nat.le_of_ble_eq_true rfl, Nat.le_of_ble_eq_true rfl⟩ rfl rfl (Nat.le_of_ble_eq_true rfl) (by constructor <;> (dsimp only [nx, dz, Dl.ce, Dl.so, rmv]; omega)) dJ5_append_c97b9_30) (fun _ _ _ => hback.rf) (fun r ws' hp => ?_)
  obtain ⟨a2, rfl, f1, f2⟩ := hp
  refine x_pop C rfl dJ5_append_c97b9_33 ?_
  refine x_goto (tgt := 48) C dJ5_append_c97b9_34 (by decide) ?_
  refine x_aload_n C 2 dJ5_append_c97b9_48 rfl ?_
  refine x_iload_n C 0 dJ5_append_c97b9_49 rfl ?_
  refine x_tput (ws' := (sbc hb ha1 ((t.length : Nat) + (if v < 10 then 1 else 2)) :: bya g.G ha1 m1 a2 :: X)) C 0 (k := 3) rfl cl_J4 (by decide) ⟨rfl, rfl, rfl, rfl⟩ tf_AbstractStringBuilder_79 ⟨rfl, rfl⟩ (Nat.le_of_ble_eq_true rfl) rfl dJ5_append_c97b9_50 ?_
  refine x_aload_n C 2 dJ5_append_c97b9_53 rfl ?_
  exact hR _ _ _ _ _ ⟨rfl, ha1, m1, a2, by rw [List.length_append, digs_len]; congr 3; split <;> rfl, by rw [List.length_append, digs_len]; split at e1 <;> split <;> omega, e3, f1, f2⟩ (by dsimp only [nx, dz, Dl.ce, Dl.so]; omega) (by dsimp only [nx, dz, Dl.ce, Dl.so]; omega) dJ5_append_c97b9_54

theorem ct_appI (l : Launch) (G : Gd) {hb ha m : Nat} {a : Nat → Int32} {t : List Int} {X : va_W} (hc : bcon a t) (hf : fitB a) {v : Int} (hv : 0 ≤ v ∧ v < 100) (h0 : t.length ≤ m) (h : m ≤ 800 ∧ t.length + 2 ≤ 400) : mTR l yJ4_append_bf812 cJ4_append_bf812 2 (some (.object "java/lang/StringBuilder")) (rmv 5 167 1 800) G [.ref hb, iV v] (sbc hb ha (t.length : Nat) :: bya G ha m a :: X) (fun r ws' => r = hb ∧ TXb G hb (t ++ digs v) X ws') 1 800 := by
  refine met_TR [(0, .ref hb), (1, iV v)] (by decide) (Nat.le_of_ble_eq_true rfl) rfl (.object "java/lang/StringBuilder") rfl (Or.inl ⟨_, rfl⟩) (fun g C S hR => ?_)
  obtain ⟨rfl, hR0, rfl, hA, hin⟩ := S
  refine x_aload_n C 0 dJ4_append_bf812_0 rfl ?_
  refine x_iload_n C 1 dJ4_append_bf812_1 rfl ?_
  refine x_tR (hp' := fun ws' => hL g ws') C hA hsub.rf (t_SU (Cn := "java/lang/StringBuilder") (rm := rmv 4 144 1 800) (As := [iV v]) (rest := []) C hA hR0 hsub.rf (C.K.1 11 _ rfl).2 (rcB C) (ct_appI5 g.l g.G hc hf hv h0 h) (va_cwSU 1 C.t ts_StringBuilder_53 rfl rfl rfl ⟨by decide +kernel, by decide +kernel⟩ (by rw [hR0]; exact ⟨Nat.le_of_ble_eq_true rfl, Nat.le_of_ble_eq_true rfl⟩)) rfl rfl (Nat.le_of_ble_eq_true rfl) (by constructor <;> (dsimp only [nx, dz, Dl.ce, Dl.so, rmv]; omega)) dJ4_append_bf812_2) (fun _ _ _ => hback.rf) (fun r ws' hp => ?_)
  obtain ⟨rfl, ht⟩ := hp
  refine x_pop C rfl dJ4_append_bf812_5 ?_
  refine x_aload_n C 0 dJ4_append_bf812_6 rfl ?_
  exact hR _ _ _ _ _ ⟨rfl, ht⟩ (by dsimp only [nx, dz, Dl.ce, Dl.so]; omega) (by dsimp only [nx, dz, Dl.ce, Dl.so]; omega) dJ4_append_bf812_7

theorem ct_getBytes (l : Launch) (G : Gd) {i ha m dp k : Nat} {a : Nat → Int32} {ws : va_W} (hi : i < 14) (hq : ws[k]? = some (bya G ha m a)) (h : dp + slen i ≤ m ∧ m ≤ 800) : mTV l yJ0_getBytes_840e7 cJ0_getBytes_840e7 4 (rmv 1 100 0 0) G [.ref (G.aK i), .ref ha, iV (dp : Nat), iV 0] ws (fun ws' => ws' = ws.set k (bya G ha m (va_cpy (fun j => (bytT.getD i []).getD j 0) a 0 dp (slen i)))) 0 0 := by
  refine met_TV [(0, .ref (G.aK i)), (1, .ref ha), (2, iV (dp : Nat)), (3, iV 0)] (by decide) (Nat.le_of_ble_eq_true rfl) rfl (fun g C S hR => ?_)
  obtain ⟨rfl, hR0, rfl, hA, hin⟩ := S
  refine x_aload_n C 0 dJ0_getBytes_840e7_0 rfl ?_
  refine x_tI (hp' := fun _ => hL g (ws)) C hA hsub.E (t_V (rm := rmv 0 0 0 0) (As := []) (rest := []) C hA hR0 hsub.E (rcK C hi) (ct_coder g.l g.G hi) tm_J0_coder_7d493 tl_String_335 ⟨rfl, rfl⟩ ⟨Nat.le_of_ble_eq_true rfl, Nat.le_of_ble_eq_true rfl⟩ rfl rfl (Nat.le_of_ble_eq_true rfl) (by constructor <;> (dsimp only [nx, dz, Dl.ce, Dl.so, rmv]; omega)) dJ0_getBytes_840e7_1) (fun _ _ _ => hback.E) (fun r ws' hp => ?_)
  obtain ⟨rfl, hw⟩ := hp
  refine x_iload_n C 3 dJ0_getBytes_840e7_4 rfl ?_
  refine x_icmp_ne (tgt := 28) (P1 := some ()) (P2 := none) (z := ()) C dJ0_getBytes_840e7_5 (by decide) (if_pos (by rw [eqq (by omega)])) (fun h => nomatch h) (fun _ => ?_)
  refine x_aload_n C 0 dJ0_getBytes_840e7_8 rfl ?_
  refine x_svalue C hi tf_String_9 dJ0_getBytes_840e7_9 ?_
  refine x_iconst C dJ0_getBytes_840e7_12 ?_
  refine x_aload_n C 1 dJ0_getBytes_840e7_13 rfl ?_
  refine x_iload_n C 2 dJ0_getBytes_840e7_14 rfl ?_
  refine x_iload_n C 3 dJ0_getBytes_840e7_15 rfl ?_
  refine x_ishl C dJ0_getBytes_840e7_16 ?_
  rw [sl_0 (by omega)]
  refine x_aload_n C 0 dJ0_getBytes_840e7_17 rfl ?_
  refine x_svalue C hi tf_String_9 dJ0_getBytes_840e7_18 ?_
  refine x_svlen C hi dJ0_getBytes_840e7_21 ?_
  refine x_tcopyc (ws' := (ws.set k (bya g.G ha m (va_cpy (fun j => (bytT.getD i []).getD j 0) a 0 dp (slen i))))) (dp := dp) C hR0 k hi hq tl_String_212 ⟨by omega, by omega⟩ ⟨Nat.le_of_ble_eq_true rfl, Nat.le_of_ble_eq_true rfl⟩ rfl dJ0_getBytes_840e7_22 ?_
  refine x_goto (tgt := 43) C dJ0_getBytes_840e7_25 (by decide) ?_
  exact hR _ _ _ _ rfl (by dsimp only [nx, dz, Dl.ce, Dl.so]; omega) (by dsimp only [nx, dz, Dl.ce, Dl.so]; omega) dJ0_getBytes_840e7_43

theorem ct_infl (l : Launch) (G : Gd) {i : Nat} (hi : i < 14) {hb ha k : Nat} {n : Int} {ws : va_W} (hq : ws[k]? = some (sbc hb ha n)) : mTV l yJ5_inflateIfNeededFor_a7421 cJ5_inflateIfNeededFor_a7421 2 (rmv 1 20 0 0) G [.ref hb, .ref (G.aK i)] ws (fun ws' => ws' = ws) 0 0 := by
  refine met_TV [(0, .ref hb), (1, .ref (G.aK i))] (by decide) (Nat.le_of_ble_eq_true rfl) rfl (fun g C S hR => ?_)
  obtain ⟨rfl, hR0, rfl, hA, hin⟩ := S
  refine x_compact C tf_AbstractStringBuilder_18 dJ5_inflateIfNeededFor_a7421_0 ?_
  refine x_if_eq (tgt := 21) (P1 := none) (P2 := some ()) (z := ()) C dJ5_inflateIfNeededFor_a7421_3 (by decide) (if_neg (by rw [eqq (by omega)] <;> omega)) (fun h => nomatch h) (fun _ => ?_)
  refine x_aload_n C 0 dJ5_inflateIfNeededFor_a7421_6 rfl ?_
  refine x_tget C k (k := 1) hq cl_J4 (by decide) ⟨rfl, rfl, rfl⟩ tf_AbstractStringBuilder_22 rfl dJ5_inflateIfNeededFor_a7421_7 ?_
  refine x_aload_n C 1 dJ5_inflateIfNeededFor_a7421_10 rfl ?_
  refine x_tI (hp' := fun _ => hL g (ws)) C hA hsub.E (t_V (rm := rmv 0 0 0 0) (As := []) (rest := [iV 0]) C hA hR0 hsub.E (rcK C hi) (ct_coder g.l g.G hi) tm_J0_coder_7d493 tl_AbstractStringBuilder_40 ⟨rfl, rfl⟩ ⟨Nat.le_of_ble_eq_true rfl, Nat.le_of_ble_eq_true rfl⟩ rfl rfl (Nat.le_of_ble_eq_true rfl) (by constructor <;> (dsimp only [nx, dz, Dl.ce, Dl.so, rmv]; omega)) dJ5_inflateIfNeededFor_a7421_11) (fun _ _ _ => hback.E) (fun r ws' hp => ?_)
  obtain ⟨rfl, hw⟩ := hp
  refine x_icmp_eq (tgt := 21) (P1 := some ()) (P2 := none) (z := ()) C dJ5_inflateIfNeededFor_a7421_14 (by decide) (if_pos (by rw [eqq (by omega)])) (fun _ => ?_) (fun h => nomatch h)
  exact hR _ _ _ _ rfl (by dsimp only [nx, dz, Dl.ce, Dl.so]; omega) (by dsimp only [nx, dz, Dl.ce, Dl.so]; omega) dJ5_inflateIfNeededFor_a7421_21

theorem ct_putS (l : Launch) (G : Gd) {i hb ha m : Nat} {a : Nat → Int32} {t : List Int} {X : va_W} (hi : i < 14) (h : t.length + slen i ≤ m ∧ m ≤ 800) : mTV l yJ5_putStringAt_47b60 cJ5_putStringAt_47b60 3 (rmv 2 123 0 0) G [.ref hb, iV (t.length : Nat), .ref (G.aK i)] (sbc hb ha (t.length : Nat) :: bya G ha m a :: X) (fun ws' => ws' = sbc hb ha (t.length : Nat) :: bya G ha m (va_cpy (fun j => (bytT.getD i []).getD j 0) a 0 t.length (slen i)) :: X) 0 0 := by
  refine met_TV [(0, .ref hb), (1, iV (t.length : Nat)), (2, .ref (G.aK i))] (by decide) (Nat.le_of_ble_eq_true rfl) rfl (fun g C S hR => ?_)
  obtain ⟨rfl, hR0, rfl, hA, hin⟩ := S
  refine x_aload_n C 0 dJ5_putStringAt_47b60_0 rfl ?_
  refine x_aload_n C 2 dJ5_putStringAt_47b60_1 rfl ?_
  refine x_tV (hp' := fun ws' => hL g ws') C hA hsub.rf (t_U (Cn := "java/lang/StringBuilder") (rm := rmv 1 20 0 0) (As := [.ref (g.G.aK i)]) (rest := []) C hA hR0 hsub.rf (rcB C) (ct_infl (k := 0) g.l g.G hi rfl) (va_cwU 1 C.t tu_AbstractStringBuilder_397 rfl rfl rfl rfl ⟨by decide +kernel, by decide +kernel, by decide +kernel⟩ (by rw [hR0]; exact ⟨Nat.le_of_ble_eq_true rfl, Nat.le_of_ble_eq_true rfl⟩)) rfl rfl (Nat.le_of_ble_eq_true rfl) (by constructor <;> (dsimp only [nx, dz, Dl.ce, Dl.so, rmv]; omega)) dJ5_putStringAt_47b60_2) (fun _ _ => hback.rf) (fun ws' hp => ?_)
  subst hp
  refine x_aload_n C 2 dJ5_putStringAt_47b60_5 rfl ?_
  refine x_aload_n C 0 dJ5_putStringAt_47b60_6 rfl ?_
  refine x_tget C 0 (k := 0) rfl cl_J4 (by decide) ⟨rfl, rfl, rfl⟩ tf_AbstractStringBuilder_15 rfl dJ5_putStringAt_47b60_7 ?_
  refine x_iload_n C 1 dJ5_putStringAt_47b60_10 rfl ?_
  refine x_aload_n C 0 dJ5_putStringAt_47b60_11 rfl ?_
  refine x_tget C 0 (k := 1) rfl cl_J4 (by decide) ⟨rfl, rfl, rfl⟩ tf_AbstractStringBuilder_22 rfl dJ5_putStringAt_47b60_12 ?_
  refine x_tV (hp' := fun ws' => hL g ws') C hA hsub.rf (t_V (rm := rmv 1 100 0 0) (As := [.ref ha, iV (t.length : Nat), iV 0]) (rest := []) C hA hR0 hsub.rf (rcK C hi) (ct_getBytes (k := 1) g.l g.G hi rfl (by omega)) tm_J0_getBytes_840e7 tl_AbstractStringBuilder_399 ⟨rfl, rfl⟩ ⟨Nat.le_of_ble_eq_true rfl, Nat.le_of_ble_eq_true rfl⟩ rfl rfl (Nat.le_of_ble_eq_true rfl) (by constructor <;> (dsimp only [nx, dz, Dl.ce, Dl.so, rmv]; omega)) dJ5_putStringAt_47b60_15) (fun _ _ => hback.rf) (fun ws' hp => ?_)
  subst hp
  exact hR _ _ _ _ rfl (by dsimp only [nx, dz, Dl.ce, Dl.so]; omega) (by dsimp only [nx, dz, Dl.ce, Dl.so]; omega) dJ5_putStringAt_47b60_18

theorem ct_appS5 (l : Launch) (G : Gd) {i : Nat} {hb ha m : Nat} {a : Nat → Int32} {t : List Int} {X : va_W} (hc : bcon a t) (hf : fitB a) (hi : i < 14) (h0 : t.length ≤ m) (h : m ≤ 800 ∧ t.length + slen i ≤ 400) : mTR l yJ5_append_cf1ce cJ5_append_cf1ce 3 (some (.object "java/lang/AbstractStringBuilder")) (rmv 4 145 1 800) G [.ref hb, .ref (G.aK i)] (sbc hb ha (t.length : Nat) :: bya G ha m a :: X) (fun r ws' => r = hb ∧ TXb G hb (t ++ ctx i) X ws') 1 800 := by
  refine met_TR [(0, .ref hb), (1, .ref (G.aK i))] (by decide) (Nat.le_of_ble_eq_true rfl) rfl (.object "java/lang/AbstractStringBuilder") rfl (Or.inl ⟨_, rfl⟩) (fun g C S hR => ?_)
  obtain ⟨rfl, hR0, rfl, hA, hin⟩ := S
  refine x_aload_n C 1 dJ5_append_cf1ce_0 rfl ?_
  refine x_ifnn (tgt := 9) C dJ5_append_cf1ce_1 (by decide) ?_
  refine x_aload_n C 1 dJ5_append_cf1ce_9 rfl ?_
  refine x_tI (hp' := fun _ => hL g (sbc hb ha (t.length : Nat) :: bya g.G ha m a :: X)) C hA hsub.E (t_V (rm := rmv 1 20 0 0) (As := []) (rest := []) C hA hR0 hsub.E (rcK C hi) (ct_slen g.l g.G hi) tm_J0_length_8abf5 tl_AbstractStringBuilder_32 ⟨rfl, rfl⟩ ⟨Nat.le_of_ble_eq_true rfl, Nat.le_of_ble_eq_true rfl⟩ rfl rfl (Nat.le_of_ble_eq_true rfl) (by constructor <;> (dsimp only [nx, dz, Dl.ce, Dl.so, rmv]; omega)) dJ5_append_cf1ce_10) (fun _ _ _ => hback.E) (fun r ws' hp => ?_)
  obtain ⟨rfl, hw⟩ := hp
  refine x_istore_n (lv' := [(2, iV (slen i : Nat)), (0, .ref hb), (1, .ref (g.G.aK i))]) C dJ5_append_cf1ce_13 (by decide) rfl ?_
  refine x_aload_n C 1 dJ5_append_cf1ce_14 rfl ?_
  refine x_aload_n C 1 dJ5_append_cf1ce_15 rfl ?_
  refine x_tget C 0 (k := 3) rfl cl_J4 (by decide) ⟨rfl, rfl, rfl⟩ tf_AbstractStringBuilder_79 rfl dJ5_append_cf1ce_16 ?_
  refine x_iload_n C 0 dJ5_append_cf1ce_19 rfl ?_
  refine x_iadd C dJ5_append_cf1ce_20 ?_
  refine x_tV (hp' := fun ws' => hL g ws') C hA hsub.rf (t_U (Cn := "java/lang/StringBuilder") (rm := rmv 3 122 1 800) (As := [iV ((t.length : Nat) + (slen i : Nat))]) (rest := []) C hA hR0 hsub.rf (rcB C) (ct_ensure g.l g.G hf (by omega)) (va_cwU 1 C.t tu_AbstractStringBuilder_100 rfl rfl rfl rfl ⟨by decide +kernel, by decide +kernel, by decide +kernel⟩ (by rw [hR0]; exact ⟨Nat.le_of_ble_eq_true rfl, Nat.le_of_ble_eq_true rfl⟩)) rfl rfl (Nat.le_of_ble_eq_true rfl) (by constructor <;> (dsimp only [nx, dz, Dl.ce, Dl.so, rmv]; omega)) dJ5_append_cf1ce_21) (fun _ _ => hback.rf) (fun ws' hp => ?_)
  obtain ⟨ha1, m1, a1, rfl, e1, e2, e3, e4, e5⟩ := hp
  have hc1 := bcon_sub hc h0 e4
  refine x_aload_n C 1 dJ5_append_cf1ce_24 rfl ?_
  refine x_aload_n C 1 dJ5_append_cf1ce_25 rfl ?_
  refine x_tget C 0 (k := 3) rfl cl_J4 (by decide) ⟨rfl, rfl, rfl⟩ tf_AbstractStringBuilder_79 rfl dJ5_append_cf1ce_26 ?_
  refine x_aload_n C 2 dJ5_append_cf1ce_29 rfl ?_
  refine x_tV (hp' := fun ws' => hL g ws') C hA hsub.rf (t_U (Cn := "java/lang/StringBuilder") (rm := rmv 2 123 0 0) (As := [iV (t.length : Nat), .ref (g.G.aK i)]) (rest := []) C hA hR0 hsub.rf (rcB C) (ct_putS g.l g.G hi (by omega)) (va_cwU 2 C.t tu_AbstractStringBuilder_208 rfl rfl rfl rfl ⟨by decide +kernel, by decide +kernel, by decide +kernel⟩ (by rw [hR0]; exact ⟨Nat.le_of_ble_eq_true rfl, Nat.le_of_ble_eq_true rfl⟩)) rfl rfl (Nat.le_of_ble_eq_true rfl) (by constructor <;> (dsimp only [nx, dz, Dl.ce, Dl.so, rmv]; omega)) dJ5_append_cf1ce_30) (fun _ _ => hback.rf) (fun ws' hp => ?_)
  subst hp
  refine x_aload_n C 1 dJ5_append_cf1ce_33 rfl ?_
  refine x_dup C rfl dJ5_append_cf1ce_34 ?_
  refine x_tget C 0 (k := 3) rfl cl_J4 (by decide) ⟨rfl, rfl, rfl⟩ tf_AbstractStringBuilder_79 rfl dJ5_append_cf1ce_35 ?_
  refine x_iload_n C 0 dJ5_append_cf1ce_38 rfl ?_
  refine x_iadd C dJ5_append_cf1ce_39 ?_
  refine x_tput (ws' := (sbc hb ha1 ((t.length : Nat) + (slen i : Nat)) :: bya g.G ha1 m1 (va_cpy (fun j => (bytT.getD i []).getD j 0) a1 0 t.length (slen i)) :: X)) C 0 (k := 3) rfl cl_J4 (by decide) ⟨rfl, rfl, rfl, rfl⟩ tf_AbstractStringBuilder_79 ⟨rfl, rfl⟩ (Nat.le_of_ble_eq_true rfl) rfl dJ5_append_cf1ce_40 ?_
  refine x_aload_n C 1 dJ5_append_cf1ce_43 rfl ?_
  exact hR _ _ _ _ _ ⟨rfl, txb_cat hi (by omega) e3 hc1 e5 rfl⟩ (by dsimp only [nx, dz, Dl.ce, Dl.so]; omega) (by dsimp only [nx, dz, Dl.ce, Dl.so]; omega) dJ5_append_cf1ce_44

theorem ct_appS (l : Launch) (G : Gd) {i : Nat} {hb ha m : Nat} {a : Nat → Int32} {t : List Int} {X : va_W} (hc : bcon a t) (hf : fitB a) (hi : i < 14) (h0 : t.length ≤ m) (h : m ≤ 800 ∧ t.length + slen i ≤ 400) : mTR l yJ4_append_15ec4 cJ4_append_15ec4 2 (some (.object "java/lang/StringBuilder")) (rmv 5 167 1 800) G [.ref hb, .ref (G.aK i)] (sbc hb ha (t.length : Nat) :: bya G ha m a :: X) (fun r ws' => r = hb ∧ TXb G hb (t ++ ctx i) X ws') 1 800 := by
  refine met_TR [(0, .ref hb), (1, .ref (G.aK i))] (by decide) (Nat.le_of_ble_eq_true rfl) rfl (.object "java/lang/StringBuilder") rfl (Or.inl ⟨_, rfl⟩) (fun g C S hR => ?_)
  obtain ⟨rfl, hR0, rfl, hA, hin⟩ := S
  refine x_aload_n C 0 dJ4_append_15ec4_0 rfl ?_
  refine x_aload_n C 1 dJ4_append_15ec4_1 rfl ?_
  refine x_tR (hp' := fun ws' => hL g ws') C hA hsub.rf (t_SU (Cn := "java/lang/StringBuilder") (rm := rmv 4 145 1 800) (As := [.ref (g.G.aK i)]) (rest := []) C hA hR0 hsub.rf (C.K.1 11 _ rfl).2 (rcB C) (ct_appS5 g.l g.G hc hf hi h0 h) (va_cwSU 1 C.t ts_StringBuilder_29 rfl rfl rfl ⟨by decide +kernel, by decide +kernel⟩ (by rw [hR0]; exact ⟨Nat.le_of_ble_eq_true rfl, Nat.le_of_ble_eq_true rfl⟩)) rfl rfl (Nat.le_of_ble_eq_true rfl) (by constructor <;> (dsimp only [nx, dz, Dl.ce, Dl.so, rmv]; omega)) dJ4_append_15ec4_2) (fun _ _ _ => hback.rf) (fun r ws' hp => ?_)
  obtain ⟨rfl, ht⟩ := hp
  refine x_pop C rfl dJ4_append_15ec4_5 ?_
  refine x_aload_n C 0 dJ4_append_15ec4_6 rfl ?_
  exact hR _ _ _ _ _ ⟨rfl, ht⟩ (by dsimp only [nx, dz, Dl.ce, Dl.so]; omega) (by dsimp only [nx, dz, Dl.ce, Dl.so]; omega) dJ4_append_15ec4_7

theorem ct_appSb (l : Launch) (G : Gd) {i : Nat} {hb ha m : Nat} {a : Nat → Int32} {t : List Int} {X : va_W} (hc : bcon a t) (hf : fitB a) (hi : i < 14) (h0 : t.length ≤ m) (h : m ≤ 800 ∧ t.length + slen i ≤ 400) : mTR l yJ4_append_cf1ce cJ4_append_cf1ce 2 (some (.object "java/lang/AbstractStringBuilder")) (rmv 6 188 1 800) G [.ref hb, .ref (G.aK i)] (sbc hb ha (t.length : Nat) :: bya G ha m a :: X) (fun r ws' => r = hb ∧ TXb G hb (t ++ ctx i) X ws') 1 800 := by
  refine met_TR [(0, .ref hb), (1, .ref (G.aK i))] (by decide) (Nat.le_of_ble_eq_true rfl) rfl (.object "java/lang/AbstractStringBuilder") rfl (Or.inl ⟨_, rfl⟩) (fun g C S hR => ?_)
  obtain ⟨rfl, hR0, rfl, hA, hin⟩ := S
  refine x_aload_n C 0 dJ4_append_cf1ce_0 rfl ?_
  refine x_aload_n C 1 dJ4_append_cf1ce_1 rfl ?_
  refine x_tR (hp' := fun ws' => hL g ws') C hA hsub.rf (t_V (rm := rmv 5 167 1 800) (As := [.ref (g.G.aK i)]) (rest := []) C hA hR0 hsub.rf (rcB C) (ct_appS g.l g.G hc hf hi h0 h) tm_J4_append_15ec4 tl_StringBuilder_23 ⟨rfl, rfl⟩ ⟨Nat.le_of_ble_eq_true rfl, Nat.le_of_ble_eq_true rfl⟩ rfl rfl (Nat.le_of_ble_eq_true rfl) (by constructor <;> (dsimp only [nx, dz, Dl.ce, Dl.so, rmv]; omega)) dJ4_append_cf1ce_2) (fun _ _ _ => hback.rf) (fun r ws' hp => ?_)
  obtain ⟨rfl, ht⟩ := hp
  exact hR _ _ _ _ _ ⟨rfl, ht⟩ (by dsimp only [nx, dz, Dl.ce, Dl.so]; omega) (by dsimp only [nx, dz, Dl.ce, Dl.so]; omega) dJ4_append_cf1ce_5

