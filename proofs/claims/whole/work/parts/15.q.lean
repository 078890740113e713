/-! ===== the law: two worlds side by side ===== -/
def hQ (g : Cx) (d : Dl) (adM : Nat → Nat) (wC wM : Wd) : Heap → Prop := fun H => va_P g.G.1 vwCl (hw g.G 0 d.na d.ad wC ++ hw g.G 1 0 adM wM) H ∧ va_D g.A (hw g.G 0 d.na d.ad wC ++ hw g.G 1 0 adM wM) ∧ okW d.na wC ∧ okW 0 wM
def sc (xs : Nat → Int32) (j : Int) : Int := (xs j.toNat).toInt
def dcm (a b : UInt64) : Int := (Op.cmpValue (FP.dcmp a b) .l).toInt
theorem app_l {α : Type} {a b : List α} {k : Nat} {x : α} (h : a[k]? = some x) : (a ++ b)[k]? = some x := by
  rw [List.getElem?_append_left (List.getElem?_eq_some_iff.mp h).1]; exact h
theorem app_r {α : Type} {a b : List α} {k : Nat} {x : α} (h : b[k]? = some x) : (a ++ b)[a.length + k]? = some x := by
  rw [List.getElem?_append_right (Nat.le_add_right _ _), Nat.add_sub_cancel_left]; exact h
theorem hQ.c {g : Cx} {d : Dl} {adM : Nat → Nat} {wC wM : Wd} {H : Heap} (h : hQ g d adM wC wM H) : wdH g.G 0 d.na d.ad wC g.A H :=
  ⟨fun k q hk => h.1 k q (app_l hk), ⟨fun i j p q hi hj e => h.2.1.1 i j p q (app_l hi) (app_l hj) e, fun k q hk => h.2.1.2 k q (app_l hk)⟩, h.2.2.1⟩
theorem hQ.m {g : Cx} {d : Dl} {adM : Nat → Nat} {wC wM : Wd} {H : Heap} (h : hQ g d adM wC wM H) : wdH g.G 1 0 adM wM g.A H :=
  ⟨fun k q hk => h.1 _ q (app_r hk), ⟨fun i j p q hi hj e => by have := h.2.1.1 _ _ p q (app_r hi) (app_r hj) e; omega, fun k q hk => h.2.1.2 _ q (app_r hk)⟩, h.2.2.2⟩
theorem hw_in {G : Gd} {dm na : Nat} {ad : Nat → Nat} {w : Wd} {k : Nat} {q : Nat × va_E} (h : (hw G dm na ad w)[k]? = some q) : ∃ o, o ∈ OL dm na ∧ ad o = q.1 := by
  unfold hw at h
  rw [List.getElem?_map] at h
  cases ho : (OL dm na)[k]? with
  | none => rw [ho] at h; cases h
  | some o => rw [ho] at h; cases h; exact ⟨o, List.mem_of_getElem? ho, rfl⟩
theorem hw_out {G : Gd} {dm na : Nat} {ad : Nat → Nat} {w : Wd} {o : Nat} (h : o ∈ OL dm na) : ∃ (k : Nat) (q : Nat × va_E), (hw G dm na ad w)[k]? = some q ∧ q.1 = ad o := by
  obtain ⟨k, hk⟩ := List.getElem?_of_mem h
  exact ⟨k, hE G na ad w o, by unfold hw; rw [List.getElem?_map, hk]; rfl, rfl⟩
/-- the class's world after a call, the model's as it was -/
theorem hQ.backC {g : Cx} {d d1 : Dl} {adM : Nat → Nat} {wC wC' wM : Wd} {H H1 : Heap} (h : hQ g d adM wC wM H) (h1 : wdH g.G 0 d1.na d1.ad wC' (rg 0 d.na d.ad H.size) H1) (hk : ∀ q : Nat, q < H.size → ¬ rg 0 d.na d.ad H.size q → H1[q]? = H[q]?) (hF : ∀ q, rg 0 d.na d.ad H.size q → g.A q) : hQ g d1 adM wC' wM H1 := by
  have hm := h.m
  have hno : ∀ (k : Nat) (q : Nat × va_E), (hw g.G 1 0 adM wM)[k]? = some q → q.1 < H.size ∧ ¬ rg 0 d.na d.ad H.size q.1 := by
    intro k q hq
    have hlt := (hm.1 k q hq).lt
    refine ⟨hlt, ?_⟩
    rintro (⟨o, ho, he⟩ | hz)
    · obtain ⟨k2, q2, hk2, hq2⟩ := hw_out (G := g.G) (ad := d.ad) (w := wC) ho
      have := h.2.1.1 _ _ q2 q (app_l hk2) (app_r hq) (by rw [hq2, he])
      have := (List.getElem?_eq_some_iff.mp hk2).1
      omega
    · omega
  refine ⟨h1.1.app (hm.1.kept fun k q hq => hk q.1 (hno k q hq).1 (hno k q hq).2), (h1.2.1.weaken fun _ q _ hq => hF q.1 hq).app hm.2.1 (fun i j p q hi hj e => ?_), h1.2.2, h.2.2.2⟩
  exact (hno j q hj).2 (e ▸ h1.2.1.2 i p hi)
theorem hQ.backM {g : Cx} {d : Dl} {adM : Nat → Nat} {wC wM wM' : Wd} {H H1 : Heap} (h : hQ g d adM wC wM H) (h1 : wdH g.G 1 0 adM wM' (rg 1 0 adM H.size) H1) (hk : ∀ q : Nat, q < H.size → ¬ rg 1 0 adM H.size q → H1[q]? = H[q]?) (hF : ∀ q, rg 1 0 adM H.size q → g.A q) : hQ g d adM wC wM' H1 := by
  have hc := h.c
  have hno : ∀ (k : Nat) (q : Nat × va_E), (hw g.G 0 d.na d.ad wC)[k]? = some q → q.1 < H.size ∧ ¬ rg 1 0 adM H.size q.1 := by
    intro k q hq
    have hlt := (hc.1 k q hq).lt
    refine ⟨hlt, ?_⟩
    rintro (⟨o, ho, he⟩ | hz)
    · obtain ⟨k2, q2, hk2, hq2⟩ := hw_out (G := g.G) (ad := adM) (w := wM) ho
      have := h.2.1.1 _ _ q q2 (app_l hq) (app_r hk2) (by rw [hq2, he])
      have := (List.getElem?_eq_some_iff.mp hq).1
      omega
    · omega
  refine ⟨(hc.1.kept fun k q hq => hk q.1 (hno k q hq).1 (hno k q hq).2).app h1.1, hc.2.1.app (h1.2.1.weaken fun _ q _ hq => hF q.1 hq) (fun i j p q hi hj e => ?_), h.2.2.1, h1.2.2⟩
  exact (hno i p hi).2 (e ▸ h1.2.1.2 j q hj)
abbrev gd (g : Cx) (n : Nat) : Cx := (g.p, g.l, g.e, g.R, g.s, g.m, g.args, g.below, g.meth, g.c, g.nL, g.Q, g.G, g.A, n)
theorem CX.gd {g : Cx} {cc : ByteArray} {nL : Nat} {ret : Option FieldType} {own : String} (C : CX g cc nL ret own) (n : Nat) : CX (gd g n) cc nL ret own := C
section XQ
variable {g : Cx} {d : Dl} {cc : ByteArray} {nL : Nat} {ret : Option FieldType} {own : String} {hp : Heap → Prop} {adM : Nat → Nat} {wC wM : Wd} {lv : List (Nat × Value)} {st : List Value} {pc : Nat}
theorem q_sld (C : CX g cc nL ret own) {b L : Nat} {xs : Nat → Int32} (hX : va_X b L xs g.s g.s.heap) (hb : b < g.s.heap.size) (hbA : ¬ g.A b) {j : Int} (hj : 0 ≤ j ∧ j < L) (hL : L ≤ 3072) (dg : decode cc pc = .ok (.iaload, 1)) (k : XG g d hp lv (iV (sc xs j) :: st) (pc + 1)) : XG g d hp lv (iV j :: .ref b :: st) pc := by
  intro H locs ls h1 h2 h3
  obtain ⟨e1, e2, e3⟩ := inb_cl (i := j) (n := L) (decide_eq_true hj) (by omega)
  refine va_sld C.x C.b hX hb hbA h2 e2 dg ?_
  rw [e1]
  have kk := k H locs ls h1 h2 h3
  unfold sc iV at kk
  rw [ofInt_toInt] at kk
  exact kk
theorem q_slen (C : CX g cc nL ret own) {b L : Nat} {xs : Nat → Int32} (hX : va_X b L xs g.s g.s.heap) (hb : b < g.s.heap.size) (hbA : ¬ g.A b) (dg : decode cc pc = .ok (.arraylength, 1)) (k : XG g d hp lv (iV (L : Nat) :: st) (pc + 1)) : XG g d hp lv (.ref b :: st) pc := by
  intro H locs ls h1 h2 h3
  refine va_slen C.x C.b hX hb hbA h2 dg ?_
  rw [← Int32.ofInt_eq_ofNat]
  exact k H locs ls h1 h2 h3
theorem x_dstore (C : CX g cc nL ret own) {f : Nat} {x : UInt64} {lv' : List (Nat × Value)} (dg : decode cc pc = .ok (.dstore f, 2)) (hn : f + 1 < nL) (hl : (f, Value.double x) :: lv.filter (fun q => !(q.1 == f) && (!(q.1 == f + 1) && !(q.1 + 1 == f && q.2.category == 2))) = lv') (k : XG g d hp lv' st (pc + 2)) : XG g d hp lv (.double x :: st) pc := fun H locs ls h1 h2 h3 => lv_dstore C.x C.b dg h3 (by rw [C.n]; exact hn) hl (fun ls h3 => k H locs ls h1 h2 h3)
theorem x_dload (C : CX g cc nL ret own) {f : Nat} {x : UInt64} (i : Nat) (dg : decode cc pc = .ok (.dload f, 2)) (hl : lv[i]? = some (f, .double x)) (k : XG g d hp lv (.double x :: st) (pc + 2)) : XG g d hp lv st pc := fun H locs ls h1 h2 h3 => lv_dload C.x C.b dg (lv_at h3 i hl) (k H locs ls h1 h2 h3)
theorem x_dcmpl (C : CX g cc nL ret own) {a b : UInt64} (dg : decode cc pc = .ok (.dcmp .l, 1)) (k : XG g d hp lv (iV (dcm a b) :: st) (pc + 1)) : XG g d hp lv (.double b :: .double a :: st) pc := by
  intro H locs ls h1 h2 h3
  refine lv_dcmp C.x C.b dg ?_
  have kk := k H locs ls h1 h2 h3
  unfold dcm iV at kk
  rw [ofInt_toInt] at kk
  exact kk
theorem q_lald (C : CX g cc nL ret own) {i : Int} (hin : inb i 1 = true) (dg : decode cc pc = .ok (.laload, 1)) (k : XG g d (hQ g d adM wC wM) lv (jV (gA wC 34 i) :: st) (pc + 1)) : XG g d (hQ g d adM wC wM) lv (iV i :: .ref (d.ad 34) :: st) pc := by
  intro H locs ls h1 h2 h3
  obtain ⟨q, hq, hq2⟩ := hw_lng (g := gd g 0) (d := d) (w := wC) (o := 34) ⟨rfl, rfl⟩
  obtain ⟨e1, e2, e3⟩ := inb_cl hin (by decide)
  refine va_lald C.x C.b C.K h1.1 q 4 (app_l hq2) rfl e2 dg ?_
  rw [e1, e3]
  exact k H locs ls h1 h2 h3
theorem q_cI (C : CX g cc nL ret own) {rmO : Room} (hA : ∀ q : Nat, g.s.heap.size ≤ q → g.A q) (hR : g.R = rmO) {y : MethodName} {cc' : ByteArray} {nL' n index : Nat} {ret' : Option FieldType} {rm : Room} {o K : Nat} {T : u_T} {As rest stk : List Value} {α : Type} {pv : Option (Int × Wd)} {Kt : Int × Wd → Option α} {res : α}
    (hf : mfV y cc' nL' ret' n) (hlk : Cond.methodLink own index y ∈ lw_tg) (hcl : vwCl[K - 1]? = some (y.cls, T, nf (K - 1))) (hk : isK d.na 0 K o) (hK : 0 < K ∧ K ≤ 10) (hrm : rm.cells = 0 ∧ rm.slots = 0) (hrr : rm.frames + 1 ≤ rmO.frames ∧ 8 + (nL' + 11) + rm.locals ≤ rmO.locals)
    (hst : stk = As.reverse ++ .ref (d.ad o) :: rest) (hn : As.length = n) (hro : (rest.map fun v => v.category).sum ≤ 8) (hce : d.ce ≤ rmO.cells ∧ d.so ≤ rmO.slots) (dg : decode cc pc = .ok (.invokevirtual index, 3))
    (hq : pv.bind Kt = some res) (hM : ∀ r w1, pv = some (r, w1) → mI g.l y cc' nL' ret' rm g.G 0 d.na d.ad (.ref (d.ad o) :: As) wC r w1)
    (k' : ∀ r w1, pv = some (r, w1) → Kt (r, w1) = some res → XG g d (hQ g d adM w1 wM) lv (iV r :: rest) (pc + 3)) : XG g d (hQ g d adM wC wM) lv stk pc := by
  intro H locs ls h0 h2 h3
  obtain ⟨⟨r, w1⟩, hpv, hq⟩ := Option.bind_eq_some_iff.mp hq
  obtain ⟨f1, f2, f3, f4, f5, f6, f7⟩ := hf
  have h1 := h0.c
  have hF := wdH.rg h1 h2 hA
  refine va_calli (va_runV (C := y.cls) (As := As) (rest := rest) ⟨C.x, C.b, C.ml, C.o, C.t⟩ (hM r w1 hpv H.size)
    ⟨callB_of n C.t (good_tg f4) rfl hrm.1 hrm.2 (C.t _ f3) (C.t _ hlk) ⟨f5, f6, f7⟩ (by rw [hR]; exact hrr), C.t _ f1, C.t _ f2⟩
    ⟨preS.blind, xrecv_of (g := gd g 0) (d := d) (CX.gd C 0) h1 hk hK hcl, pre_of (g := gd g 0) (d := d) (CX.gd C 0) h1 h2 hF⟩ rfl hn (by show ls.size = nL; rw [h3.1, C.n]) hst (lv_room hro) dg (by rw [hR]; exact hce)) h2 (fun q _ h => hF q h) hF (fun v u t H1 locs1 ht hvm hw hB hz1 hk1 hS => ?_)
  have hB : wdH g.G 0 d.na d.ad w1 (rg 0 d.na d.ad H.size) t.heap := hB
  rw [ht] at hB
  rw [hw]
  exact k' r w1 hpv hq H1 locs1 ls (h0.backC (d1 := d) hB hk1 hF) hS h3
theorem q_cF (C : CX g cc nL ret own) {rmO : Room} (hA : ∀ q : Nat, g.s.heap.size ≤ q → g.A q) (hR : g.R = rmO) {y : MethodName} {cc' : ByteArray} {nL' n index : Nat} {ret' : Option FieldType} {rm : Room} {o K : Nat} {T : u_T} {As rest stk : List Value} {α : Type} {pv : Option (UInt32 × Wd)} {Kt : UInt32 × Wd → Option α} {res : α}
    (hf : mfV y cc' nL' ret' n) (hlk : Cond.methodLink own index y ∈ lw_tg) (hcl : vwCl[K - 1]? = some (y.cls, T, nf (K - 1))) (hk : isK d.na 0 K o) (hK : 0 < K ∧ K ≤ 10) (hrm : rm.cells = 0 ∧ rm.slots = 0) (hrr : rm.frames + 1 ≤ rmO.frames ∧ 8 + (nL' + 11) + rm.locals ≤ rmO.locals)
    (hst : stk = As.reverse ++ .ref (d.ad o) :: rest) (hn : As.length = n) (hro : (rest.map fun v => v.category).sum ≤ 8) (hce : d.ce ≤ rmO.cells ∧ d.so ≤ rmO.slots) (dg : decode cc pc = .ok (.invokevirtual index, 3))
    (hq : pv.bind Kt = some res) (hM : ∀ r w1, pv = some (r, w1) → mF g.l y cc' nL' ret' rm g.G 0 d.na d.ad (.ref (d.ad o) :: As) wC r w1)
    (k' : ∀ r w1, pv = some (r, w1) → Kt (r, w1) = some res → XG g d (hQ g d adM w1 wM) lv (.float r :: rest) (pc + 3)) : XG g d (hQ g d adM wC wM) lv stk pc := by
  intro H locs ls h0 h2 h3
  obtain ⟨⟨r, w1⟩, hpv, hq⟩ := Option.bind_eq_some_iff.mp hq
  obtain ⟨f1, f2, f3, f4, f5, f6, f7⟩ := hf
  have h1 := h0.c
  have hF := wdH.rg h1 h2 hA
  refine va_callf (va_runV (C := y.cls) (As := As) (rest := rest) ⟨C.x, C.b, C.ml, C.o, C.t⟩ (hM r w1 hpv H.size)
    ⟨callB_of n C.t (good_tg f4) rfl hrm.1 hrm.2 (C.t _ f3) (C.t _ hlk) ⟨f5, f6, f7⟩ (by rw [hR]; exact hrr), C.t _ f1, C.t _ f2⟩
    ⟨preS.blind, xrecv_of (g := gd g 0) (d := d) (CX.gd C 0) h1 hk hK hcl, pre_of (g := gd g 0) (d := d) (CX.gd C 0) h1 h2 hF⟩ rfl hn (by show ls.size = nL; rw [h3.1, C.n]) hst (lv_room hro) dg (by rw [hR]; exact hce)) h2 (fun q _ h => hF q h) hF (fun v u t H1 locs1 ht hvm hw hB hz1 hk1 hS => ?_)
  have hB : wdH g.G 0 d.na d.ad w1 (rg 0 d.na d.ad H.size) t.heap := hB
  rw [ht] at hB
  rw [hw]
  exact k' r w1 hpv hq H1 locs1 ls (h0.backC (d1 := d) hB hk1 hF) hS h3
theorem q_cD (C : CX g cc nL ret own) {rmO : Room} (hA : ∀ q : Nat, g.s.heap.size ≤ q → g.A q) (hR : g.R = rmO) {y : MethodName} {cc' : ByteArray} {nL' n index : Nat} {ret' : Option FieldType} {rm : Room} {o K : Nat} {T : u_T} {As rest stk : List Value} {α : Type} {pv : Option (UInt64 × Wd)} {Kt : UInt64 × Wd → Option α} {res : α}
    (hf : mfV y cc' nL' ret' n) (hlk : Cond.methodLink own index y ∈ lw_tg) (hcl : vwCl[K - 1]? = some (y.cls, T, nf (K - 1))) (hk : isK d.na 0 K o) (hK : 0 < K ∧ K ≤ 10) (hrm : rm.cells = 0 ∧ rm.slots = 0) (hrr : rm.frames + 1 ≤ rmO.frames ∧ 8 + (nL' + 11) + rm.locals ≤ rmO.locals)
    (hst : stk = As.reverse ++ .ref (d.ad o) :: rest) (hn : As.length = n) (hro : (rest.map fun v => v.category).sum ≤ 8) (hce : d.ce ≤ rmO.cells ∧ d.so ≤ rmO.slots) (dg : decode cc pc = .ok (.invokevirtual index, 3))
    (hq : pv.bind Kt = some res) (hM : ∀ r w1, pv = some (r, w1) → mD g.l y cc' nL' ret' rm g.G 0 d.na d.ad (.ref (d.ad o) :: As) wC r w1)
    (k' : ∀ r w1, pv = some (r, w1) → Kt (r, w1) = some res → XG g d (hQ g d adM w1 wM) lv (.double r :: rest) (pc + 3)) : XG g d (hQ g d adM wC wM) lv stk pc := by
  intro H locs ls h0 h2 h3
  obtain ⟨⟨r, w1⟩, hpv, hq⟩ := Option.bind_eq_some_iff.mp hq
  obtain ⟨f1, f2, f3, f4, f5, f6, f7⟩ := hf
  have h1 := h0.c
  have hF := wdH.rg h1 h2 hA
  refine va_calld (va_runV (C := y.cls) (As := As) (rest := rest) ⟨C.x, C.b, C.ml, C.o, C.t⟩ (hM r w1 hpv H.size)
    ⟨callB_of n C.t (good_tg f4) rfl hrm.1 hrm.2 (C.t _ f3) (C.t _ hlk) ⟨f5, f6, f7⟩ (by rw [hR]; exact hrr), C.t _ f1, C.t _ f2⟩
    ⟨preS.blind, xrecv_of (g := gd g 0) (d := d) (CX.gd C 0) h1 hk hK hcl, pre_of (g := gd g 0) (d := d) (CX.gd C 0) h1 h2 hF⟩ rfl hn (by show ls.size = nL; rw [h3.1, C.n]) hst (lv_room hro) dg (by rw [hR]; exact hce)) h2 (fun q _ h => hF q h) hF (fun v u t H1 locs1 ht hvm hw hB hz1 hk1 hS => ?_)
  have hB : wdH g.G 0 d.na d.ad w1 (rg 0 d.na d.ad H.size) t.heap := hB
  rw [ht] at hB
  rw [hw]
  exact k' r w1 hpv hq H1 locs1 ls (h0.backC (d1 := d) hB hk1 hF) hS h3
theorem q_mI (C : CX g cc nL ret own) {rmO : Room} (hA : ∀ q : Nat, g.s.heap.size ≤ q → g.A q) (hR : g.R = rmO) {y : MethodName} {cc' : ByteArray} {nL' n index : Nat} {ret' : Option FieldType} {rm : Room} {o K : Nat} {T : u_T} {As rest stk : List Value} {α : Type} {pv : Option (Int × Wd)} {Kt : Int × Wd → Option α} {res : α}
    (hf : mfV y cc' nL' ret' n) (hlk : Cond.methodLink own index y ∈ lw_tg) (hcl : vwCl[K - 1]? = some (y.cls, T, nf (K - 1))) (hk : isK 0 1 K o) (hK : 0 < K ∧ K ≤ 10) (hrm : rm.cells = 0 ∧ rm.slots = 0) (hrr : rm.frames + 1 ≤ rmO.frames ∧ 8 + (nL' + 11) + rm.locals ≤ rmO.locals)
    (hst : stk = As.reverse ++ .ref (adM o) :: rest) (hn : As.length = n) (hro : (rest.map fun v => v.category).sum ≤ 8) (hce : d.ce ≤ rmO.cells ∧ d.so ≤ rmO.slots) (dg : decode cc pc = .ok (.invokevirtual index, 3))
    (hq : pv.bind Kt = some res) (hM : ∀ r w1, pv = some (r, w1) → mI g.l y cc' nL' ret' rm g.G 1 0 adM (.ref (adM o) :: As) wM r w1)
    (k' : ∀ r w1, pv = some (r, w1) → Kt (r, w1) = some res → XG g d (hQ g d adM wC w1) lv (iV r :: rest) (pc + 3)) : XG g d (hQ g d adM wC wM) lv stk pc := by
  intro H locs ls h0 h2 h3
  obtain ⟨⟨r, w1⟩, hpv, hq⟩ := Option.bind_eq_some_iff.mp hq
  obtain ⟨f1, f2, f3, f4, f5, f6, f7⟩ := hf
  have h1 := h0.m
  have hF := wdH.rg h1 h2 hA
  refine va_calli (va_runV (C := y.cls) (As := As) (rest := rest) ⟨C.x, C.b, C.ml, C.o, C.t⟩ (hM r w1 hpv H.size)
    ⟨callB_of n C.t (good_tg f4) rfl hrm.1 hrm.2 (C.t _ f3) (C.t _ hlk) ⟨f5, f6, f7⟩ (by rw [hR]; exact hrr), C.t _ f1, C.t _ f2⟩
    ⟨preS.blind, xrecv_of (g := gd g 1) (d := ((0, adM, 0, 0) : Dl)) (CX.gd C 1) h1 hk hK hcl, pre_of (g := gd g 1) (d := ((0, adM, 0, 0) : Dl)) (CX.gd C 1) h1 h2 hF⟩ rfl hn (by show ls.size = nL; rw [h3.1, C.n]) hst (lv_room hro) dg (by rw [hR]; exact hce)) h2 (fun q _ h => hF q h) hF (fun v u t H1 locs1 ht hvm hw hB hz1 hk1 hS => ?_)
  have hB : wdH g.G 1 0 adM w1 (rg 1 0 adM H.size) t.heap := hB
  rw [ht] at hB
  rw [hw]
  exact k' r w1 hpv hq H1 locs1 ls (h0.backM hB hk1 hF) hS h3
theorem q_mV (C : CX g cc nL ret own) {rmO : Room} (hA : ∀ q : Nat, g.s.heap.size ≤ q → g.A q) (hR : g.R = rmO) {y : MethodName} {cc' : ByteArray} {nL' n index : Nat} {ret' : Option FieldType} {rm : Room} {o K : Nat} {T : u_T} {As rest stk : List Value} {α : Type} {pv : Option (Wd)} {Kt : Wd → Option α} {res : α}
    (hf : mfV y cc' nL' ret' n) (hlk : Cond.methodLink own index y ∈ lw_tg) (hcl : vwCl[K - 1]? = some (y.cls, T, nf (K - 1))) (hk : isK 0 1 K o) (hK : 0 < K ∧ K ≤ 10) (hrm : rm.cells = 0 ∧ rm.slots = 0) (hrr : rm.frames + 1 ≤ rmO.frames ∧ 8 + (nL' + 11) + rm.locals ≤ rmO.locals)
    (hst : stk = As.reverse ++ .ref (adM o) :: rest) (hn : As.length = n) (hro : (rest.map fun v => v.category).sum ≤ 8) (hce : d.ce ≤ rmO.cells ∧ d.so ≤ rmO.slots) (dg : decode cc pc = .ok (.invokevirtual index, 3))
    (hq : pv.bind Kt = some res) (hM : ∀ w1, pv = some w1 → mV g.l y cc' nL' ret' rm g.G 1 0 adM (.ref (adM o) :: As) wM w1)
    (k' : ∀ w1, pv = some w1 → Kt w1 = some res → XG g d (hQ g d adM wC w1) lv rest (pc + 3)) : XG g d (hQ g d adM wC wM) lv stk pc := by
  intro H locs ls h0 h2 h3
  obtain ⟨w1, hpv, hq⟩ := Option.bind_eq_some_iff.mp hq
  obtain ⟨f1, f2, f3, f4, f5, f6, f7⟩ := hf
  have h1 := h0.m
  have hF := wdH.rg h1 h2 hA
  refine va_callv (va_runV (C := y.cls) (As := As) (rest := rest) ⟨C.x, C.b, C.ml, C.o, C.t⟩ (hM w1 hpv H.size)
    ⟨callB_of n C.t (good_tg f4) rfl hrm.1 hrm.2 (C.t _ f3) (C.t _ hlk) ⟨f5, f6, f7⟩ (by rw [hR]; exact hrr), C.t _ f1, C.t _ f2⟩
    ⟨preS.blind, xrecv_of (g := gd g 1) (d := ((0, adM, 0, 0) : Dl)) (CX.gd C 1) h1 hk hK hcl, pre_of (g := gd g 1) (d := ((0, adM, 0, 0) : Dl)) (CX.gd C 1) h1 h2 hF⟩ rfl hn (by show ls.size = nL; rw [h3.1, C.n]) hst (lv_room hro) dg (by rw [hR]; exact hce)) h2 (fun q _ h => hF q h) hF (fun u t H1 locs1 ht hvm hw hB hz1 hk1 hS => ?_)
  have hB : wdH g.G 1 0 adM w1 (rg 1 0 adM H.size) t.heap := hB
  rw [ht] at hB
  exact k' w1 hpv hq H1 locs1 ls (h0.backM hB hk1 hF) hS h3
theorem q_mF (C : CX g cc nL ret own) {rmO : Room} (hA : ∀ q : Nat, g.s.heap.size ≤ q → g.A q) (hR : g.R = rmO) {y : MethodName} {cc' : ByteArray} {nL' n index : Nat} {ret' : Option FieldType} {rm : Room} {o K : Nat} {T : u_T} {As rest stk : List Value} {α : Type} {pv : Option (UInt32 × Wd)} {Kt : UInt32 × Wd → Option α} {res : α}
    (hf : mfV y cc' nL' ret' n) (hlk : Cond.methodLink own index y ∈ lw_tg) (hcl : vwCl[K - 1]? = some (y.cls, T, nf (K - 1))) (hk : isK 0 1 K o) (hK : 0 < K ∧ K ≤ 10) (hrm : rm.cells = 0 ∧ rm.slots = 0) (hrr : rm.frames + 1 ≤ rmO.frames ∧ 8 + (nL' + 11) + rm.locals ≤ rmO.locals)
    (hst : stk = As.reverse ++ .ref (adM o) :: rest) (hn : As.length = n) (hro : (rest.map fun v => v.category).sum ≤ 8) (hce : d.ce ≤ rmO.cells ∧ d.so ≤ rmO.slots) (dg : decode cc pc = .ok (.invokevirtual index, 3))
    (hq : pv.bind Kt = some res) (hM : ∀ r w1, pv = some (r, w1) → mF g.l y cc' nL' ret' rm g.G 1 0 adM (.ref (adM o) :: As) wM r w1)
    (k' : ∀ r w1, pv = some (r, w1) → Kt (r, w1) = some res → XG g d (hQ g d adM wC w1) lv (.float r :: rest) (pc + 3)) : XG g d (hQ g d adM wC wM) lv stk pc := by
  intro H locs ls h0 h2 h3
  obtain ⟨⟨r, w1⟩, hpv, hq⟩ := Option.bind_eq_some_iff.mp hq
  obtain ⟨f1, f2, f3, f4, f5, f6, f7⟩ := hf
  have h1 := h0.m
  have hF := wdH.rg h1 h2 hA
  refine va_callf (va_runV (C := y.cls) (As := As) (rest := rest) ⟨C.x, C.b, C.ml, C.o, C.t⟩ (hM r w1 hpv H.size)
    ⟨callB_of n C.t (good_tg f4) rfl hrm.1 hrm.2 (C.t _ f3) (C.t _ hlk) ⟨f5, f6, f7⟩ (by rw [hR]; exact hrr), C.t _ f1, C.t _ f2⟩
    ⟨preS.blind, xrecv_of (g := gd g 1) (d := ((0, adM, 0, 0) : Dl)) (CX.gd C 1) h1 hk hK hcl, pre_of (g := gd g 1) (d := ((0, adM, 0, 0) : Dl)) (CX.gd C 1) h1 h2 hF⟩ rfl hn (by show ls.size = nL; rw [h3.1, C.n]) hst (lv_room hro) dg (by rw [hR]; exact hce)) h2 (fun q _ h => hF q h) hF (fun v u t H1 locs1 ht hvm hw hB hz1 hk1 hS => ?_)
  have hB : wdH g.G 1 0 adM w1 (rg 1 0 adM H.size) t.heap := hB
  rw [ht] at hB
  rw [hw]
  exact k' r w1 hpv hq H1 locs1 ls (h0.backM hB hk1 hF) hS h3
theorem q_mD (C : CX g cc nL ret own) {rmO : Room} (hA : ∀ q : Nat, g.s.heap.size ≤ q → g.A q) (hR : g.R = rmO) {y : MethodName} {cc' : ByteArray} {nL' n index : Nat} {ret' : Option FieldType} {rm : Room} {o K : Nat} {T : u_T} {As rest stk : List Value} {α : Type} {pv : Option (UInt64 × Wd)} {Kt : UInt64 × Wd → Option α} {res : α}
    (hf : mfV y cc' nL' ret' n) (hlk : Cond.methodLink own index y ∈ lw_tg) (hcl : vwCl[K - 1]? = some (y.cls, T, nf (K - 1))) (hk : isK 0 1 K o) (hK : 0 < K ∧ K ≤ 10) (hrm : rm.cells = 0 ∧ rm.slots = 0) (hrr : rm.frames + 1 ≤ rmO.frames ∧ 8 + (nL' + 11) + rm.locals ≤ rmO.locals)
    (hst : stk = As.reverse ++ .ref (adM o) :: rest) (hn : As.length = n) (hro : (rest.map fun v => v.category).sum ≤ 8) (hce : d.ce ≤ rmO.cells ∧ d.so ≤ rmO.slots) (dg : decode cc pc = .ok (.invokevirtual index, 3))
    (hq : pv.bind Kt = some res) (hM : ∀ r w1, pv = some (r, w1) → mD g.l y cc' nL' ret' rm g.G 1 0 adM (.ref (adM o) :: As) wM r w1)
    (k' : ∀ r w1, pv = some (r, w1) → Kt (r, w1) = some res → XG g d (hQ g d adM wC w1) lv (.double r :: rest) (pc + 3)) : XG g d (hQ g d adM wC wM) lv stk pc := by
  intro H locs ls h0 h2 h3
  obtain ⟨⟨r, w1⟩, hpv, hq⟩ := Option.bind_eq_some_iff.mp hq
  obtain ⟨f1, f2, f3, f4, f5, f6, f7⟩ := hf
  have h1 := h0.m
  have hF := wdH.rg h1 h2 hA
  refine va_calld (va_runV (C := y.cls) (As := As) (rest := rest) ⟨C.x, C.b, C.ml, C.o, C.t⟩ (hM r w1 hpv H.size)
    ⟨callB_of n C.t (good_tg f4) rfl hrm.1 hrm.2 (C.t _ f3) (C.t _ hlk) ⟨f5, f6, f7⟩ (by rw [hR]; exact hrr), C.t _ f1, C.t _ f2⟩
    ⟨preS.blind, xrecv_of (g := gd g 1) (d := ((0, adM, 0, 0) : Dl)) (CX.gd C 1) h1 hk hK hcl, pre_of (g := gd g 1) (d := ((0, adM, 0, 0) : Dl)) (CX.gd C 1) h1 h2 hF⟩ rfl hn (by show ls.size = nL; rw [h3.1, C.n]) hst (lv_room hro) dg (by rw [hR]; exact hce)) h2 (fun q _ h => hF q h) hF (fun v u t H1 locs1 ht hvm hw hB hz1 hk1 hS => ?_)
  have hB : wdH g.G 1 0 adM w1 (rg 1 0 adM H.size) t.heap := hB
  rw [ht] at hB
  rw [hw]
  exact k' r w1 hpv hq H1 locs1 ls (h0.backM hB hk1 hF) hS h3
theorem q_cG (C : CX g cc nL ret own) {rmO : Room} (hA : ∀ q : Nat, g.s.heap.size ≤ q → g.A q) (hR : g.R = rmO) {y : MethodName} {cc' : ByteArray} {nL' n index : Nat} {ret' : Option FieldType} {rm : Room} {o K : Nat} {T : u_T} {As rest stk : List Value} {mc' ms' : Nat} {r0 : Int} {na1 : Nat} {w1 : Wd}
    (hf : mfV y cc' nL' ret' n) (hlk : Cond.methodLink own index y ∈ lw_tg) (hcl : vwCl[K - 1]? = some (y.cls, T, nf (K - 1))) (hk : isK d.na 0 K o) (hK : 0 < K ∧ K ≤ 10) (hrm : rm.cells = mc' ∧ rm.slots = ms') (hrr : rm.frames + 1 ≤ rmO.frames ∧ 8 + (nL' + 11) + rm.locals ≤ rmO.locals)
    (hst : stk = As.reverse ++ .ref (d.ad o) :: rest) (hn : As.length = n) (hro : (rest.map fun v => v.category).sum ≤ 8) (hce : d.ce + mc' ≤ rmO.cells ∧ d.so + ms' ≤ rmO.slots) (dg : decode cc pc = .ok (.invokevirtual index, 3))
    (hM : mGI g.l y cc' nL' ret' rm g.G 0 d.na d.ad (.ref (d.ad o) :: As) wC (.inl r0, na1, w1) mc' ms')
    (k' : ∀ (d1 : Dl), AG d.na d.ad d1 → d1.na = na1 → d1.ce = d.ce + mc' → d1.so = d.so + ms' → XG g d1 (hQ g d1 adM w1 wM) lv (iV r0 :: rest) (pc + 3)) : XG g d (hQ g d adM wC wM) lv stk pc := by
  intro H locs ls h0 h2 h3
  obtain ⟨f1, f2, f3, f4, f5, f6, f7⟩ := hf
  have h1 := h0.c
  have hF := wdH.rg h1 h2 hA
  refine vx_calli (vx_runV (C := y.cls) (As := As) (rest := rest) ⟨C.x, C.b, C.ml, C.o, C.t⟩ (hM H.size)
    ⟨callB_of n C.t (good_tg f4) rfl hrm.1 hrm.2 (C.t _ f3) (C.t _ hlk) ⟨f5, f6, f7⟩ (by rw [hR]; exact hrr), C.t _ f1, C.t _ f2⟩
    ⟨preS.blind, xrecv_of (g := gd g 0) (d := d) (CX.gd C 0) h1 hk hK hcl, pre_of (g := gd g 0) (d := d) (CX.gd C 0) h1 h2 hF⟩ rfl hn (by show ls.size = nL; rw [h3.1, C.n]) hst (lv_room hro) dg (by rw [hR]; exact hce)) h2 (fun q _ h => hF q h) hF (fun q _ h => hF q h)
    (fun E ce q9 u t H1 locs1 ht hvm _ hB hz1 hk1 hS hc9 hv9 hcl9 => ?_) (fun v u t H1 locs1 ht hvm hw hB hz1 hk1 hS => ?_)
  · obtain ⟨⟨k, hk2, hE⟩, ad', hag', hwd⟩ := hB
    cases hk2
  · obtain ⟨r, hr, hv⟩ := hw
    cases hr
    obtain ⟨ad', hag', hwd⟩ := hB
    rw [ht] at hwd
    rw [hv]
    exact k' (na1, ad', d.ce + mc', d.so + ms') hag' rfl rfl rfl H1 locs1 ls (h0.backC (d1 := (na1, ad', d.ce + mc', d.so + ms')) hwd hk1 hF) hS h3
def mfL (y : MethodName) (cc : ByteArray) (nL : Nat) (hh : List (Nat × Nat × Nat × Nat)) (n : Nat) : Prop :=
  Cond.static y ∈ lw_tg ∧ Cond.initialized y.cls ∈ lw_tg ∧ Cond.codeWith y cc nL (some .int) hh ∈ lw_tg ∧ y.cls ≠ "java/lang/invoke/MethodHandle" ∧ y.cls ≠ "java/lang/invoke/VarHandle" ∧ (parseMethodDescriptor y.desc).map (fun d => d.parameters.length) = some n
theorem preL.blind {G : Gd} {na : Nat} {ad : Nat → Nat} {w : Wd} {sz : Nat} {vs : List Value} : FrameBlind (va_Pc vs (preL G na ad w sz)) := by
  rintro a U g mk ⟨h1, h2, h3⟩
  have := preS.blind (vs := vs) (a := a) (U := U) g mk ⟨h1, h2⟩
  exact ⟨h1, this.2, NC3.moved (u := U) (U := U.calling g mk a) (Vm.Alike.refl U.vm) h3⟩
theorem good_tgy {y : MethodName} {own : String} {index : Nat} {cc : ByteArray} {nL : Nat} {ret : Option FieldType} {hh : List (Nat × Nat × Nat × Nat)} (h : Cond.codeWith y cc nL ret hh ∈ lw_tg) (h1 : Cond.methodLink own index y ∈ lw_tg) (h2 : Cond.static y ∈ lw_tg) (h3 : Cond.initialized y.cls ∈ lw_tg) : GoodIn lw_tg (va_wsS own index y (WSy y cc nL ret hh)) := by
  have hg : ∀ w ∈ lw_tg, w ∈ lw_tg ∧ GoodIn lw_tg [w] := fun w hw => ⟨hw, fun x hx => by rw [List.mem_singleton.mp hx]; exact ⟨hw, good_of_word (List.mem_filter.mp hw).2⟩⟩
  intro w hw
  have hm : w ∈ lw_tg := by
    unfold va_wsS at hw
    simp only [List.mem_append, List.mem_cons, List.not_mem_nil, or_false] at hw
    rcases hw with hw | hw
    · rcases hw with rfl | rfl | rfl <;> assumption
    · rcases hw with rfl | hw
      · exact h
      · exact hw
  exact ⟨hm, good_of_word (List.mem_filter.mp hm).2⟩
theorem q_wr (C : CX g cc nL ret own) {rmO : Room} (hA : ∀ q : Nat, g.s.heap.size ≤ q → g.A q) (hR : g.R = rmO) (hNC : NC3 g.s) {y : MethodName} {cc' : ByteArray} {nL' n index mc' ms' : Nat} {hh : List (Nat × Nat × Nat × Nat)} {rm : Room} {As rest stk : List Value} {α : Type} {pv : Option (Int × Nat × Wd)} {Kt : Int × Nat × Wd → Option α} {res : α}
    (hf : mfL y cc' nL' hh n) (hlk : Cond.methodLink own index y ∈ lw_tg) (hrm : rm.cells = mc' ∧ rm.slots = ms') (hrr : rm.frames + 1 ≤ rmO.frames ∧ 8 + (nL' + 11) + rm.locals ≤ rmO.locals)
    (hst : stk = As.reverse ++ rest) (hn : As.length = n) (hro : (rest.map fun v => v.category).sum ≤ 8) (hce : d.ce + mc' ≤ rmO.cells ∧ d.so + ms' ≤ rmO.slots) (dg : decode cc pc = .ok (.invokestatic index, 3))
    (hq : pv.bind Kt = some res) (hM : ∀ z, pv = some z → mL g.l y cc' nL' hh rm g.G d.na d.ad As wC z mc' ms')
    (k' : ∀ z (d1 : Dl), pv = some z → Kt z = some res → AG d.na d.ad d1 → d1.na = z.2.1 → d1.ce = d.ce + mc' → d1.so = d.so + ms' → XG g d1 (hQ g d1 adM z.2.2 wM) lv (iV z.1 :: rest) (pc + 3)) : XG g d (hQ g d adM wC wM) lv stk pc := by
  intro H locs ls h0 h2 h3
  obtain ⟨z, hpv, hq⟩ := Option.bind_eq_some_iff.mp hq
  obtain ⟨f1, f2, f4, f5, f6, f7⟩ := hf
  have h1 := h0.c
  have hF := wdH.rg h1 h2 hA
  have hPS : PreS g.s H (va_Pc As (preL g.G d.na d.ad wC H.size)) As :=
    ⟨preL.blind, fun U hU hW => ⟨rfl, (pre_of (g := gd g 0) (d := d) (CX.gd C 0) h1 h2 hF (vs := As) U hU hW).2, NC3.moved hW.alike hNC⟩⟩
  refine va_calli (vx_runSW (As := As) (rest := rest) ⟨C.x, C.b, C.ml, C.o, C.t⟩ (hM z hpv H.size)
    (vx_cwSW n C.t (good_tgy f4 hlk f1 f2) rfl hrm.1 hrm.2 ⟨f5, f6, f7⟩ (by rw [hR]; exact hrr)) hPS rfl hn (by show ls.size = nL; rw [h3.1, C.n]) hst (lv_room hro) dg (by rw [hR]; exact hce)) h2 (fun q _ h => hF q h) hF (fun v u t H1 locs1 ht hvm hw hB hz1 hk1 hS => ?_)
  obtain ⟨ad', hag', hwd⟩ := hB
  rw [ht] at hwd
  rw [hw]
  exact k' z (z.2.1, ad', d.ce + mc', d.so + ms') hpv hq hag' rfl rfl rfl H1 locs1 ls (h0.backC (d1 := (z.2.1, ad', d.ce + mc', d.so + ms')) hwd hk1 hF) hS h3
end XQ
