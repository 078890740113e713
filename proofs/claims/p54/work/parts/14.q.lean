/-! ===== the class's world, with the law's own cells beside it ===== -/
def hY (g : Cx) (d : Dl) (w : Wd) (es : va_W) : Heap → Prop := fun H => va_P g.G.1 vwCl (hw g.G 0 d.na d.ad w ++ es) H ∧ va_D g.A (hw g.G 0 d.na d.ad w ++ es) ∧ okW d.na w
def sc (xs : Nat → Int32) (j : Int) : Int := (xs j.toNat).toInt
theorem app_l {α : Type} {a b : List α} {k : Nat} {x : α} (h : a[k]? = some x) : (a ++ b)[k]? = some x := by
  rw [List.getElem?_append_left (List.getElem?_eq_some_iff.mp h).1]; exact h
theorem app_r {α : Type} {a b : List α} {k : Nat} {x : α} (h : b[k]? = some x) : (a ++ b)[a.length + k]? = some x := by
  rw [List.getElem?_append_right (Nat.le_add_right _ _), Nat.add_sub_cancel_left]; exact h
theorem hY.c {g : Cx} {d : Dl} {wC : Wd} {es : va_W} {H : Heap} (h : hY g d wC es H) : wdH g.G 0 d.na d.ad wC g.A H :=
  ⟨fun k q hk => h.1 k q (app_l hk), ⟨fun i j p q hi hj e => h.2.1.1 i j p q (app_l hi) (app_l hj) e, fun k q hk => h.2.1.2 k q (app_l hk)⟩, h.2.2⟩
theorem hY.e {g : Cx} {d : Dl} {wC : Wd} {es : va_W} {H : Heap} (h : hY g d wC es H) : hL g es H :=
  ⟨fun k q hk => h.1 _ q (app_r hk), ⟨fun i j p q hi hj e => by have := h.2.1.1 _ _ p q (app_r hi) (app_r hj) e; omega, fun k q hk => h.2.1.2 _ q (app_r hk)⟩⟩
theorem hw_in {G : Gd} {dm na : Nat} {ad : Nat → Nat} {w : Wd} {k : Nat} {q : Nat × va_E} (h : (hw G dm na ad w)[k]? = some q) : ∃ o, o ∈ OL dm na ∧ ad o = q.1 := by
  unfold hw at h
  rw [List.getElem?_map] at h
  cases ho : (OL dm na)[k]? with
  | none => rw [ho] at h; cases h
  | some o => rw [ho] at h; cases h; exact ⟨o, List.mem_of_getElem? ho, rfl⟩
theorem hw_out {G : Gd} {dm na : Nat} {ad : Nat → Nat} {w : Wd} {o : Nat} (h : o ∈ OL dm na) : ∃ (k : Nat) (q : Nat × va_E), (hw G dm na ad w)[k]? = some q ∧ q.1 = ad o := by
  obtain ⟨k, hk⟩ := List.getElem?_of_mem h
  exact ⟨k, hE G na ad w o, by unfold hw; rw [List.getElem?_map, hk]; rfl, rfl⟩
/-- the class's world after a call, the model's as it was -/
theorem hY.backC {g : Cx} {d d1 : Dl} {wC wC' : Wd} {es : va_W} {H H1 : Heap} (h : hY g d wC es H) (h1 : wdH g.G 0 d1.na d1.ad wC' (rg 0 d.na d.ad H.size) H1) (hk : ∀ q : Nat, q < H.size → ¬ rg 0 d.na d.ad H.size q → H1[q]? = H[q]?) (hF : ∀ q, rg 0 d.na d.ad H.size q → g.A q) : hY g d1 wC' es H1 := by
  have hm := h.e
  have hno : ∀ (k : Nat) (q : Nat × va_E), es[k]? = some q → q.1 < H.size ∧ ¬ rg 0 d.na d.ad H.size q.1 := by
    intro k q hq
    have hlt := (hm.1 k q hq).lt
    refine ⟨hlt, ?_⟩
    rintro (⟨o, ho, he⟩ | hz)
    · obtain ⟨k2, q2, hk2, hq2⟩ := hw_out (G := g.G) (ad := d.ad) (w := wC) ho
      have := h.2.1.1 _ _ q2 q (app_l hk2) (app_r hq) (by rw [hq2, he])
      have := (List.getElem?_eq_some_iff.mp hk2).1
      omega
    · omega
  refine ⟨h1.1.app (hm.1.kept fun k q hq => hk q.1 (hno k q hq).1 (hno k q hq).2), (h1.2.1.weaken fun _ q _ hq => hF q.1 hq).app hm.2 (fun i j p q hi hj e => ?_), h1.2.2⟩
  exact (hno j q hj).2 (e ▸ h1.2.1.2 i p hi)
theorem hY.sub {g : Cx} {d : Dl} {wC : Wd} {es : va_W} : hsub g (hY g d wC es) es := fun _ h => h.e
/-- the law's own cells after a call, the class's world as it was -/
theorem hY.back {g : Cx} {d : Dl} {wC : Wd} {es es' : va_W} : hback g (hY g d wC es) es es' (hY g d wC es') := by
  intro H H1 h hF hP hD hz hk
  have hc := h.c
  have hno : ∀ (k : Nat) (q : Nat × va_E), (hw g.G 0 d.na d.ad wC)[k]? = some q → q.1 < H.size ∧ ¬ va_A es H.size q.1 := by
    intro k q hq
    have hlt := (hc.1 k q hq).lt
    refine ⟨hlt, ?_⟩
    rintro (⟨k2, e2, hk2⟩ | hz)
    · have := h.2.1.1 _ _ q (q.1, e2) (app_l hq) (app_r hk2) rfl
      have := (List.getElem?_eq_some_iff.mp hq).1
      omega
    · omega
  refine ⟨(hc.1.kept fun k q hq => hk q.1 (hno k q hq).1 (hno k q hq).2).app hP, hc.2.1.app (hD.weaken fun _ q _ hq => hF q.1 hq) (fun i j p q hi hj e => ?_), h.2.2⟩
  exact (hno i p hi).2 (e ▸ hD.2 j q hj)
theorem hY.backE {g : Cx} {d : Dl} {wC : Wd} {es ws' : va_W} : hback g (hY g d wC es) [] ws' (hY g d wC es) := fun H H1 h _ _ _ _ hk => ⟨h.1.kept fun k q hq => hk q.1 (h.1 k q hq).lt (by
  rintro (⟨k2, e, hk2⟩ | hz)
  · simp at hk2
  · exact absurd (h.1 k q hq).lt (by omega)), h.2⟩
theorem hY.drop {g : Cx} {d : Dl} {wC : Wd} {es : va_W} {H : Heap} (h : hY g d wC es H) : hP g d wC H → hP g d wC H := id
theorem hY.sub' {g : Cx} {d : Dl} {wC : Wd} {es es' : va_W} {H : Heap} (h : hY g d wC es H) (he : ∃ zs, (es' ++ zs).Perm es) : hY g d wC es' H := by
  obtain ⟨zs, hp⟩ := he
  have := va_perm (zs := zs) ⟨h.1, h.2.1⟩ (ws' := hw g.G 0 d.na d.ad wC ++ es') (by rw [List.append_assoc]; exact hp.append_left _)
  exact ⟨this.1, this.2, h.2.2⟩
theorem hP_hY {g : Cx} {d : Dl} {wC : Wd} {H : Heap} (hdm : g.dm = 0) (h : hP g d wC H) : hY g d wC [] H := by
  obtain ⟨h1, h2, h3⟩ := h
  rw [hdm] at h1 h2
  exact ⟨by rw [List.append_nil]; exact h1, by rw [List.append_nil]; exact h2, h3⟩
theorem hY_hP {g : Cx} {d : Dl} {wC : Wd} {es : va_W} {H : Heap} (hdm : g.dm = 0) (h : hY g d wC es H) : hP g d wC H := by
  have := h.c
  unfold hP
  rw [hdm]
  exact this
abbrev gd (g : Cx) (n : Nat) : Cx := (g.p, g.l, g.e, g.R, g.s, g.m, g.args, g.below, g.meth, g.c, g.nL, g.Q, g.G, g.A, n)
theorem CX.gd {g : Cx} {cc : ByteArray} {nL : Nat} {ret : Option FieldType} {own : String} (C : CX g cc nL ret own) (n : Nat) : CX (gd g n) cc nL ret own := C
section XQ
variable {g : Cx} {d : Dl} {cc : ByteArray} {nL : Nat} {ret : Option FieldType} {own : String} {hp : Heap → Prop} {wC : Wd} {es : va_W} {lv : List (Nat × Value)} {st : List Value} {pc : Nat}
theorem q_sld (C : CX g cc nL ret own) {b L : Nat} {xs : Nat → Int32} (hX : va_X b L xs g.s g.s.heap) (hb : b < g.s.heap.size) (hbA : ¬ g.A b) {j : Int} (hj : 0 ≤ j ∧ j < L) (hL : L ≤ 3072) (dg : decode cc pc = .ok (.iaload, 1)) (k : XG g d hp lv (iV (sc xs j) :: st) (pc + 1)) : XG g d hp lv (iV j :: .ref b :: st) pc := by
  intro H locs ls h1 h2 h3
  obtain ⟨e1, e2, e3⟩ := inb_cl (i := j) (n := L) (decide_eq_true hj) (by omega)
  refine va_sld C.x C.b hX hb hbA h2 e2 dg ?_
  rw [e1]
  have kk := k H locs ls h1 h2 h3
  unfold sc iV at kk
  rw [ofInt_toInt] at kk
  exact kk
theorem q_slen (C : CX g cc nL ret own) {b L : Nat} {xs : Nat → Int32} (hX : va_X b L xs g.s g.s.heap) (hb : b < g.s.heap.size) (hbA : ¬ g.A b) (dg : decode cc pc = .ok (.arraylength, 1)) (k : XG g d hp lv (iV (L : Nat) :: st) (pc + 1)) : XG g d hp lv (.ref b :: st) pc := by
  intro H locs ls h1 h2 h3
  refine va_slen C.x C.b hX hb hbA h2 dg ?_
  rw [← Int32.ofInt_eq_ofNat]
  exact k H locs ls h1 h2 h3
theorem q_cI (C : CX g cc nL ret own) {rmO : Room} (hA : ∀ q : Nat, g.s.heap.size ≤ q → g.A q) (hR : g.R = rmO) {y : MethodName} {cc' : ByteArray} {nL' n index : Nat} {ret' : Option FieldType} {rm : Room} {o K : Nat} {T : u_T} {As rest stk : List Value} {α : Type} {pv : Option (Int × Wd)} {Kt : Int × Wd → Option α} {res : α}
    (hf : mfV y cc' nL' ret' n) (hlk : Cond.methodLink own index y ∈ lw_tg) (hcl : vwCl[K - 1]? = some (y.cls, T, nf (K - 1))) (hk : isK d.na 0 K o) (hK : 0 < K ∧ K ≤ 10) (hrm : rm.cells = 0 ∧ rm.slots = 0) (hrr : rm.frames + 1 ≤ rmO.frames ∧ 8 + (nL' + 11) + rm.locals ≤ rmO.locals)
    (hst : stk = As.reverse ++ .ref (d.ad o) :: rest) (hn : As.length = n) (hro : (rest.map fun v => v.category).sum ≤ 8) (hce : d.ce ≤ rmO.cells ∧ d.so ≤ rmO.slots) (dg : decode cc pc = .ok (.invokevirtual index, 3))
    (hq : pv.bind Kt = some res) (hM : ∀ r w1, pv = some (r, w1) → mI g.l y cc' nL' ret' rm g.G 0 d.na d.ad (.ref (d.ad o) :: As) wC r w1)
    (k' : ∀ r w1, pv = some (r, w1) → Kt (r, w1) = some res → XG g d (hY g d w1 es) lv (iV r :: rest) (pc + 3)) : XG g d (hY g d wC es) lv stk pc := by
  intro H locs ls h0 h2 h3
  obtain ⟨⟨r, w1⟩, hpv, hq⟩ := Option.bind_eq_some_iff.mp hq
  obtain ⟨f1, f2, f3, f4, f5, f6, f7⟩ := hf
  have h1 := h0.c
  have hF := wdH.rg h1 h2 hA
  refine va_calli (va_runV (C := y.cls) (As := As) (rest := rest) ⟨C.x, C.b, C.ml, C.o, C.t⟩ (hM r w1 hpv H.size)
    ⟨callB_of n C.t (good_tg f4) rfl hrm.1 hrm.2 (C.t _ f3) (C.t _ hlk) ⟨f5, f6, f7⟩ (by rw [hR]; exact hrr), C.t _ f1, C.t _ f2⟩
    ⟨preS.blind, xrecv_of (g := gd g 0) (d := d) (CX.gd C 0) h1 hk hK hcl, pre_of (g := gd g 0) (d := d) (CX.gd C 0) h1 h2 hF⟩ rfl hn (by show ls.size = nL; rw [h3.1, C.n]) hst (lv_room hro) dg (by rw [hR]; exact hce)) h2 (fun q _ h => hF q h) hF (fun v u t H1 locs1 ht hvm hw hB hz1 hk1 hS => ?_)
  have hB : wdH g.G 0 d.na d.ad w1 (rg 0 d.na d.ad H.size) t.heap := hB
  rw [ht] at hB
  rw [hw]
  exact k' r w1 hpv hq H1 locs1 ls (h0.backC (d1 := d) hB hk1 hF) hS h3
theorem q_cV (C : CX g cc nL ret own) {rmO : Room} (hA : ∀ q : Nat, g.s.heap.size ≤ q → g.A q) (hR : g.R = rmO) {y : MethodName} {cc' : ByteArray} {nL' n index : Nat} {ret' : Option FieldType} {rm : Room} {o K : Nat} {T : u_T} {As rest stk : List Value} {α : Type} {pv : Option Wd} {Kt : Wd → Option α} {res : α}
    (hf : mfV y cc' nL' ret' n) (hlk : Cond.methodLink own index y ∈ lw_tg) (hcl : vwCl[K - 1]? = some (y.cls, T, nf (K - 1))) (hk : isK d.na 0 K o) (hK : 0 < K ∧ K ≤ 10) (hrm : rm.cells = 0 ∧ rm.slots = 0) (hrr : rm.frames + 1 ≤ rmO.frames ∧ 8 + (nL' + 11) + rm.locals ≤ rmO.locals)
    (hst : stk = As.reverse ++ .ref (d.ad o) :: rest) (hn : As.length = n) (hro : (rest.map fun v => v.category).sum ≤ 8) (hce : d.ce ≤ rmO.cells ∧ d.so ≤ rmO.slots) (dg : decode cc pc = .ok (.invokevirtual index, 3))
    (hq : pv.bind Kt = some res) (hM : ∀ w1, pv = some w1 → mV g.l y cc' nL' ret' rm g.G 0 d.na d.ad (.ref (d.ad o) :: As) wC w1)
    (k' : ∀ w1, pv = some w1 → Kt w1 = some res → XG g d (hY g d w1 es) lv rest (pc + 3)) : XG g d (hY g d wC es) lv stk pc := by
  intro H locs ls h0 h2 h3
  obtain ⟨w1, hpv, hq⟩ := Option.bind_eq_some_iff.mp hq
  obtain ⟨f1, f2, f3, f4, f5, f6, f7⟩ := hf
  have h1 := h0.c
  have hF := wdH.rg h1 h2 hA
  refine va_callv (va_runV (C := y.cls) (As := As) (rest := rest) ⟨C.x, C.b, C.ml, C.o, C.t⟩ (hM w1 hpv H.size)
    ⟨callB_of n C.t (good_tg f4) rfl hrm.1 hrm.2 (C.t _ f3) (C.t _ hlk) ⟨f5, f6, f7⟩ (by rw [hR]; exact hrr), C.t _ f1, C.t _ f2⟩
    ⟨preS.blind, xrecv_of (g := gd g 0) (d := d) (CX.gd C 0) h1 hk hK hcl, pre_of (g := gd g 0) (d := d) (CX.gd C 0) h1 h2 hF⟩ rfl hn (by show ls.size = nL; rw [h3.1, C.n]) hst (lv_room hro) dg (by rw [hR]; exact hce)) h2 (fun q _ h => hF q h) hF (fun u t H1 locs1 ht hvm hw hB hz1 hk1 hS => ?_)
  have hB : wdH g.G 0 d.na d.ad w1 (rg 0 d.na d.ad H.size) t.heap := hB
  rw [ht] at hB
  exact k' w1 hpv hq H1 locs1 ls (h0.backC (d1 := d) hB hk1 hF) hS h3
theorem q_sI (C : CX g cc nL ret own) {rmO : Room} (hA : ∀ q : Nat, g.s.heap.size ≤ q → g.A q) (hR : g.R = rmO) {y : MethodName} {cc' : ByteArray} {nL' n index : Nat} {ret' : Option FieldType} {rm : Room} {As rest stk : List Value} {α : Type} {pv : Option (Int × Wd)} {Kt : Int × Wd → Option α} {res : α}
    (hf : mfS y cc' nL' ret' n) (hlk : Cond.methodLink own index y ∈ lw_tg) (hrm : rm.cells = 0 ∧ rm.slots = 0) (hrr : rm.frames + 1 ≤ rmO.frames ∧ 8 + (nL' + 11) + rm.locals ≤ rmO.locals)
    (hst : stk = As.reverse ++ rest) (hn : As.length = n) (hro : (rest.map fun v => v.category).sum ≤ 8) (hce : d.ce ≤ rmO.cells ∧ d.so ≤ rmO.slots) (dg : decode cc pc = .ok (.invokestatic index, 3))
    (hq : pv.bind Kt = some res) (hM : ∀ r w1, pv = some (r, w1) → mI g.l y cc' nL' ret' rm g.G 0 d.na d.ad As wC r w1)
    (k' : ∀ r w1, pv = some (r, w1) → Kt (r, w1) = some res → XG g d (hY g d w1 es) lv (iV r :: rest) (pc + 3)) : XG g d (hY g d wC es) lv stk pc := by
  intro H locs ls h0 h2 h3
  obtain ⟨⟨r, w1⟩, hpv, hq⟩ := Option.bind_eq_some_iff.mp hq
  obtain ⟨f1, f3, f4, f5, f6, f7⟩ := hf
  have h1 := h0.c
  have hF := wdH.rg h1 h2 hA
  refine va_calli (va_runS (As := As) (rest := rest) ⟨C.x, C.b, C.ml, C.o, C.t⟩ (hM r w1 hpv H.size)
    ⟨callB_of n C.t (good_tg f4) rfl hrm.1 hrm.2 (C.t _ f3) (C.t _ hlk) ⟨f5, f6, f7⟩ (by rw [hR]; exact hrr), C.t _ f1⟩
    ⟨preS.blind, pre_of (g := gd g 0) (d := d) (CX.gd C 0) h1 h2 hF⟩ rfl hn (by show ls.size = nL; rw [h3.1, C.n]) hst (lv_room hro) dg (by rw [hR]; exact hce)) h2 (fun q _ h => hF q h) hF (fun v u t H1 locs1 ht hvm hw hB hz1 hk1 hS => ?_)
  have hB : wdH g.G 0 d.na d.ad w1 (rg 0 d.na d.ad H.size) t.heap := hB
  rw [ht] at hB
  rw [hw]
  exact k' r w1 hpv hq H1 locs1 ls (h0.backC (d1 := d) hB hk1 hF) hS h3
theorem q_cG (C : CX g cc nL ret own) {rmO : Room} (hA : ∀ q : Nat, g.s.heap.size ≤ q → g.A q) (hR : g.R = rmO) {y : MethodName} {cc' : ByteArray} {nL' n index : Nat} {ret' : Option FieldType} {rm : Room} {o K : Nat} {T : u_T} {As rest stk : List Value} {mc' ms' : Nat} {r0 : Int} {na1 : Nat} {w1 : Wd}
    (hf : mfV y cc' nL' ret' n) (hlk : Cond.methodLink own index y ∈ lw_tg) (hcl : vwCl[K - 1]? = some (y.cls, T, nf (K - 1))) (hk : isK d.na 0 K o) (hK : 0 < K ∧ K ≤ 10) (hrm : rm.cells = mc' ∧ rm.slots = ms') (hrr : rm.frames + 1 ≤ rmO.frames ∧ 8 + (nL' + 11) + rm.locals ≤ rmO.locals)
    (hst : stk = As.reverse ++ .ref (d.ad o) :: rest) (hn : As.length = n) (hro : (rest.map fun v => v.category).sum ≤ 8) (hce : d.ce + mc' ≤ rmO.cells ∧ d.so + ms' ≤ rmO.slots) (dg : decode cc pc = .ok (.invokevirtual index, 3))
    (hM : mGI g.l y cc' nL' ret' rm g.G 0 d.na d.ad (.ref (d.ad o) :: As) wC (.inl r0, na1, w1) mc' ms')
    (k' : ∀ (d1 : Dl), AG d.na d.ad d1 → d1.na = na1 → d1.ce = d.ce + mc' → d1.so = d.so + ms' → XG g d1 (hY g d1 w1 es) lv (iV r0 :: rest) (pc + 3)) : XG g d (hY g d wC es) lv stk pc := by
  intro H locs ls h0 h2 h3
  obtain ⟨f1, f2, f3, f4, f5, f6, f7⟩ := hf
  have h1 := h0.c
  have hF := wdH.rg h1 h2 hA
  refine vx_calli (vx_runV (C := y.cls) (As := As) (rest := rest) ⟨C.x, C.b, C.ml, C.o, C.t⟩ (hM H.size)
    ⟨callB_of n C.t (good_tg f4) rfl hrm.1 hrm.2 (C.t _ f3) (C.t _ hlk) ⟨f5, f6, f7⟩ (by rw [hR]; exact hrr), C.t _ f1, C.t _ f2⟩
    ⟨preS.blind, xrecv_of (g := gd g 0) (d := d) (CX.gd C 0) h1 hk hK hcl, pre_of (g := gd g 0) (d := d) (CX.gd C 0) h1 h2 hF⟩ rfl hn (by show ls.size = nL; rw [h3.1, C.n]) hst (lv_room hro) dg (by rw [hR]; exact hce)) h2 (fun q _ h => hF q h) hF (fun q _ h => hF q h)
    (fun E ce q9 u t H1 locs1 ht hvm _ hB hz1 hk1 hS hc9 hv9 hcl9 => ?_) (fun v u t H1 locs1 ht hvm hw hB hz1 hk1 hS => ?_)
  · obtain ⟨⟨k, hk2, hE⟩, ad', hag', hwd⟩ := hB
    cases hk2
  · obtain ⟨r, hr, hv⟩ := hw
    cases hr
    obtain ⟨ad', hag', hwd⟩ := hB
    rw [ht] at hwd
    rw [hv]
    exact k' (na1, ad', d.ce + mc', d.so + ms') hag' rfl rfl rfl H1 locs1 ls (h0.backC (d1 := (na1, ad', d.ce + mc', d.so + ms')) hwd hk1 hF) hS h3
def mfL (y : MethodName) (cc : ByteArray) (nL : Nat) (hh : List (Nat × Nat × Nat × Nat)) (n : Nat) : Prop :=
  Cond.static y ∈ lw_tg ∧ Cond.initialized y.cls ∈ lw_tg ∧ Cond.codeWith y cc nL (some .int) hh ∈ lw_tg ∧ y.cls ≠ "java/lang/invoke/MethodHandle" ∧ y.cls ≠ "java/lang/invoke/VarHandle" ∧ (parseMethodDescriptor y.desc).map (fun d => d.parameters.length) = some n
theorem good_tgy {y : MethodName} {own : String} {index : Nat} {cc : ByteArray} {nL : Nat} {ret : Option FieldType} {hh : List (Nat × Nat × Nat × Nat)} (h : Cond.codeWith y cc nL ret hh ∈ lw_tg) (h1 : Cond.methodLink own index y ∈ lw_tg) (h2 : Cond.static y ∈ lw_tg) (h3 : Cond.initialized y.cls ∈ lw_tg) : GoodIn lw_tg (va_wsS own index y (WSy y cc nL ret hh)) := by
  have hg : ∀ w ∈ lw_tg, w ∈ lw_tg ∧ GoodIn lw_tg [w] := fun w hw => ⟨hw, fun x hx => by rw [List.mem_singleton.mp hx]; exact ⟨hw, good_of_word (List.mem_filter.mp hw).2⟩⟩
  intro w hw
  have hm : w ∈ lw_tg := by
    unfold va_wsS at hw
    simp only [List.mem_append, List.mem_cons, List.not_mem_nil, or_false] at hw
    rcases hw with hw | hw
    · rcases hw with rfl | rfl | rfl <;> assumption
    · rcases hw with rfl | hw
      · exact h
      · exact hw
  exact ⟨hm, good_of_word (List.mem_filter.mp hm).2⟩
theorem q_wr (C : CX g cc nL ret own) {rmO : Room} (hA : ∀ q : Nat, g.s.heap.size ≤ q → g.A q) (hR : g.R = rmO) {y : MethodName} {cc' : ByteArray} {nL' n index mc' ms' : Nat} {hh : List (Nat × Nat × Nat × Nat)} {rm : Room} {As rest stk : List Value} {α : Type} {pv : Option (Int × Nat × Wd)} {Kt : Int × Nat × Wd → Option α} {res : α}
    (hf : mfL y cc' nL' hh n) (hlk : Cond.methodLink own index y ∈ lw_tg) (hrm : rm.cells = mc' ∧ rm.slots = ms') (hrr : rm.frames + 1 ≤ rmO.frames ∧ 8 + (nL' + 11) + rm.locals ≤ rmO.locals)
    (hst : stk = As.reverse ++ rest) (hn : As.length = n) (hro : (rest.map fun v => v.category).sum ≤ 8) (hce : d.ce + mc' ≤ rmO.cells ∧ d.so + ms' ≤ rmO.slots) (dg : decode cc pc = .ok (.invokestatic index, 3))
    (hq : pv.bind Kt = some res) (hM : ∀ z, pv = some z → mL g.l y cc' nL' hh rm g.G d.na d.ad As wC z mc' ms')
    (k' : ∀ z (d1 : Dl), pv = some z → Kt z = some res → AG d.na d.ad d1 → d1.na = z.2.1 → d1.ce = d.ce + mc' → d1.so = d.so + ms' → XG g d1 (hY g d1 z.2.2 es) lv (iV z.1 :: rest) (pc + 3)) : XG g d (hY g d wC es) lv stk pc := by
  intro H locs ls h0 h2 h3
  obtain ⟨z, hpv, hq⟩ := Option.bind_eq_some_iff.mp hq
  obtain ⟨f1, f2, f4, f5, f6, f7⟩ := hf
  have h1 := h0.c
  have hF := wdH.rg h1 h2 hA
  have hPS : PreS g.s H (va_Pc As (preL g.G d.na d.ad wC H.size)) As :=
    ⟨preS.blind, fun U hU hW => ⟨rfl, (pre_of (g := gd g 0) (d := d) (CX.gd C 0) h1 h2 hF (vs := As) U hU hW).2⟩⟩
  refine va_calli (vx_runSW (As := As) (rest := rest) ⟨C.x, C.b, C.ml, C.o, C.t⟩ (hM z hpv H.size)
    (vx_cwSW n C.t (good_tgy f4 hlk f1 f2) rfl hrm.1 hrm.2 ⟨f5, f6, f7⟩ (by rw [hR]; exact hrr)) hPS rfl hn (by show ls.size = nL; rw [h3.1, C.n]) hst (lv_room hro) dg (by rw [hR]; exact hce)) h2 (fun q _ h => hF q h) hF (fun v u t H1 locs1 ht hvm hw hB hz1 hk1 hS => ?_)
  obtain ⟨ad', hag', hwd⟩ := hB
  rw [ht] at hwd
  rw [hw]
  exact k' z (z.2.1, ad', d.ce + mc', d.so + ms') hpv hq hag' rfl rfl rfl H1 locs1 ls (h0.backC (d1 := (z.2.1, ad', d.ce + mc', d.so + ms')) hwd hk1 hF) hS h3
end XQ
/-! ===== the script beside the world ===== -/
def preX (G : Gd) (na : Nat) (ad : Nat → Nat) (w : Wd) (b L : Nat) (xs : Nat → Int32) (sz : Nat) (U : State) : Prop := preS G 0 na ad w sz U ∧ va_X b L xs U U.heap ∧ b < sz ∧ ¬ rg 0 na ad sz b
def mX (l : Launch) (y : MethodName) (cc : ByteArray) (nL : Nat) (ret : Option FieldType) (rm : Room) (G : Gd) (na : Nat) (ad : Nat → Nat) (b L : Nat) (xs : Nat → Int32) (vs : List Value) (w : Wd) (res : Int × Nat × Wd) (mc ms : Nat) : Prop :=
  ∀ sz : Nat, Met l y (WSx y cc nL ret) rm (va_Pc vs (preX G na ad w b L xs sz)) (va_Qi (fun v (_ : Unit) => v = Int32.ofInt res.1) (fun _ t => PW G 0 na ad sz (.inl 0, res.2) t) (rg 0 na ad sz)) mc ms (rg 0 na ad sz)
theorem preX.blind {G : Gd} {na : Nat} {ad : Nat → Nat} {w : Wd} {b L sz : Nat} {xs : Nat → Int32} {vs : List Value} : FrameBlind (va_Pc vs (preX G na ad w b L xs sz)) := by
  rintro a U g mk ⟨h1, h2, h3, h4⟩
  have := preS.blind (vs := vs) (a := a) (U := U) g mk ⟨h1, h2⟩
  exact ⟨h1, this.2, va_X.moved (u := U) (U := U.calling g mk a) (Vm.Alike.refl U.vm) h3, h4⟩
def rtX (g : Cx) (na : Nat) (ad : Nat → Nat) (cc : ByteArray) (ty : FieldType) (mc ms : Nat) (res : Int × Nat × Wd) : Prop :=
  ∀ (d : Dl) (pc : Nat) (lv : List (Nat × Value)) (v : Int) (w2 : Wd) (es : va_W), AG na ad d → d.ce ≤ mc ∧ d.so ≤ ms → (v, d.na, w2) = res → narrow ty (iV v) = iV v → decode cc pc = .ok (.ireturn, 1) → XG g d (hY g d w2 es) lv [iV v] pc
def stXs (g : Cx) (d : Dl) (l : Launch) (rm : Room) (G : Gd) (na : Nat) (ad : Nat → Nat) (b L : Nat) (xs : Nat → Int32) : Prop :=
  g.l = l ∧ g.R = rm ∧ g.G = G ∧ g.dm = 0 ∧ d = (na, ad, 0, 0) ∧ (∀ q : Nat, g.s.heap.size ≤ q → g.A q) ∧ va_X b L xs g.s g.s.heap ∧ b < g.s.heap.size ∧ ¬ g.A b
theorem met_X {l : Launch} {y : MethodName} {cc : ByteArray} {nL : Nat} {ret : Option FieldType} {rm : Room} {G : Gd} {na : Nat} {ad : Nat → Nat} {b L : Nat} {xs : Nat → Int32} {vs : List Value} {w : Wd} {res : Int × Nat × Wd} {mc ms : Nat} (lv0 : List (Nat × Value)) (hy : plainName y.cls = true) (hlen : (lg_sl vs).length ≤ nL) (hlv : lv_args 0 vs = lv0) (ty : FieldType) (hret : ret = some ty)
    (body : ∀ (g : Cx) (d : Dl), CX g cc nL ret y.cls → stXs g d l rm G na ad b L xs → rtX g na ad cc ty mc ms res → XG g d (hY g d w []) lv0 [] 0) :
    mX l y cc nL ret rm G na ad b L xs vs w res mc ms := by
  intro sz
  refine Met.ofW (cc := cc) (maxL := nL) (ret := ret) hy rfl ?_
  intro p e s m args below meth c s₁ B hml hv
  obtain ⟨rfl, ⟨hsz, hwd, hK, hN, hE⟩, hX, hb, hbA⟩ := hv
  have hts := atoms_spec (ws := WSx y cc nL ret) B.pre
  have hown : s.vm.findClass y.cls = some m.cls := findClass_of_methodNamed B.named
  have hl := lv_entry vs (n := nL) hlen
  rw [lg_entry_eq]
  rw [hlv] at hl
  subst hsz
  have C : CX (p, l, e, rm, s, m, vs.toArray, below, meth, c, nL, MQ below (va_Qi (fun v (_ : Unit) => v = Int32.ofInt res.1) (fun _ t => PW G 0 na ad s.heap.size (.inl 0, res.2) t) (rg 0 na ad s.heap.size)) vs.toArray s mc ms (rg 0 na ad s.heap.size), G, rg 0 na ad s.heap.size, 0) cc nL ret y.cls := ⟨B.exec, B.bytes, hml, rfl, B.returns, B.notSynchronized, hown, fun q hq => hts q (List.mem_cons_of_mem _ hq), hN, hK, hE⟩
  refine body _ (na, ad, 0, 0) C ⟨rfl, rfl, rfl, rfl, rfl, fun q hq => Or.inr hq, hX, hb, hbA⟩ ?_ s.heap [] _ (hP_hY rfl hwd.self) va_S.rf hl
  intro d1 pc lv v w2 es hag hce hq hn dg H locs ls h1 h2 h3
  subst hq
  refine W.widen hce.1 hce.2 ?_
  exact W.zret C.x C.b (by rw [C.r, hret]) hn (fun t ht hW => ⟨⟨_, (), rfl, rfl, d1.ad, ⟨hag.1, hag.2⟩, by rw [ht]; exact h1.c⟩, h2.F ht⟩) h2.2.2 dg C.k
section XQ2
variable {g : Cx} {d : Dl} {cc : ByteArray} {nL : Nat} {ret : Option FieldType} {own : String} {hp : Heap → Prop} {wC : Wd} {es : va_W} {lv : List (Nat × Value)} {st : List Value} {pc : Nat}
theorem q_X (C : CX g cc nL ret own) {rmO : Room} (hA : ∀ q : Nat, g.s.heap.size ≤ q → g.A q) (hR0 : g.R = rmO) {b L : Nat} {xs : Nat → Int32} (hX : va_X b L xs g.s g.s.heap) (hb : b < g.s.heap.size) (hbA : ¬ g.A b) {y : MethodName} {cc' : ByteArray} {nL' n index mc' ms' : Nat} {ret' : Option FieldType} {rm : Room} {As rest stk : List Value} {z : Int × Nat × Wd}
    (hf : mfS y cc' nL' ret' n) (hlk : Cond.methodLink own index y ∈ lw_tg) (hrm : rm.cells = mc' ∧ rm.slots = ms') (hrr : rm.frames + 1 ≤ rmO.frames ∧ 8 + (nL' + 11) + rm.locals ≤ rmO.locals)
    (hst : stk = As.reverse ++ rest) (hn : As.length = n) (hro : (rest.map fun v => v.category).sum ≤ 8) (hce : d.ce + mc' ≤ rmO.cells ∧ d.so + ms' ≤ rmO.slots) (dg : decode cc pc = .ok (.invokestatic index, 3))
    (hM : mX g.l y cc' nL' ret' rm g.G d.na d.ad b L xs As wC z mc' ms')
    (k' : ∀ (d1 : Dl), AG d.na d.ad d1 → d1.na = z.2.1 → d1.ce = d.ce + mc' → d1.so = d.so + ms' → XG g d1 (hY g d1 z.2.2 es) lv (iV z.1 :: rest) (pc + 3)) : XG g d (hY g d wC es) lv stk pc := by
  intro H locs ls h0 h2 h3
  obtain ⟨f1, f3, f4, f5, f6, f7⟩ := hf
  have h1 := h0.c
  have hF := wdH.rg h1 h2 hA
  have hPS : PreS g.s H (va_Pc As (preX g.G d.na d.ad wC b L xs H.size)) As :=
    ⟨preX.blind, fun U hU hW => ⟨rfl, (pre_of (g := gd g 0) (d := d) (CX.gd C 0) h1 h2 hF (vs := As) U hU hW).2, by rw [hU]; exact (hX.moved hW.alike).kept (h2.2.1 b hb hbA), Nat.lt_of_lt_of_le hb h2.1, fun hz => hbA (hF b hz)⟩⟩
  refine va_calli (va_runS (As := As) (rest := rest) ⟨C.x, C.b, C.ml, C.o, C.t⟩ (hM H.size)
    ⟨callB_of n C.t (good_tg f4) rfl hrm.1 hrm.2 (C.t _ f3) (C.t _ hlk) ⟨f5, f6, f7⟩ (by rw [hR0]; exact hrr), C.t _ f1⟩ hPS rfl hn (by show ls.size = nL; rw [h3.1, C.n]) hst (lv_room hro) dg (by rw [hR0]; exact hce)) h2 (fun q _ h => hF q h) hF (fun v u t H1 locs1 ht hvm hw hB hz1 hk1 hS => ?_)
  obtain ⟨ad', hag', hwd⟩ := hB
  rw [ht] at hwd
  rw [hw]
  exact k' (z.2.1, ad', d.ce + mc', d.so + ms') hag' rfl rfl rfl H1 locs1 ls (h0.backC (d1 := (z.2.1, ad', d.ce + mc', d.so + ms')) hwd hk1 hF) hS h3
end XQ2
/-- a number drawn from the script -/
def drw (xs : Nat → Int32) (L : Nat) (k n : Int) : Int := rm32 (an32 (if lt32 k (L : Int) = true then sc xs k else 0) 2147483647) n
def preD (G : Gd) (b L : Nat) (xs : Nat → Int32) (sz : Nat) (U : State) : Prop := preI G [] sz false U ∧ va_X b L xs U U.heap ∧ b < sz
theorem preD.blind {G : Gd} {b L sz : Nat} {xs : Nat → Int32} {vs : List Value} : FrameBlind (va_Pc vs (preD G b L xs sz)) := by
  rintro a U g mk ⟨h1, h2, h3, h4⟩
  have := preI.blind (vs := vs) (a := a) (U := U) g mk ⟨h1, h2⟩
  exact ⟨h1, this.2, va_X.moved (u := U) (U := U.calling g mk a) (Vm.Alike.refl U.vm) h3, h4⟩
theorem ki_L_draw : Cond.constant RL 7 2147483647 ∈ lw_tg := by decide +kernel
theorem tm_L_draw : mfS yL_draw cL_draw 3 (some .int) 3 := ⟨by decide +kernel, by decide +kernel, by decide +kernel, by decide +kernel, by decide +kernel, by decide +kernel⟩
theorem ct_draw (l : Launch) (G : Gd) {b L : Nat} {xs : Nat → Int32} {k n : Int} (hk : 0 ≤ k ∧ k ≤ 1000) (hL9 : L ≤ 260) (hn : eq32 n 0 = false) : ∀ sz, Met l yL_draw (WSx yL_draw cL_draw 3 (some .int)) (rmv 0 0 0 0) (va_Pc [.ref b, iV k, iV n] (preD G b L xs sz)) (QTI G [] (fun r ws' => r = drw xs L k n ∧ ws' = []) sz) 0 0 (va_A [] sz) := by
  intro sz
  refine Met.ofW (cc := cL_draw) (maxL := 3) (ret := some .int) (by decide) rfl ?_
  intro p e s m args below meth c s₁ B hml hv
  obtain ⟨rfl, ⟨hsz, hP, hD0, hK, hN, hE, hAO⟩, hX, hb⟩ := hv
  have hts := atoms_spec (ws := WSx yL_draw cL_draw 3 (some .int)) B.pre
  have hown : s.vm.findClass yL_draw.cls = some m.cls := findClass_of_methodNamed B.named
  have hl := lv_entry [.ref b, iV k, iV n] (n := 3) (Nat.le_of_ble_eq_true rfl)
  rw [lg_entry_eq]
  rw [show lv_args 0 [.ref b, iV k, iV n] = [(0, .ref b), (1, iV k), (2, iV n)] from rfl] at hl
  subst hsz
  have hbA : ¬ va_A [] s.heap.size b := by
    rintro (⟨k2, e2, hk2⟩ | hz)
    · simp at hk2
    · omega
  have C : CX (p, l, e, rmv 0 0 0 0, s, m, ([.ref b, iV k, iV n] : List Value).toArray, below, meth, c, 3, MQ below (QTI G [] (fun r ws' => r = drw xs L k n ∧ ws' = []) s.heap.size) ([.ref b, iV k, iV n] : List Value).toArray s 0 0 (va_A [] s.heap.size), G, va_A [] s.heap.size, 0) cL_draw 3 (some .int) yL_draw.cls := ⟨B.exec, B.bytes, hml, rfl, B.returns, B.notSynchronized, hown, fun q hq => hts q (List.mem_cons_of_mem _ hq), hN, hK, hE⟩
  have hA : ∀ q : Nat, s.heap.size ≤ q → va_A [] s.heap.size q := fun q hq => Or.inr hq
  refine (?_ : XG (p, l, e, rmv 0 0 0 0, s, m, ([.ref b, iV k, iV n] : List Value).toArray, below, meth, c, 3, MQ below (QTI G [] (fun r ws' => r = drw xs L k n ∧ ws' = []) s.heap.size) ([.ref b, iV k, iV n] : List Value).toArray s 0 0 (va_A [] s.heap.size), G, va_A [] s.heap.size, 0) (dz 0 0) (hL (p, l, e, rmv 0 0 0 0, s, m, ([.ref b, iV k, iV n] : List Value).toArray, below, meth, c, 3, MQ below (QTI G [] (fun r ws' => r = drw xs L k n ∧ ws' = []) s.heap.size) ([.ref b, iV k, iV n] : List Value).toArray s 0 0 (va_A [] s.heap.size), G, va_A [] s.heap.size, 0) []) [(0, .ref b), (1, iV k), (2, iV n)] [] 0) s.heap [] _ ⟨hP, hD0.self⟩ va_S.rf hl
  have tail : ∀ v : Int, v = (if lt32 k (L : Int) = true then sc xs k else 0) → XG (p, l, e, rmv 0 0 0 0, s, m, ([.ref b, iV k, iV n] : List Value).toArray, below, meth, c, 3, MQ below (QTI G [] (fun r ws' => r = drw xs L k n ∧ ws' = []) s.heap.size) ([.ref b, iV k, iV n] : List Value).toArray s 0 0 (va_A [] s.heap.size), G, va_A [] s.heap.size, 0) (dz 0 0) (hL (p, l, e, rmv 0 0 0 0, s, m, ([.ref b, iV k, iV n] : List Value).toArray, below, meth, c, 3, MQ below (QTI G [] (fun r ws' => r = drw xs L k n ∧ ws' = []) s.heap.size) ([.ref b, iV k, iV n] : List Value).toArray s 0 0 (va_A [] s.heap.size), G, va_A [] s.heap.size, 0) []) [(0, .ref b), (1, iV k), (2, iV n)] [iV v] 13 := by
    intro v hv
    refine x_ldc (v := 2147483647) C rfl ki_L_draw dL_draw_13 ?_
    refine x_iand C dL_draw_15 ?_
    refine x_iload_n C 2 dL_draw_16 rfl ?_
    refine x_irem C hn dL_draw_17 ?_
    intro H locs ls h1 h2 h3
    exact W.zret C.x C.b (by rw [C.r]) rfl (fun t ht hW => ⟨⟨_, (drw xs L k n, []), rfl, ⟨by unfold drw; rw [← hv], rfl, rfl⟩, by show va_P G.1 vwCl [] t.heap ∧ va_D (va_A [] s.heap.size) []; rw [ht]; exact h1⟩, h2.F ht⟩) h2.2.2 dL_draw_18 C.k
  refine x_iload_n C 1 dL_draw_0 rfl ?_
  refine x_aload_n C 0 dL_draw_1 rfl ?_
  refine q_slen C hX hb hbA dL_draw_2 ?_
  by_cases c : k < (L : Int)
  · have hc : lt32 k (L : Int) = true := by rw [ltq (by omega)]; exact c
    refine x_icmp_ge (tgt := 12) (P1 := some ()) (P2 := none) (z := ()) C dL_draw_3 (by decide) (if_pos hc) (fun h => nomatch h) (fun _ => ?_)
    refine x_aload_n C 0 dL_draw_6 rfl ?_
    refine x_iload_n C 1 dL_draw_7 rfl ?_
    refine q_sld C hX hb hbA ⟨hk.1, c⟩ (by omega) dL_draw_8 ?_
    refine x_goto (tgt := 13) C dL_draw_9 (by decide) ?_
    exact tail _ (by rw [if_pos hc])
  · have hc : ¬ lt32 k (L : Int) = true := by rw [ltq (by omega)]; exact c
    refine x_icmp_ge (tgt := 12) (P1 := none) (P2 := some ()) (z := ()) C dL_draw_3 (by decide) (if_neg hc) (fun _ => ?_) (fun h => nomatch h)
    refine x_iconst C dL_draw_12 ?_
    exact tail _ (by rw [if_neg hc])
section XQ3
variable {g : Cx} {d : Dl} {cc : ByteArray} {nL : Nat} {ret : Option FieldType} {own : String} {hp : Heap → Prop} {wC : Wd} {es : va_W} {lv : List (Nat × Value)} {st : List Value} {pc : Nat}
theorem q_draw (C : CX g cc nL ret RL) {rmO : Room} (hA : ∀ q : Nat, g.s.heap.size ≤ q → g.A q) (hR0 : g.R = rmO) {b L : Nat} {xs : Nat → Int32} (hX : va_X b L xs g.s g.s.heap) (hb : b < g.s.heap.size) (hbA : ¬ g.A b) {k n : Int} {index : Nat} (hk : 0 ≤ k ∧ k ≤ 1000) (hL9 : L ≤ 260) (hn : eq32 n 0 = false) (hlk : Cond.methodLink RL index yL_draw ∈ lw_tg) (hrr : 1 ≤ rmO.frames ∧ 8 + (3 + 11) ≤ rmO.locals) (hro : (st.map fun v => v.category).sum ≤ 8) (hce : d.ce ≤ rmO.cells ∧ d.so ≤ rmO.slots) (dg : decode cc pc = .ok (.invokestatic index, 3))
    (k' : XG g d (hY g d wC es) lv (iV (drw xs L k n) :: st) (pc + 3)) : XG g d (hY g d wC es) lv (iV n :: iV k :: .ref b :: st) pc := by
  have hs : hsub g (hY g d wC es) [] := hsub.E
  obtain ⟨f1, f3, f4, f5, f6, f7⟩ := tm_L_draw
  refine x_tI (wc := []) (hp' := fun _ => hY g d wC es) (mc := 0) (ms := 0) (post := fun r ws' => r = drw xs L k n ∧ ws' = []) (rest := st) (a := ([.ref b, iV k, iV n] : List Value).toArray) C hA hs (fun H locs ls h1 h2 h3 => ?_) (fun _ _ _ => hY.backE) (fun r ws' hp => ?_)
  · have hF := hs.F h1 h2 hA
    exact va_runS (As := [.ref b, iV k, iV n]) (rest := st) ⟨C.x, C.b, C.ml, C.o, C.t⟩ (ct_draw g.l g.G hk hL9 hn H.size) ⟨callB_of 3 C.t (good_tg f4) rfl rfl rfl (C.t _ f3) (C.t _ hlk) ⟨f5, f6, f7⟩ (by rw [hR0]; exact hrr), C.t _ f1⟩ ⟨preD.blind, fun U hU hW => ⟨rfl, (preT_of C hs h1 h2 hF (vs := [.ref b, iV k, iV n]) U hU hW).2, by rw [hU]; exact (hX.moved hW.alike).kept (h2.2.1 b hb hbA), Nat.lt_of_lt_of_le hb h2.1⟩⟩ rfl rfl h3 rfl (lv_room hro) dg (by rw [hR0]; exact hce)
  · obtain ⟨rfl, rfl⟩ := hp
    exact k'
end XQ3
