/-! ===== texts that are made: builders, strings, bytes, as lists of cells ===== -/
abbrev sbc (hb ha : Nat) (n : Int) : Nat × va_E := (hb, .inr (11, [.ref ha, iV 0, iV 0, iV n]))
abbrev stc (hs hv : Nat) : Nat × va_E := (hs, .inr (10, [.ref hv, iV 0, iV 0, iV 0]))
abbrev bya (G : Gd) (ha m : Nat) (a : Nat → Int32) : Nat × va_E := (ha, .inl (G.cy 1, (m, .inl a)))
def fitB (a : Nat → Int32) : Prop := ∀ j, fits .byte (.int (a j)) = true
theorem va_P_iff {D : va_G} {cl : List vw_C} {ws : va_W} {H : Heap} : va_P D cl ws H ↔ ∀ x ∈ ws, va_at D cl x H := by
  constructor
  · intro h x hx
    obtain ⟨k, hk⟩ := List.getElem?_of_mem hx
    exact h k x hk
  · intro h k q hk
    exact h q (List.mem_of_getElem? hk)
theorem va_D_iff {A : Nat → Prop} {ws : va_W} : va_D A ws ↔ (ws.map (fun x => x.1)).Nodup ∧ ∀ x ∈ ws, A x.1 := by
  constructor
  · intro h
    refine ⟨List.pairwise_iff_getElem.mpr (fun i j hi hj hij e => ?_), fun x hx => ?_⟩
    · rw [List.getElem_map, List.getElem_map] at e
      have := h.1 i j _ _ (List.getElem?_eq_getElem (by simpa using hi)) (List.getElem?_eq_getElem (by simpa using hj)) e
      omega
    · obtain ⟨k, hk⟩ := List.getElem?_of_mem hx
      exact h.2 k x hk
  · rintro ⟨h1, h2⟩
    refine ⟨fun i j p q hi hj e => ?_, fun k q hk => h2 q (List.mem_of_getElem? hk)⟩
    obtain ⟨hi', rfl⟩ := List.getElem?_eq_some_iff.mp hi
    obtain ⟨hj', rfl⟩ := List.getElem?_eq_some_iff.mp hj
    have h1 := List.pairwise_iff_getElem.mp h1
    rcases Nat.lt_trichotomy i j with c | c | c
    · exact absurd (by rw [List.getElem_map, List.getElem_map]; exact e) (h1 i j (by simpa using hi') (by simpa using hj') c)
    · exact c
    · exact absurd (by rw [List.getElem_map, List.getElem_map]; exact e.symm) (h1 j i (by simpa using hj') (by simpa using hi') c)
theorem va_perm {D : va_G} {cl : List vw_C} {A : Nat → Prop} {ws ws' zs : va_W} {H : Heap} (h : va_P D cl ws H ∧ va_D A ws) (hp : (ws' ++ zs).Perm ws) : va_P D cl ws' H ∧ va_D A ws' := by
  obtain ⟨h1, h2⟩ := h
  rw [va_P_iff] at h1 ⊢
  rw [va_D_iff] at h2 ⊢
  have hn : ((ws' ++ zs).map (fun x => x.1)).Nodup := (hp.map _).nodup_iff.mpr h2.1
  rw [List.map_append, List.nodup_append] at hn
  exact ⟨fun x hx => h1 x (hp.subset (List.mem_append_left _ hx)), hn.1, fun x hx => h2.2 x (hp.subset (List.mem_append_left _ hx))⟩
theorem hL.perm {g : Cx} {ws ws' zs : va_W} {H : Heap} (h : hL g ws H) (hp : (ws' ++ zs).Perm ws) : hL g ws' H := va_perm h hp
/-- what a method on such cells says: nothing answered, a number, a cell -/
def BT (G : Gd) (ws0 : va_W) (sz : Nat) (ws' : va_W) (t : State) : Prop := va_P G.1 vwCl ws' t.heap ∧ va_D (va_A ws0 sz) ws'
def QTV (G : Gd) (ws : va_W) (post : va_W → Prop) (sz : Nat) : Array Value → State → Outcome → State → Prop := va_Qv post (BT G ws sz) (va_A ws sz)
def QTI (G : Gd) (ws : va_W) (post : Int → va_W → Prop) (sz : Nat) : Array Value → State → Outcome → State → Prop := va_Qi (fun v (u : Int × va_W) => v = Int32.ofInt u.1 ∧ post u.1 u.2) (fun u t => BT G ws sz u.2 t) (va_A ws sz)
def QTR (G : Gd) (ws : va_W) (post : Nat → va_W → Prop) (sz : Nat) : Array Value → State → Outcome → State → Prop := va_Qr (fun (u : Nat × va_W) => post u.1 u.2) (fun u a t => a = u.1 ∧ BT G ws sz u.2 t) (va_A ws sz)
def mTV (l : Launch) (y : MethodName) (cc : ByteArray) (nL : Nat) (rm : Room) (G : Gd) (vs : List Value) (ws : va_W) (post : va_W → Prop) (mc ms : Nat) : Prop :=
  ∀ sz : Nat, Met l y (WSx y cc nL none) rm (va_Pc vs (preI G ws sz false)) (QTV G ws post sz) mc ms (va_A ws sz)
def mTI (l : Launch) (y : MethodName) (cc : ByteArray) (nL : Nat) (ret : Option FieldType) (rm : Room) (G : Gd) (vs : List Value) (ws : va_W) (post : Int → va_W → Prop) (mc ms : Nat) : Prop :=
  ∀ sz : Nat, Met l y (WSx y cc nL ret) rm (va_Pc vs (preI G ws sz false)) (QTI G ws post sz) mc ms (va_A ws sz)
def mTR (l : Launch) (y : MethodName) (cc : ByteArray) (nL : Nat) (ret : Option FieldType) (rm : Room) (G : Gd) (vs : List Value) (ws : va_W) (post : Nat → va_W → Prop) (mc ms : Nat) : Prop :=
  ∀ sz : Nat, Met l y (WSx y cc nL ret) rm (va_Pc vs (preI G ws sz false)) (QTR G ws post sz) mc ms (va_A ws sz)
def stT (g : Cx) (l : Launch) (rm : Room) (G : Gd) (y : MethodName) : Prop := g.l = l ∧ g.R = rm ∧ g.G = G ∧ (∀ q : Nat, g.s.heap.size ≤ q → g.A q) ∧ g.meth.name = y.name
def rtTV (g : Cx) (cc : ByteArray) (mc ms : Nat) (post : va_W → Prop) : Prop :=
  ∀ (d : Dl) (pc : Nat) (lv : List (Nat × Value)) (ws : va_W), post ws → d.ce ≤ mc → d.so ≤ ms → decode cc pc = .ok (.return_, 1) → XG g d (hL g ws) lv [] pc
def rtTI (g : Cx) (cc : ByteArray) (ty : FieldType) (mc ms : Nat) (post : Int → va_W → Prop) : Prop :=
  ∀ (d : Dl) (pc : Nat) (lv : List (Nat × Value)) (ws : va_W) (r : Int), post r ws → narrow ty (iV r) = iV r → d.ce ≤ mc → d.so ≤ ms → decode cc pc = .ok (.ireturn, 1) → XG g d (hL g ws) lv [iV r] pc
def rtTR (g : Cx) (cc : ByteArray) (mc ms : Nat) (post : Nat → va_W → Prop) : Prop :=
  ∀ (d : Dl) (pc : Nat) (lv : List (Nat × Value)) (ws : va_W) (r : Nat), post r ws → d.ce ≤ mc → d.so ≤ ms → decode cc pc = .ok (.areturn, 1) → XG g d (hL g ws) lv [.ref r] pc
theorem met_TV {l : Launch} {y : MethodName} {cc : ByteArray} {nL : Nat} {rm : Room} {G : Gd} {vs : List Value} {ws : va_W} {post : va_W → Prop} {mc ms : Nat} (lv0 : List (Nat × Value)) (hy : plainName y.cls = true) (hlen : (lg_sl vs).length ≤ nL) (hlv : lv_args 0 vs = lv0)
    (body : ∀ (g : Cx), CX g cc nL none y.cls → stT g l rm G y → rtTV g cc mc ms post → XG g (dz 0 0) (hL g ws) lv0 [] 0) :
    mTV l y cc nL rm G vs ws post mc ms := by
  intro sz
  refine Met.ofW (cc := cc) (maxL := nL) (ret := none) hy rfl ?_
  intro p e s m args below meth c s₁ B hml hv
  obtain ⟨rfl, hsz, hP, hD0, hK, hN, hE, hAO⟩ := hv
  have hts := atoms_spec (ws := WSx y cc nL none) B.pre
  have hown : s.vm.findClass y.cls = some m.cls := findClass_of_methodNamed B.named
  have hin : meth.name = y.name := (name_of_methodNamed B.named B.method).1
  have hl := lv_entry vs (n := nL) hlen
  rw [lg_entry_eq]
  rw [hlv] at hl
  subst hsz
  have C : CX (p, l, e, rm, s, m, vs.toArray, below, meth, c, nL, MQ below (QTV G ws post s.heap.size) vs.toArray s mc ms (va_A ws s.heap.size), G, va_A ws s.heap.size, 0) cc nL none y.cls := ⟨B.exec, B.bytes, hml, rfl, B.returns, B.notSynchronized, hown, fun q hq => hts q (List.mem_cons_of_mem _ hq), hN, hK, hE⟩
  refine body _ C ⟨rfl, rfl, rfl, fun q hq => Or.inr hq, hin⟩ ?_ s.heap [] _ ⟨hP, hD0.self⟩ va_S.rf hl
  intro d pc lv ws' hpost hmc hms dg H locs ls h1 h2 h3
  refine W.widen hmc hms ?_
  exact W.vret C.x C.b C.r (fun t ht hW => ⟨⟨ws', rfl, hpost, by show va_P G.1 vwCl ws' t.heap ∧ va_D (va_A ws s.heap.size) ws'; rw [ht]; exact h1⟩, h2.F ht⟩) h2.2.2 dg C.k
theorem met_TI {l : Launch} {y : MethodName} {cc : ByteArray} {nL : Nat} {ret : Option FieldType} {rm : Room} {G : Gd} {vs : List Value} {ws : va_W} {post : Int → va_W → Prop} {mc ms : Nat} (lv0 : List (Nat × Value)) (hy : plainName y.cls = true) (hlen : (lg_sl vs).length ≤ nL) (hlv : lv_args 0 vs = lv0) (ty : FieldType) (hret : ret = some ty)
    (body : ∀ (g : Cx), CX g cc nL ret y.cls → stT g l rm G y → rtTI g cc ty mc ms post → XG g (dz 0 0) (hL g ws) lv0 [] 0) :
    mTI l y cc nL ret rm G vs ws post mc ms := by
  intro sz
  refine Met.ofW (cc := cc) (maxL := nL) (ret := ret) hy rfl ?_
  intro p e s m args below meth c s₁ B hml hv
  obtain ⟨rfl, hsz, hP, hD0, hK, hN, hE, hAO⟩ := hv
  have hts := atoms_spec (ws := WSx y cc nL ret) B.pre
  have hown : s.vm.findClass y.cls = some m.cls := findClass_of_methodNamed B.named
  have hin : meth.name = y.name := (name_of_methodNamed B.named B.method).1
  have hl := lv_entry vs (n := nL) hlen
  rw [lg_entry_eq]
  rw [hlv] at hl
  subst hsz
  have C : CX (p, l, e, rm, s, m, vs.toArray, below, meth, c, nL, MQ below (QTI G ws post s.heap.size) vs.toArray s mc ms (va_A ws s.heap.size), G, va_A ws s.heap.size, 0) cc nL ret y.cls := ⟨B.exec, B.bytes, hml, rfl, B.returns, B.notSynchronized, hown, fun q hq => hts q (List.mem_cons_of_mem _ hq), hN, hK, hE⟩
  refine body _ C ⟨rfl, rfl, rfl, fun q hq => Or.inr hq, hin⟩ ?_ s.heap [] _ ⟨hP, hD0.self⟩ va_S.rf hl
  intro d pc lv ws' r hpost hn hmc hms dg H locs ls h1 h2 h3
  refine W.widen hmc hms ?_
  exact W.zret C.x C.b (by rw [C.r, hret]) hn (fun t ht hW => ⟨⟨_, (r, ws'), rfl, ⟨rfl, hpost⟩, by show va_P G.1 vwCl ws' t.heap ∧ va_D (va_A ws s.heap.size) ws'; rw [ht]; exact h1⟩, h2.F ht⟩) h2.2.2 dg C.k
theorem met_TR {l : Launch} {y : MethodName} {cc : ByteArray} {nL : Nat} {ret : Option FieldType} {rm : Room} {G : Gd} {vs : List Value} {ws : va_W} {post : Nat → va_W → Prop} {mc ms : Nat} (lv0 : List (Nat × Value)) (hy : plainName y.cls = true) (hlen : (lg_sl vs).length ≤ nL) (hlv : lv_args 0 vs = lv0) (rt : FieldType) (hret : ret = some rt) (hrt : (∃ n, rt = .object n) ∨ ∃ t, rt = .array t)
    (body : ∀ (g : Cx), CX g cc nL ret y.cls → stT g l rm G y → rtTR g cc mc ms post → XG g (dz 0 0) (hL g ws) lv0 [] 0) :
    mTR l y cc nL ret rm G vs ws post mc ms := by
  intro sz
  refine Met.ofW (cc := cc) (maxL := nL) (ret := ret) hy rfl ?_
  intro p e s m args below meth c s₁ B hml hv
  obtain ⟨rfl, hsz, hP, hD0, hK, hN, hE, hAO⟩ := hv
  have hts := atoms_spec (ws := WSx y cc nL ret) B.pre
  have hown : s.vm.findClass y.cls = some m.cls := findClass_of_methodNamed B.named
  have hin : meth.name = y.name := (name_of_methodNamed B.named B.method).1
  have hl := lv_entry vs (n := nL) hlen
  rw [lg_entry_eq]
  rw [hlv] at hl
  subst hsz
  have C : CX (p, l, e, rm, s, m, vs.toArray, below, meth, c, nL, MQ below (QTR G ws post s.heap.size) vs.toArray s mc ms (va_A ws s.heap.size), G, va_A ws s.heap.size, 0) cc nL ret y.cls := ⟨B.exec, B.bytes, hml, rfl, B.returns, B.notSynchronized, hown, fun q hq => hts q (List.mem_cons_of_mem _ hq), hN, hK, hE⟩
  refine body _ C ⟨rfl, rfl, rfl, fun q hq => Or.inr hq, hin⟩ ?_ s.heap [] _ ⟨hP, hD0.self⟩ va_S.rf hl
  intro d pc lv ws' r hpost hmc hms dg H locs ls h1 h2 h3
  refine W.widen hmc hms ?_
  exact W.aret C.x C.b (by rw [C.r, hret]) hrt (Or.inr ⟨r, rfl⟩) (fun t ht hW => ⟨⟨(r, ws'), r, rfl, hpost, rfl, by show va_P G.1 vwCl ws' t.heap ∧ va_D (va_A ws s.heap.size) ws'; rw [ht]; exact h1⟩, h2.F ht⟩) h2.2.2 dg C.k
/-- a call, made ready: what runs it from a heap where hp holds, with the cells wc as the callee's own -/
def RunT (g : Cx) (d : Dl) (hp : Heap → Prop) (wc : va_W) (nL : Nat) (pc : Nat) (stk rest : List Value) (Qa : Nat → Array Value → State → Outcome → State → Prop) (a : Array Value) (mc ms : Nat) : Prop :=
  ∀ (H : Heap) (locs : List Loc) (ls : Array Slot), hp H → va_S g.A g.s.heap H locs → ls.size = nL → va_Run g.p g.l g.e g.R g.s g.m g.args g.below g.meth g.c H locs d.ce d.so mc ms (F0 g.m pc ls stk) rest (Qa H.size a) (va_A wc H.size)
def hsub (g : Cx) (hp : Heap → Prop) (wc : va_W) : Prop := ∀ H, hp H → hL g wc H
theorem hsub.rf {g : Cx} {ws : va_W} : hsub g (hL g ws) ws := fun _ h => h
theorem hsub.F {g : Cx} {hp : Heap → Prop} {wc : va_W} (hs : hsub g hp wc) {H : Heap} {locs : List Loc} (h1 : hp H) (h2 : va_S g.A g.s.heap H locs) (hA : ∀ q : Nat, g.s.heap.size ≤ q → g.A q) : ∀ z, va_A wc H.size z → g.A z := by
  rintro z (⟨k, e, hk⟩ | hz)
  · exact (hs H h1).2.2 k _ hk
  · exact hA z (Nat.le_trans h2.1 hz)
section XT
variable {g : Cx} {d : Dl} {cc : ByteArray} {nL : Nat} {ret : Option FieldType} {own : String} {hp : Heap → Prop} {ws wc : va_W} {lv : List (Nat × Value)} {st : List Value} {pc : Nat}
theorem preT_of (C : CX g cc nL ret own) (hs : hsub g hp wc) {H : Heap} {locs : List Loc} (h1 : hp H) (h2 : va_S g.A g.s.heap H locs) (hF : ∀ z, va_A wc H.size z → g.A z) {vs : List Value} : ∀ U : State, U.heap = H → g.s.WarmedH U.vm → va_Pc vs (preI g.G wc H.size false) vs.toArray U :=
  fun U hU hW => ⟨rfl, by rw [hU], by rw [hU]; exact (hs H h1).1, (hs H h1).2.weaken (fun _ _ _ _ => trivial), va_K.moved hW.alike C.K, nw_moved hW C.nw, by rw [hU]; exact C.E.go hW h2.2.1 hF, fun hb => by cases hb⟩
theorem t_S (C : CX g cc nL ret own) (hA : ∀ q : Nat, g.s.heap.size ≤ q → g.A q) {rmO : Room} (hR : g.R = rmO) (hs : hsub g hp wc) {y : MethodName} {cc' : ByteArray} {nL' n index mc ms : Nat} {ret' : Option FieldType} {rm : Room} {As rest stk : List Value} {Qc : Nat → Array Value → State → Outcome → State → Prop}
    (hM : ∀ sz, Met g.l y (WSx y cc' nL' ret') rm (va_Pc As (preI g.G wc sz false)) (Qc sz) mc ms (va_A wc sz)) (hf : mfS y cc' nL' ret' n) (hlk : Cond.methodLink own index y ∈ lw_tg) (hrm : rm.cells = mc ∧ rm.slots = ms) (hrr : rm.frames + 1 ≤ rmO.frames ∧ 8 + (nL' + 11) + rm.locals ≤ rmO.locals)
    (hst : stk = As.reverse ++ rest) (hn : As.length = n) (hro : (rest.map fun v => v.category).sum ≤ 8) (hce : d.ce + mc ≤ rmO.cells ∧ d.so + ms ≤ rmO.slots) (dg : decode cc pc = .ok (.invokestatic index, 3)) : RunT g d hp wc nL pc stk rest Qc As.toArray mc ms := by
  intro H locs ls h1 h2 h3
  obtain ⟨f1, f3, f4, f5, f6, f7⟩ := hf
  have hF := hs.F h1 h2 hA
  exact va_runS (As := As) (rest := rest) ⟨C.x, C.b, C.ml, C.o, C.t⟩ (hM H.size) ⟨callB_of n C.t (good_tg f4) rfl hrm.1 hrm.2 (C.t _ f3) (C.t _ hlk) ⟨f5, f6, f7⟩ (by rw [hR]; exact hrr), C.t _ f1⟩ ⟨preI.blind, preT_of C hs h1 h2 hF⟩ rfl hn h3 hst (lv_room hro) dg (by rw [hR]; exact hce)
theorem t_V (C : CX g cc nL ret own) (hA : ∀ q : Nat, g.s.heap.size ≤ q → g.A q) {rmO : Room} (hR : g.R = rmO) (hs : hsub g hp wc) {y : MethodName} {cc' : ByteArray} {nL' n index mc ms b : Nat} {ret' : Option FieldType} {rm : Room} {As rest stk : List Value} {Qc : Nat → Array Value → State → Outcome → State → Prop}
    (hrc : ∀ (H : Heap) (locs : List Loc), hp H → va_S g.A g.s.heap H locs → ∃ cell : Cell, H[b]? = some cell ∧ cell.vm.isStatics = false ∧ g.s.vm.findClass y.cls = some cell.cls)
    (hM : ∀ sz, Met g.l y (WSx y cc' nL' ret') rm (va_Pc (.ref b :: As) (preI g.G wc sz false)) (Qc sz) mc ms (va_A wc sz)) (hf : mfV y cc' nL' ret' n) (hlk : Cond.methodLink own index y ∈ lw_tg) (hrm : rm.cells = mc ∧ rm.slots = ms) (hrr : rm.frames + 1 ≤ rmO.frames ∧ 8 + (nL' + 11) + rm.locals ≤ rmO.locals)
    (hst : stk = As.reverse ++ .ref b :: rest) (hn : As.length = n) (hro : (rest.map fun v => v.category).sum ≤ 8) (hce : d.ce + mc ≤ rmO.cells ∧ d.so + ms ≤ rmO.slots) (dg : decode cc pc = .ok (.invokevirtual index, 3)) : RunT g d hp wc nL pc stk rest Qc (Value.ref b :: As).toArray mc ms := by
  intro H locs ls h1 h2 h3
  obtain ⟨f1, f2, f3, f4, f5, f6, f7⟩ := hf
  have hF := hs.F h1 h2 hA
  exact va_runV (C := y.cls) (As := As) (rest := rest) ⟨C.x, C.b, C.ml, C.o, C.t⟩ (hM H.size) ⟨callB_of n C.t (good_tg f4) rfl hrm.1 hrm.2 (C.t _ f3) (C.t _ hlk) ⟨f5, f6, f7⟩ (by rw [hR]; exact hrr), C.t _ f1, C.t _ f2⟩ ⟨preI.blind, hrc H locs h1 h2, preT_of C hs h1 h2 hF⟩ rfl hn h3 hst (lv_room hro) dg (by rw [hR]; exact hce)
theorem t_U (C : CX g cc nL ret own) (hA : ∀ q : Nat, g.s.heap.size ≤ q → g.A q) {rmO : Room} (hR : g.R = rmO) (hs : hsub g hp wc) {x y : MethodName} {cc' : ByteArray} {nL' n index mc ms b : Nat} {ret' : Option FieldType} {rm : Room} {As rest stk : List Value} {Qc : Nat → Array Value → State → Outcome → State → Prop} {Cn owner : String}
    (hrc : ∀ (H : Heap) (locs : List Loc), hp H → va_S g.A g.s.heap H locs → ∃ cell : Cell, H[b]? = some cell ∧ cell.vm.isStatics = false ∧ g.s.vm.findClass Cn = some cell.cls)
    (hM : ∀ sz, Met g.l y (WSx y cc' nL' ret') rm (va_Pc (.ref b :: As) (preI g.G wc sz false)) (Qc sz) mc ms (va_A wc sz)) (hcw : va_CU g.R g.s g.args own Cn owner index x y cc' nL' ret' (WSx y cc' nL' ret') rm mc ms n)
    (hst : stk = As.reverse ++ .ref b :: rest) (hn : As.length = n) (hro : (rest.map fun v => v.category).sum ≤ 8) (hce : d.ce + mc ≤ rmO.cells ∧ d.so + ms ≤ rmO.slots) (dg : decode cc pc = .ok (.invokevirtual index, 3)) : RunT g d hp wc nL pc stk rest Qc (Value.ref b :: As).toArray mc ms := by
  intro H locs ls h1 h2 h3
  have hF := hs.F h1 h2 hA
  exact va_runU (As := As) (rest := rest) ⟨C.x, C.b, C.ml, C.o, C.t⟩ (hM H.size) hcw ⟨preI.blind, hrc H locs h1 h2, preT_of C hs h1 h2 hF⟩ rfl hn h3 hst (lv_room hro) dg (by rw [hR]; exact hce)
theorem t_SU (C : CX g cc nL ret own) (hA : ∀ q : Nat, g.s.heap.size ≤ q → g.A q) {rmO : Room} (hR : g.R = rmO) (hs : hsub g hp wc) {y : MethodName} {cc' : ByteArray} {nL' n index mc ms b : Nat} {ret' : Option FieldType} {rm : Room} {As rest stk : List Value} {Qc : Nat → Array Value → State → Outcome → State → Prop} {Cn : String} {cC : ClassId} (hat : ClassAt g.s Cn cC)
    (hrc : ∀ (H : Heap) (locs : List Loc), hp H → va_S g.A g.s.heap H locs → ∃ cell : Cell, H[b]? = some cell ∧ cell.vm.isStatics = false ∧ g.s.vm.findClass Cn = some cell.cls)
    (hM : ∀ sz, Met g.l y (WSx y cc' nL' ret') rm (va_Pc (.ref b :: As) (preI g.G wc sz false)) (Qc sz) mc ms (va_A wc sz)) (hcw : va_CS g.R g.s g.args own index y cc' nL' ret' (WSx y cc' nL' ret') rm mc ms n)
    (hst : stk = As.reverse ++ .ref b :: rest) (hn : As.length = n) (hro : (rest.map fun v => v.category).sum ≤ 8) (hce : d.ce + mc ≤ rmO.cells ∧ d.so + ms ≤ rmO.slots) (dg : decode cc pc = .ok (.invokespecial index, 3)) : RunT g d hp wc nL pc stk rest Qc (Value.ref b :: As).toArray mc ms := by
  intro H locs ls h1 h2 h3
  have hF := hs.F h1 h2 hA
  exact va_runSU (As := As) (rest := rest) hat ⟨C.x, C.b, C.ml, C.o, C.t⟩ (hM H.size) hcw ⟨preI.blind, hrc H locs h1 h2, preT_of C hs h1 h2 hF⟩ rfl hn h3 hst (lv_room hro) dg (by rw [hR]; exact hce)
theorem t_I (C : CX g cc nL ret own) (hA : ∀ q : Nat, g.s.heap.size ≤ q → g.A q) {rmO : Room} (hR : g.R = rmO) (hs : hsub g hp wc) {y : MethodName} {cc' : ByteArray} {nL' n index mc ms b : Nat} {rm : Room} {As rest stk : List Value} {Qc : Nat → Array Value → State → Outcome → State → Prop}
    (hM : ∀ sz, Met g.l y (WSx y cc' nL' none) rm (va_Pc (.ref b :: As) (preI g.G wc sz false)) (Qc sz) mc ms (va_A wc sz)) (hf : mfI y cc' nL' n) (hlk : Cond.methodLink own index y ∈ lw_tg) (hrm : rm.cells = mc ∧ rm.slots = ms) (hrr : rm.frames + 1 ≤ rmO.frames ∧ 8 + (nL' + 11) + rm.locals ≤ rmO.locals)
    (hst : stk = As.reverse ++ .ref b :: rest) (hn : As.length = n) (hro : (rest.map fun v => v.category).sum ≤ 8) (hce : d.ce + mc ≤ rmO.cells ∧ d.so + ms ≤ rmO.slots) (dg : decode cc pc = .ok (.invokespecial index, 3)) : RunT g d hp wc nL pc stk rest Qc (Value.ref b :: As).toArray mc ms := by
  intro H locs ls h1 h2 h3
  obtain ⟨f1, f3, f4, f5, f6, f7, f8⟩ := hf
  have hF := hs.F h1 h2 hA
  exact va_runI (As := As) (rest := rest) ⟨C.x, C.b, C.ml, C.o, C.t⟩ (hM H.size) ⟨callB_of n C.t (good_tg f4) rfl hrm.1 hrm.2 (C.t _ f3) (C.t _ hlk) ⟨f5, f6, f7⟩ (by rw [hR]; exact hrr), f8, C.t _ f1⟩ ⟨preI.blind, preT_of C hs h1 h2 hF⟩ rfl hn h3 hst (lv_room hro) dg (by rw [hR]; exact hce)
/-- what hp is behind such a call -/
def hback (g : Cx) (hp : Heap → Prop) (wc ws' : va_W) (hp' : Heap → Prop) : Prop :=
  ∀ H H1 : Heap, hp H → (∀ q, va_A wc H.size q → g.A q) → va_P g.G.1 vwCl ws' H1 → va_D (va_A wc H.size) ws' → H.size ≤ H1.size → (∀ q : Nat, q < H.size → ¬ va_A wc H.size q → H1[q]? = H[q]?) → hp' H1
theorem hback.rf {ws' : va_W} : hback g (hL g ws) ws ws' (hL g ws') := fun _ _ _ hF h1 h2 _ _ => ⟨h1, h2.weaken fun _ q _ hq => hF q.1 hq⟩
theorem hback.E {ws' : va_W} : hback g (hL g ws) [] ws' (hL g ws) := fun H H1 h _ _ _ _ hk => ⟨h.1.kept fun k q hq => hk q.1 (h.1 k q hq).lt (by
  rintro (⟨k2, e, hk2⟩ | hz)
  · simp at hk2
  · exact absurd (h.1 k q hq).lt (by omega)), h.2⟩
theorem hsub.E : hsub g hp [] := fun H _ => ⟨fun k q hk => by simp at hk, fun i j p q hi _ _ => by simp at hi, fun k q hk => by simp at hk⟩
theorem x_tV (C : CX g cc nL ret own) (hA : ∀ q : Nat, g.s.heap.size ≤ q → g.A q) (hs : hsub g hp wc) {hp' : va_W → Heap → Prop} {rest stk : List Value} {post : va_W → Prop} {a : Array Value} {mc ms : Nat} (run : RunT g d hp wc nL pc stk rest (QTV g.G wc post) a mc ms)
    (hb : ∀ ws', post ws' → hback g hp wc ws' (hp' ws')) (k' : ∀ ws', post ws' → XG g (nx d mc ms) (hp' ws') lv rest (pc + 3)) : XG g d hp lv stk pc := by
  intro H locs ls h1 h2 h3
  have hF := hs.F h1 h2 hA
  refine va_callv (run H locs ls h1 h2 (by rw [h3.1, C.n])) h2 (fun q _ h => hF q h) hF (fun ws' t H1 locs1 ht hvm hw hB hz1 hk1 hS => ?_)
  unfold BT at hB
  rw [ht] at hB
  exact k' ws' hw H1 locs1 ls (hb ws' hw H H1 h1 hF hB.1 hB.2 hz1 hk1) hS h3
theorem x_tI (C : CX g cc nL ret own) (hA : ∀ q : Nat, g.s.heap.size ≤ q → g.A q) (hs : hsub g hp wc) {hp' : va_W → Heap → Prop} {rest stk : List Value} {post : Int → va_W → Prop} {a : Array Value} {mc ms : Nat} (run : RunT g d hp wc nL pc stk rest (QTI g.G wc post) a mc ms)
    (hb : ∀ r ws', post r ws' → hback g hp wc ws' (hp' ws')) (k' : ∀ r ws', post r ws' → XG g (nx d mc ms) (hp' ws') lv (iV r :: rest) (pc + 3)) : XG g d hp lv stk pc := by
  intro H locs ls h1 h2 h3
  have hF := hs.F h1 h2 hA
  refine va_calli (run H locs ls h1 h2 (by rw [h3.1, C.n])) h2 (fun q _ h => hF q h) hF (fun v u t H1 locs1 ht hvm hw hB hz1 hk1 hS => ?_)
  unfold BT at hB
  rw [ht] at hB
  rw [hw.1]
  exact k' u.1 u.2 hw.2 H1 locs1 ls (hb u.1 u.2 hw.2 H H1 h1 hF hB.1 hB.2 hz1 hk1) hS h3
theorem x_tR (C : CX g cc nL ret own) (hA : ∀ q : Nat, g.s.heap.size ≤ q → g.A q) (hs : hsub g hp wc) {hp' : va_W → Heap → Prop} {rest stk : List Value} {post : Nat → va_W → Prop} {a : Array Value} {mc ms : Nat} (run : RunT g d hp wc nL pc stk rest (QTR g.G wc post) a mc ms)
    (hb : ∀ r ws', post r ws' → hback g hp wc ws' (hp' ws')) (k' : ∀ r ws', post r ws' → XG g (nx d mc ms) (hp' ws') lv (.ref r :: rest) (pc + 3)) : XG g d hp lv stk pc := by
  intro H locs ls h1 h2 h3
  have hF := hs.F h1 h2 hA
  refine va_callr (run H locs ls h1 h2 (by rw [h3.1, C.n])) h2 (fun q _ h => hF q h) hF (fun u ra t H1 locs1 ht hvm hw hB hz1 hk1 hS => ?_)
  obtain ⟨rfl, hB⟩ := hB
  unfold BT at hB
  rw [ht] at hB
  exact k' u.1 u.2 hw H1 locs1 ls (hb u.1 u.2 hw H H1 h1 hF hB.1 hB.2 hz1 hk1) hS h3
/-- fields and bytes at any place of the list -/
theorem x_tget (C : CX g cc nL ret own) (q0 : Nat) {h0 ci k index : Nat} {Co Cn n dsc : String} {T : u_T} {ty : Nat → FieldType} {fs : List Value} {v : Value} (hq : ws[q0]? = some (h0, .inr (ci, fs))) (hc : clsW ci Co T ty) (hk : k < nf ci) (hT : (T k).1 = Cn ∧ (T k).2.1 = n ∧ (T k).2.2.1 = dsc) (hfl : Cond.fieldLink own index Cn n dsc ∈ lw_tg) (hv : fs[k]? = some v) (dg : decode cc pc = .ok (.getfield index, 3))
    (k' : XG g d (hL g ws) lv (v :: st) (pc + 3)) : XG g d (hL g ws) lv (.ref h0 :: st) pc := by
  intro H locs ls h1 h2 h3
  obtain ⟨hc1, hc2, hc3, hc4⟩ := hc
  obtain ⟨t1, t2, t3⟩ := hT
  subst t2; subst t3
  exact va_get C.x C.b C.t hc2 C.o C.K h1.1 q0 hq hc1 k hk (C.t _ hfl) (fun y hy => by rw [← t1]; exact hy) hv dg (k' H locs ls h1 h2 h3)
theorem x_tput (C : CX g cc nL ret own) (q0 : Nat) {ws' : va_W} {h0 ci k index : Nat} {Co Cn n dsc : String} {T : u_T} {ty : Nat → FieldType} {fs : List Value} {v : Value} (hq : ws[q0]? = some (h0, .inr (ci, fs))) (hc : clsW ci Co T ty) (hk : k < nf ci) (hT : (T k).1 = Cn ∧ (T k).2.1 = n ∧ (T k).2.2.1 = dsc ∧ (T k).2.2.2 = false) (hfl : Cond.fieldLink own index Cn n dsc ∈ lw_tg) (hn : narrow (ty k) v = v ∧ fits (ty k) v = true) (hl : k < fs.length) (hws : ws.set q0 (h0, .inr (ci, fs.set k v)) = ws') (dg : decode cc pc = .ok (.putfield index, 3))
    (k' : XG g d (hL g ws') lv st (pc + 3)) : XG g d (hL g ws) lv (v :: .ref h0 :: st) pc := by
  intro H locs ls h1 h2 h3
  obtain ⟨hc1, hc2, hc3, hc4⟩ := hc
  obtain ⟨t1, t2, t3, t4⟩ := hT
  subst t2; subst t3; subst hws
  exact va_put C.x C.b C.t hc2 ty hc3 hc4 C.o C.K h1.1 h1.2 h2 q0 hq hc1 k hk (C.t _ hfl) (fun y hy => by rw [← t1]; exact hy) t4 (hc3 k hk) hn.1 hn.2 hl dg (fun H1 locs1 a1 a2 a3 => k' H1 locs1 ls ⟨a1, a2⟩ a3 h3)
theorem x_tputF (C : CX g cc nL ret own) (hin : g.meth.name = "<init>") (q0 : Nat) {ws' : va_W} {h0 ci k index : Nat} {Co Cn n dsc : String} {T : u_T} {ty : Nat → FieldType} {fs : List Value} {v : Value} (hq : ws[q0]? = some (h0, .inr (ci, fs))) (hc : clsW ci Co T ty) (hk : k < nf ci) (hT : (T k).1 = Cn ∧ (T k).2.1 = n ∧ (T k).2.2.1 = dsc ∧ (T k).2.2.2 = true) (hCn : Cn = own) (hfl : Cond.fieldLink own index Cn n dsc ∈ lw_tg) (hn : narrow (ty k) v = v ∧ fits (ty k) v = true) (hl : k < fs.length) (hws : ws.set q0 (h0, .inr (ci, fs.set k v)) = ws') (dg : decode cc pc = .ok (.putfield index, 3))
    (k' : XG g d (hL g ws') lv st (pc + 3)) : XG g d (hL g ws) lv (v :: .ref h0 :: st) pc := by
  intro H locs ls h1 h2 h3
  obtain ⟨hc1, hc2, hc3, hc4⟩ := hc
  obtain ⟨t1, t2, t3, t4⟩ := hT
  subst t2; subst t3; subst hws
  exact va_putF C.x C.b C.t hc2 ty hc3 hc4 C.o C.K h1.1 h1.2 h2 q0 hq hc1 k hk (C.t _ hfl) (fun y hy => by rw [← t1]; exact hy) t4 hin (t1.trans hCn) (hc3 k hk) hn.1 hn.2 hl dg (fun H1 locs1 a1 a2 a3 => k' H1 locs1 ls ⟨a1, a2⟩ a3 h3)
theorem x_tbald (C : CX g cc nL ret own) (q0 : Nat) {ha m : Nat} {a : Nat → Int32} {i x : Int} (hq : ws[q0]? = some (bya g.G ha m a)) (hi : 0 ≤ i ∧ i < m) (hm : m < 2147483648) (hx : a i.toNat = Int32.ofInt x) (dg : decode cc pc = .ok (.baload, 1))
    (k' : XG g d (hL g ws) lv (iV x :: st) (pc + 1)) : XG g d (hL g ws) lv (iV i :: .ref ha :: st) pc := by
  intro H locs ls h1 h2 h3
  obtain ⟨e1, e2, e3⟩ := inb_cl (i := i) (n := m) (decide_eq_true hi) hm
  refine va_bald C.x C.b C.K h1.1 q0 1 hq rfl e2 dg ?_
  rw [e1, hx]
  exact k' H locs ls h1 h2 h3
theorem x_tbast (C : CX g cc nL ret own) (q0 : Nat) {ws' : va_W} {ha m : Nat} {a : Nat → Int32} {i x : Int} (hq : ws[q0]? = some (bya g.G ha m a)) (hi : 0 ≤ i ∧ i < m) (hm : m < 2147483648) (hws : ws.set q0 (bya g.G ha m (upd a i.toNat (Int32.ofInt (i8 x)))) = ws') (dg : decode cc pc = .ok (.bastore, 1))
    (k' : XG g d (hL g ws') lv st (pc + 1)) : XG g d (hL g ws) lv (iV x :: iV i :: .ref ha :: st) pc := by
  intro H locs ls h1 h2 h3
  subst hws
  obtain ⟨e1, e2, e3⟩ := inb_cl (i := i) (n := m) (decide_eq_true hi) hm
  refine va_bast C.x C.b C.K h1.1 h1.2 h2 q0 1 hq rfl e2 dg (fun H1 locs1 a1 a2 a3 => ?_)
  rw [e1, vp_nar_byte, i8_i] at a1 a2
  exact k' H1 locs1 ls ⟨a1, a2⟩ a3 h3
theorem x_talen (C : CX g cc nL ret own) (q0 : Nat) {ha m : Nat} {a : Nat → Int32} (hq : ws[q0]? = some (bya g.G ha m a)) (dg : decode cc pc = .ok (.arraylength, 1))
    (k' : XG g d (hL g ws) lv (iV (m : Nat) :: st) (pc + 1)) : XG g d (hL g ws) lv (.ref ha :: st) pc := by
  intro H locs ls h1 h2 h3
  refine va_alen C.x C.b C.K h1.1 q0 1 hq rfl rfl dg ?_
  rw [← Int32.ofInt_eq_ofNat]
  exact k' H locs ls h1 h2 h3
theorem x_dup_x1 (C : CX g cc nL ret own) {v u : Value} (hv : v.category = 1) (hu : u.category = 1) (dg : decode cc pc = .ok (.dup_x1, 1)) (k : XG g d hp lv (v :: u :: v :: st) (pc + 1)) : XG g d hp lv (v :: u :: st) pc := fun H locs ls h1 h2 h3 => lv_dup_x1 C.x C.b dg hv hu (k H locs ls h1 h2 h3)
theorem x_ineg (C : CX g cc nL ret own) {a : Int} (dg : decode cc pc = .ok (.ineg, 1)) (k : XG g d hp lv (iV (-a) :: st) (pc + 1)) : XG g d hp lv (iV a :: st) pc := fun H locs ls h1 h2 h3 => lv_ineg C.x C.b dg (by
  have e : -Int32.ofInt a = Int32.ofInt (-a) := by rw [Int32.ofInt_neg]
  rw [e]; exact k H locs ls h1 h2 h3)
theorem x_ifnn (C : CX g cc nL ret own) {x : Nat} {off : Int} {tgt : Nat} (dg : decode cc pc = .ok (.ifnonnull off, 3)) (ht : (pc : Int) + off = (tgt : Int)) (k : XG g d hp lv st tgt) : XG g d hp lv (.ref x :: st) pc := fun H locs ls h1 h2 h3 => lv_ifnonnull C.x C.b dg ht (k H locs ls h1 h2 h3)
theorem ofN (n : Nat) : Int32.ofNat n = Int32.ofInt (n : Int) := (Int32.ofInt_eq_ofNat).symm
theorem cl_n {n : Nat} (h : n < 2147483648) : (Int32.ofInt (n : Int)).toNatClampNeg = n ∧ ¬ Int32.ofInt (n : Int) < 0 := by
  have e0 : (Int32.ofInt (n : Int)).toInt = n := by rw [w32_toInt, w32_id] <;> omega
  exact ⟨by unfold Int32.toNatClampNeg; rw [e0]; rfl, by rw [Int32.lt_iff_toInt_lt, e0]; simp⟩
theorem acp : Cond.native arraycopyName ∈ lw_tg ∧ Cond.static arraycopyName ∈ lw_tg ∧ Cond.initialized "java/lang/System" ∈ lw_tg := ⟨by decide +kernel, by decide +kernel, by decide +kernel⟩
/-- System.arraycopy between bytes of the list -/
theorem x_tcopy (C : CX g cc nL ret own) {rmO : Room} (hR : g.R = rmO) (q0 q1 : Nat) {ws' : va_W} {h0 h1 n0 n1 index : Nat} {a b : Nat → Int32} {sp dp n : Nat} (hq0 : ws[q0]? = some (bya g.G h0 n0 a)) (hq1 : ws[q1]? = some (bya g.G h1 n1 b)) (hlk : Cond.methodLink own index arraycopyName ∈ lw_tg) (hs : sp + n ≤ n0 ∧ dp + n ≤ n1 ∧ n0 < 2147483648 ∧ n1 < 2147483648) (hfit : fitB a) (hrr : 1 ≤ rmO.frames ∧ (st.map fun v => v.category).sum + (nativeFrameWords "java/lang/System" "arraycopy" 5 + 11) ≤ rmO.locals)
    (hws : ws.set q1 (bya g.G h1 n1 (va_cpy a b sp dp n)) = ws') (dg : decode cc pc = .ok (.invokestatic index, 3)) (k' : XG g d (hL g ws') lv st (pc + 3)) : XG g d (hL g ws) lv (iV (n : Nat) :: iV (dp : Nat) :: .ref h1 :: iV (sp : Nat) :: .ref h0 :: st) pc := by
  intro H locs ls e1 e2 e3
  subst hws
  have c1 := cl_n (n := n) (by omega)
  have c2 := cl_n (n := dp) (by omega)
  have c3 := cl_n (n := sp) (by omega)
  refine va_copyi C.x C.b (by rw [C.ml, e3.1, C.n]) C.o (C.t _ hlk) (C.t _ acp.1) (C.t _ acp.2.1) (C.t _ acp.2.2) C.K e1.1 e1.2 e2 q0 q1 1 1 hq0 hq1 rfl rfl rfl c3.2 c2.2 c1.2 (by rw [c3.1, c1.1]; omega) (by rw [c2.1, c1.1]; omega) (fun i _ => hfit _) (by rw [hR]; exact hrr.1) (by rw [hR]; exact hrr.2) dg (fun H1 locs1 a1 a2 a3 => ?_)
  rw [c1.1, c2.1, c3.1] at a1 a2
  exact k' H1 locs1 ls ⟨a1, a2⟩ a3 e3
theorem bytT_fit : ∀ i, i < 14 → ∀ j, j < slen i → fits .byte (.int ((bytT.getD i []).getD j 0)) = true := by decide +kernel
/-- System.arraycopy from a constant text's bytes -/
theorem x_tcopyc (C : CX g cc nL ret own) {rmO : Room} (hR : g.R = rmO) (q1 : Nat) {ws' : va_W} {i h1 n1 index : Nat} {b : Nat → Int32} {dp : Nat} (hi : i < 14) (hq1 : ws[q1]? = some (bya g.G h1 n1 b)) (hlk : Cond.methodLink own index arraycopyName ∈ lw_tg) (hs : dp + slen i ≤ n1 ∧ n1 < 2147483648) (hrr : 1 ≤ rmO.frames ∧ (st.map fun v => v.category).sum + (nativeFrameWords "java/lang/System" "arraycopy" 5 + 11) ≤ rmO.locals)
    (hws : ws.set q1 (bya g.G h1 n1 (va_cpy (fun j => (bytT.getD i []).getD j 0) b 0 dp (slen i))) = ws') (dg : decode cc pc = .ok (.invokestatic index, 3)) (k' : XG g d (hL g ws') lv st (pc + 3)) : XG g d (hL g ws) lv (iV (slen i : Nat) :: iV (dp : Nat) :: .ref h1 :: iV 0 :: .ref (g.G.aV i) :: st) pc := by
  intro H locs ls e1 e2 e3
  subst hws
  have hsl := slen_lt hi
  have c1 := cl_n (n := slen i) hsl
  have c2 := cl_n (n := dp) (by omega)
  have c3 : (Int32.ofInt 0).toNatClampNeg = 0 ∧ ¬ Int32.ofInt 0 < 0 := by decide +kernel
  refine vk_copyt C.x C.b (by rw [C.ml, e3.1, C.n]) C.o (C.t _ hlk) (C.t _ acp.1) (C.t _ acp.2.1) (C.t _ acp.2.2) C.K e1.1 e1.2 e2 (C.E.1.1 i hi).2.2.2 q1 1 hq1 rfl c3.2 c2.2 c1.2 (by rw [c3.1, c1.1]; show 0 + slen i ≤ slen i; omega) (by rw [c2.1, c1.1]; omega) (fun j hj => by rw [c1.1] at hj; rw [c3.1]; exact bytT_fit i hi _ (by omega)) (by rw [hR]; exact hrr.1) (by rw [hR]; exact hrr.2) dg (fun H1 locs1 a1 a2 a3 => ?_)
  rw [c1.1, c2.1, c3.1] at a1 a2
  exact k' H1 locs1 ls ⟨a1, a2⟩ a3 e3
/-- new byte[n] -/
theorem x_tnewb (C : CX g cc nL ret own) {rmO : Room} (hA : ∀ q : Nat, g.s.heap.size ≤ q → g.A q) (hR : g.R = rmO) {n : Nat} (hn : n < 100000) (hce : d.ce + 1 ≤ rmO.cells ∧ d.so + n ≤ rmO.slots) (dg : decode cc pc = .ok (.newarray .byte, 2))
    (k' : ∀ q : Nat, XG g (nx d 1 n) (hL g (ws ++ [bya g.G q n (fun _ => 0)])) lv (.ref q :: st) (pc + 2)) : XG g d (hL g ws) lv (iV n :: st) pc :=
  x_nnewa C hA hR (i := 1) (Or.inr ⟨rfl, rfl, rfl⟩) acl_byte hn hce rfl dg k'
end XT
