/-! ===== the law's wrappers: methods with handlers ===== -/
abbrev WSy (y : MethodName) (cc : ByteArray) (nL : Nat) (ret : Option FieldType) (hh : List (Nat × Nat × Nat × Nat)) : List Cond := .codeWith y cc nL ret hh :: lw_tg
def NC3 (U : State) : Prop := va_Nc (exn 2) (exn 3) U ∧ va_Nc (exn 1) (exn 2) U ∧ va_Nc (exn 1) (exn 3) U
theorem NC3.moved {u U : State} (hvm : u.vm.Alike U.vm) (h : NC3 u) : NC3 U := ⟨h.1.moved hvm, h.2.1.moved hvm, h.2.2.moved hvm⟩
def preL (G : Gd) (na : Nat) (ad : Nat → Nat) (w : Wd) (sz : Nat) (U : State) : Prop := preS G 0 na ad w sz U ∧ NC3 U
def mL (l : Launch) (y : MethodName) (cc : ByteArray) (nL : Nat) (hh : List (Nat × Nat × Nat × Nat)) (rm : Room) (G : Gd) (na : Nat) (ad : Nat → Nat) (vs : List Value) (w : Wd) (res : Int × Nat × Wd) (mc ms : Nat) : Prop :=
  ∀ sz : Nat, Met l y (WSy y cc nL (some .int) hh) rm (va_Pc vs (preL G na ad w sz)) (va_Qi (fun v (_ : Unit) => v = Int32.ofInt res.1) (fun _ t => PW G 0 na ad sz (.inl 0, res.2) t) (rg 0 na ad sz)) mc ms (rg 0 na ad sz)
def rtL (g : Cx) (na : Nat) (ad : Nat → Nat) (cc : ByteArray) (mc ms : Nat) (res : Int × Nat × Wd) : Prop :=
  ∀ (d : Dl) (pc : Nat) (lv : List (Nat × Value)) (v : Int) (w2 : Wd), AG na ad d → d.ce ≤ mc ∧ d.so ≤ ms → (v, d.na, w2) = res → decode cc pc = .ok (.ireturn, 1) → XG g d (hP g d w2) lv [iV v] pc
def stL (g : Cx) (d : Dl) (l : Launch) (rm : Room) (G : Gd) (na : Nat) (ad : Nat → Nat) (hh : List (Nat × Nat × Nat × Nat)) : Prop :=
  g.l = l ∧ g.R = rm ∧ g.G = G ∧ g.dm = 0 ∧ d = (na, ad, 0, 0) ∧ (∀ q : Nat, g.s.heap.size ≤ q → g.A q) ∧ g.c.exceptionTable.toList = tableOf hh ∧ NC3 g.s
theorem met_L {l : Launch} {y : MethodName} {cc : ByteArray} {nL : Nat} {hh : List (Nat × Nat × Nat × Nat)} {rm : Room} {G : Gd} {na : Nat} {ad : Nat → Nat} {vs : List Value} {w : Wd} {res : Int × Nat × Wd} {mc ms : Nat} (lv0 : List (Nat × Value)) (hy : plainName y.cls = true) (hlen : (lg_sl vs).length ≤ nL) (hlv : lv_args 0 vs = lv0)
    (body : ∀ (g : Cx) (d : Dl), CX g cc nL (some .int) y.cls → stL g d l rm G na ad hh → rtL g na ad cc mc ms res → XG g d (hP g d w) lv0 [] 0) :
    mL l y cc nL hh rm G na ad vs w res mc ms := by
  intro sz
  refine va_MetW (cc := cc) (maxL := nL) (ret := some .int) hy rfl ?_
  intro p e s m args below meth c s₁ B hml hv
  obtain ⟨rfl, ⟨hsz, hwd, hK, hN, hE⟩, hNC⟩ := hv
  have hts := atoms_spec (ws := WSy y cc nL (some .int) hh) B.pre
  have hown : s.vm.findClass y.cls = some m.cls := findClass_of_methodNamed B.named
  have hl := lv_entry vs (n := nL) hlen
  have htab := vx_table (x := y) B (hts _ List.mem_cons_self)
  rw [lg_entry_eq]
  rw [hlv] at hl
  have C : CX (p, l, e, rm, s, m, vs.toArray, below, meth, c, nL, MQ below (va_Qi (fun v (_ : Unit) => v = Int32.ofInt res.1) (fun _ t => PW G 0 na ad sz (.inl 0, res.2) t) (rg 0 na ad sz)) vs.toArray s mc ms (rg 0 na ad sz), G, rg 0 na ad sz, 0) cc nL (some .int) y.cls := ⟨B.exec, B.bytes, hml, rfl, B.returns, B.notSynchronized, hown, fun q hq => hts q (List.mem_cons_of_mem _ hq), hN, hK, hE⟩
  refine body _ (na, ad, 0, 0) C ⟨rfl, rfl, rfl, rfl, rfl, fun q hq => Or.inr (hsz ▸ hq), htab, hNC⟩ ?_ s.heap [] _ hwd.self va_S.rf hl
  intro d1 pc lv v w2 hag hce hq dg H locs ls h1 h2 h3
  subst hq
  refine W.widen hce.1 hce.2 ?_
  exact W.zret C.x C.b (by rw [C.r]) rfl (fun t ht hW => ⟨⟨_, (), rfl, rfl, d1.ad, ⟨hag.1, hag.2⟩, by rw [ht]; exact h1⟩, h2.F ht⟩) h2.2.2 dg C.k
def catches (g : Cx) (k pc hpc : Nat) : Prop := ∃ pre x suf, g.c.exceptionTable.toList = pre ++ x :: suf ∧ (∀ z ∈ pre, covers z pc = false ∨ (z.catchType ≠ 0 ∧ ∃ nm : String, (Cond.classLink RL z.catchType nm).before g.args g.s = true ∧ va_Nc (exn k) nm g.s)) ∧ covers x pc = true ∧ x.catchType ≠ 0 ∧ (Cond.classLink RL x.catchType (exn k)).before g.args g.s = true ∧ (Cond.castable (exn k) (exn k)).before g.args g.s = true ∧ x.handlerPc = hpc
def exL (k ik : Nat) : Prop := Cond.classLink RL ik (exn k) ∈ lw_tg ∧ Cond.castable (exn k) (exn k) ∈ nw_tbl ∧ ik ≠ 0
theorem exL1 : exL 1 13 := ⟨by decide +kernel, by decide +kernel, by decide⟩
theorem exL2 : exL 2 19 := ⟨by decide +kernel, by decide +kernel, by decide⟩
theorem exL3 : exL 3 29 := ⟨by decide +kernel, by decide +kernel, by decide⟩
theorem exL4 : exL 4 118 := ⟨by decide +kernel, by decide +kernel, by decide⟩
theorem cat1 {g : Cx} {cc : ByteArray} {nL : Nat} {ret : Option FieldType} {own : String} {k ik pc a b hpc : Nat} {hs : List (Nat × Nat × Nat × Nat)} (C : CX g cc nL ret own) (h : g.c.exceptionTable.toList = tableOf ((a, b, hpc, ik) :: hs)) (hk : exL k ik) (hc : covers ⟨a, b, hpc, ik⟩ pc = true) : catches g k pc hpc :=
  ⟨[], ⟨a, b, hpc, ik⟩, tableOf hs, h, (fun _ hz => nomatch hz), hc, hk.2.2, C.t _ hk.1, va_Nw.use (by rfl) (C.nw _ hk.2.1), rfl⟩
theorem cat2 {g : Cx} {cc : ByteArray} {nL : Nat} {ret : Option FieldType} {own : String} {k ik k1 ik1 pc a b hpc a1 b1 hpc1 : Nat} {hs : List (Nat × Nat × Nat × Nat)} (C : CX g cc nL ret own) (h : g.c.exceptionTable.toList = tableOf ((a1, b1, hpc1, ik1) :: (a, b, hpc, ik) :: hs)) (hk1 : exL k1 ik1) (hk : exL k ik) (hn : va_Nc (exn k) (exn k1) g.s) (hc : covers ⟨a, b, hpc, ik⟩ pc = true) : catches g k pc hpc := by
  refine ⟨[⟨a1, b1, hpc1, ik1⟩], ⟨a, b, hpc, ik⟩, tableOf hs, h, (fun z hz => ?_), hc, hk.2.2, C.t _ hk.1, va_Nw.use (by rfl) (C.nw _ hk.2.1), rfl⟩
  rw [List.mem_singleton.mp hz]
  exact Or.inr ⟨hk1.2.2, exn k1, C.t _ hk1.1, hn⟩
section XLW
variable {g : Cx} {d : Dl} {cc : ByteArray} {nL : Nat} {ret : Option FieldType} {own : String} {hp : Heap → Prop} {w : Wd} {lv : List (Nat × Value)} {st : List Value} {pc : Nat}
theorem x_astore (C : CX g cc nL ret own) {f : Nat} {x : Nat} {lv' : List (Nat × Value)} (dg : decode cc pc = .ok (.astore f, 2)) (hn : f < nL) (hl : (f, Value.ref x) :: lv.filter (fun q => !(q.1 == f) && !(q.1 + 1 == f && q.2.category == 2)) = lv') (k : XG g d hp lv' st (pc + 2)) : XG g d hp lv (.ref x :: st) pc := fun H locs ls h1 h2 h3 => lv_astore C.x C.b dg h3 (by rw [C.n]; exact hn) hl (fun ls h3 => k H locs ls h1 h2 h3)
theorem upd_sL {w : Wd} {o : Nat} {i y : Int} {z : Int64} (hi : ((i.toNat : Nat) : Int) = i) (hz : z = Int64.ofInt y) : (fun j : Nat => Int64.ofInt (gA (sA w o i y) o (j : Nat))) = vp_updL (fun j : Nat => Int64.ofInt (gA w o (j : Nat))) i.toNat z := by
  funext j
  unfold vp_updL
  rw [gA_sA]
  by_cases c : j = i.toNat
  · subst c
    rw [if_pos ⟨rfl, hi⟩, if_pos rfl, hz]
  · rw [if_neg (fun q => c (by omega)), if_neg c]
theorem hw_lng {o : Nat} (hk : isK d.na g.dm 15 o) : ∃ q : Nat, (OL g.dm d.na)[q]? = some o ∧ (hw g.G g.dm d.na d.ad w)[q]? = some (d.ad o, .inl (g.G.cy 4, (ln o, .inr (.inl fun i => Int64.ofInt (gA w o (i : Nat)))))) := by
  obtain ⟨q, hq, hq2⟩ := hw_get (G := g.G) (ad := d.ad) (w := w) (show kd d.na o ≠ 0 by rw [hk.1]; omega) hk.2
  rw [hk.1, cell_long] at hq2
  exact ⟨q, hq, hq2⟩
theorem x_last (C : CX g cc nL ret own) {o : Nat} {i x : Int} (hk : isK d.na g.dm 15 o) (hin : inb i (ln o) = true) (dg : decode cc pc = .ok (.lastore, 1))
    (k' : XG g d (hP g d (sA w o i x)) lv st (pc + 1)) : XG g d (hP g d w) lv (jV x :: iV i :: .ref (d.ad o) :: st) pc := by
  intro H locs ls h1 h2 h3
  obtain ⟨q, hq, hq2⟩ := hw_lng (g := g) (d := d) (w := w) hk
  obtain ⟨e1, e2, e3⟩ := inb_cl hin (ln_lt o)
  refine va_last C.x C.b C.K h1.1 h1.2.1 h2 q 4 hq2 rfl e2 dg (fun H1 locs1 a1 a2 a3 => ?_)
  have hs : (hw g.G g.dm d.na d.ad w).set q (d.ad o, .inl (g.G.cy 4, (ln o, .inr (.inl (vp_updL (fun j : Nat => Int64.ofInt (gA w o (j : Nat))) i.toNat (Int64.ofInt x)))))) = hw g.G g.dm d.na d.ad (sA w o i x) := by
    refine hw_set h1.2.1 hq ?_ (fun o' ho' => cell_sA_ne ho')
    rw [hk.1, cell_long, upd_sL e3 rfl]
  rw [e1, hs] at a1 a2
  exact k' H1 locs1 ls ⟨a1, a2, okW_sA h1.2.2⟩ a3 h3
theorem x_lcallI (C : CX g cc nL ret RL) {mc' ms' : Nat} {rmO : Room} (hA : ∀ q : Nat, g.s.heap.size ≤ q → g.A q) (hR : g.R = rmO) {y : MethodName} {cc' : ByteArray} {nL' n index : Nat} {ret' : Option FieldType} {rm : Room} {o K : Nat} {T : u_T} {As rest stk : List Value} {z : Rz}
    (hf : mfV y cc' nL' ret' n) (hlk : Cond.methodLink RL index y ∈ lw_tg) (hcl : vwCl[K - 1]? = some (y.cls, T, nf (K - 1))) (hk : isK d.na g.dm K o) (hK : 0 < K ∧ K ≤ 10) (hrm : rm.cells = mc' ∧ rm.slots = ms') (hrr : rm.frames + 1 ≤ rmO.frames ∧ 8 + (nL' + 11) + rm.locals ≤ rmO.locals)
    (hst : stk = As.reverse ++ .ref (d.ad o) :: rest) (hn : As.length = n) (hro : (rest.map fun v => v.category).sum ≤ 8) (hce : d.ce + mc' ≤ rmO.cells ∧ d.so + ms' ≤ rmO.slots) (dg : decode cc pc = .ok (.invokevirtual index, 3))
    (hM : mGI g.l y cc' nL' ret' rm g.G g.dm d.na d.ad (.ref (d.ad o) :: As) w z mc' ms')
    (kx : ∀ (k : Nat) (d1 : Dl), z.1 = .inr k → AG d.na d.ad d1 → d1.na = z.2.1 → d1.ce = d.ce + mc' → d1.so = d.so + ms' → ∃ hpc, catches g k pc hpc ∧ ∀ q, XG g d1 (hP g d1 z.2.2) lv [.ref q] hpc)
    (k' : ∀ (r : Int) (d1 : Dl), z.1 = .inl r → AG d.na d.ad d1 → d1.na = z.2.1 → d1.ce = d.ce + mc' → d1.so = d.so + ms' → XG g d1 (hP g d1 z.2.2) lv (iV r :: rest) (pc + 3)) : XG g d (hP g d w) lv stk pc := by
  intro H locs ls h1 h2 h3
  obtain ⟨f1, f2, f3, f4, f5, f6, f7⟩ := hf
  have hF := wdH.rg h1 h2 hA
  refine vx_calli (vx_runV (C := y.cls) (As := As) (rest := rest) ⟨C.x, C.b, C.ml, C.o, C.t⟩ (hM H.size)
    ⟨callB_of n C.t (good_tg f4) rfl hrm.1 hrm.2 (C.t _ f3) (C.t _ hlk) ⟨f5, f6, f7⟩ (by rw [hR]; exact hrr), C.t _ f1, C.t _ f2⟩
    ⟨preS.blind, xrecv_of C h1 hk hK hcl, pre_of C h1 h2 hF⟩ rfl hn (by show ls.size = nL; rw [h3.1, C.n]) hst (lv_room hro) dg (by rw [hR]; exact hce)) h2 (fun q _ h => hF q h) hF (fun q _ h => hF q h)
    (fun E ce q9 u t H1 locs1 ht hvm _ hB hz1 hk1 hS hc9 hv9 hcl9 => ?_) (fun v u t H1 locs1 ht hvm hw hB hz1 hk1 hS => ?_)
  · obtain ⟨⟨k, hk2, hE⟩, ad', hag', hwd⟩ := hB
    rw [ht] at hwd
    subst hE
    obtain ⟨hpc, ⟨pre, x, suf, c1, c2, c3, c4, c5, c6, c7⟩, kk⟩ := kx k (z.2.1, ad', d.ce + mc', d.so + ms') hk2 hag' rfl rfl rfl
    refine vx_catch C.o pre x suf c1 c2 c3 c4 c5 c6 hc9 hv9 hcl9 ?_
    rw [c7]
    exact kk q9 H1 locs1 ls (hwd.weaken hF) hS h3
  · obtain ⟨r, hr, hv⟩ := hw
    obtain ⟨ad', hag', hwd⟩ := hB
    rw [ht] at hwd
    rw [hv]
    exact k' r (z.2.1, ad', d.ce + mc', d.so + ms') hr hag' rfl rfl rfl H1 locs1 ls (hwd.weaken hF) hS h3
theorem x_lcallV (C : CX g cc nL ret RL) {mc' ms' : Nat} {rmO : Room} (hA : ∀ q : Nat, g.s.heap.size ≤ q → g.A q) (hR : g.R = rmO) {y : MethodName} {cc' : ByteArray} {nL' n index : Nat} {ret' : Option FieldType} {rm : Room} {o K : Nat} {T : u_T} {As rest stk : List Value} {z : Rz}
    (hf : mfV y cc' nL' ret' n) (hlk : Cond.methodLink RL index y ∈ lw_tg) (hcl : vwCl[K - 1]? = some (y.cls, T, nf (K - 1))) (hk : isK d.na g.dm K o) (hK : 0 < K ∧ K ≤ 10) (hrm : rm.cells = mc' ∧ rm.slots = ms') (hrr : rm.frames + 1 ≤ rmO.frames ∧ 8 + (nL' + 11) + rm.locals ≤ rmO.locals)
    (hst : stk = As.reverse ++ .ref (d.ad o) :: rest) (hn : As.length = n) (hro : (rest.map fun v => v.category).sum ≤ 8) (hce : d.ce + mc' ≤ rmO.cells ∧ d.so + ms' ≤ rmO.slots) (dg : decode cc pc = .ok (.invokevirtual index, 3))
    (hM : mGV g.l y cc' nL' ret' rm g.G g.dm d.na d.ad (.ref (d.ad o) :: As) w z mc' ms')
    (kx : ∀ (k : Nat) (d1 : Dl), z.1 = .inr k → AG d.na d.ad d1 → d1.na = z.2.1 → d1.ce = d.ce + mc' → d1.so = d.so + ms' → ∃ hpc, catches g k pc hpc ∧ ∀ q, XG g d1 (hP g d1 z.2.2) lv [.ref q] hpc)
    (k' : ∀ (r : Int) (d1 : Dl), z.1 = .inl r → AG d.na d.ad d1 → d1.na = z.2.1 → d1.ce = d.ce + mc' → d1.so = d.so + ms' → XG g d1 (hP g d1 z.2.2) lv rest (pc + 3)) : XG g d (hP g d w) lv stk pc := by
  intro H locs ls h1 h2 h3
  obtain ⟨f1, f2, f3, f4, f5, f6, f7⟩ := hf
  have hF := wdH.rg h1 h2 hA
  refine vx_callv (vx_runV (C := y.cls) (As := As) (rest := rest) ⟨C.x, C.b, C.ml, C.o, C.t⟩ (hM H.size)
    ⟨callB_of n C.t (good_tg f4) rfl hrm.1 hrm.2 (C.t _ f3) (C.t _ hlk) ⟨f5, f6, f7⟩ (by rw [hR]; exact hrr), C.t _ f1, C.t _ f2⟩
    ⟨preS.blind, xrecv_of C h1 hk hK hcl, pre_of C h1 h2 hF⟩ rfl hn (by show ls.size = nL; rw [h3.1, C.n]) hst (lv_room hro) dg (by rw [hR]; exact hce)) h2 (fun q _ h => hF q h) hF (fun q _ h => hF q h)
    (fun E ce q9 u t H1 locs1 ht hvm _ hB hz1 hk1 hS hc9 hv9 hcl9 => ?_) (fun u t H1 locs1 ht hvm hw hB hz1 hk1 hS => ?_)
  · obtain ⟨⟨k, hk2, hE⟩, ad', hag', hwd⟩ := hB
    rw [ht] at hwd
    subst hE
    obtain ⟨hpc, ⟨pre, x, suf, c1, c2, c3, c4, c5, c6, c7⟩, kk⟩ := kx k (z.2.1, ad', d.ce + mc', d.so + ms') hk2 hag' rfl rfl rfl
    refine vx_catch C.o pre x suf c1 c2 c3 c4 c5 c6 hc9 hv9 hcl9 ?_
    rw [c7]
    exact kk q9 H1 locs1 ls (hwd.weaken hF) hS h3
  · obtain ⟨r, hr⟩ := hw
    obtain ⟨ad', hag', hwd⟩ := hB
    rw [ht] at hwd
    exact k' r (z.2.1, ad', d.ce + mc', d.so + ms') hr hag' rfl rfl rfl H1 locs1 ls (hwd.weaken hF) hS h3
end XLW
