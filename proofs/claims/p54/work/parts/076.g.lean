def thC (g : Cx) (na0 : Nat) (ad0 : Nat → Nat) (mc ms : Nat) (res : Rz) : Prop := (∀ x ∈ g.c.exceptionTable.toList, False) ∧ g.l.stackTraces = false ∧ (∃ sz, g.A = rg g.dm na0 ad0 sz ∧ g.s.heap.size = sz) ∧ ∃ Qc, g.Q = vx_MQ g.below Qc (xG g.G g.dm na0 ad0 g.s.heap.size res) g.args g.s mc ms g.A
theorem ex_of {g : Cx} {cc : ByteArray} {nL : Nat} {ret : Option FieldType} {own : String} {na0 : Nat} {ad0 : Nat → Nat} {mc ms : Nat} {res : Rz} (C : CX g cc nL ret own) (h : thC g na0 ad0 mc ms res) : exG g na0 ad0 mc ms res := by
  obtain ⟨hXT, -, ⟨sz, hA, hsz⟩, Qc, hQ⟩ := h
  intro pc ls rest q E ce H1 locs1 cells slots k na1 ad1 w1 hE hr hag h1 h2 hc hv hcl hmc hms
  subst hr
  rw [hQ]
  refine vx_out (fun x hx => (hXT x hx).elim) C.k hc hv hcl (fun t ht ha => ⟨(), trivial, ⟨⟨k, rfl, hE⟩, ad1, hag, ?_⟩, ?_⟩) h2.2.2 hmc hms
  · rw [hsz, ← hA, ht]; exact h1
  · rw [hsz, ← hA]; exact h2.F ht
theorem start_G {l : Launch} {y : MethodName} {cc : ByteArray} {nL : Nat} {ret : Option FieldType} {rm : Room} {G : Gd} {dm na : Nat} {ad : Nat → Nat} {vs : List Value} {w : Wd} {Qc : Array Value → State → Outcome → State → Prop} {XC : String → State → State → Prop} {sz mc ms : Nat}
    (hy : plainName y.cls = true) (hlen : (lg_sl vs).length ≤ nL)
    (body : ∀ (g : Cx) (d : Dl), CX g cc nL ret y.cls → stX g d l rm G dm na ad → g.A = rg dm na ad sz → g.s.heap.size = sz → g.Q = vx_MQ g.below Qc XC g.args g.s mc ms (rg dm na ad sz) → (∀ x ∈ g.c.exceptionTable.toList, False) → XG g d (hP g d w) (lv_args 0 vs) [] 0) :
    vx_Met l y (WSx y cc nL ret) rm (va_Pc vs (preS G dm na ad w sz)) Qc XC mc ms (rg dm na ad sz) := by
  refine vx_ofW (cc := cc) (maxL := nL) (ret := ret) hy rfl ?_
  intro p e s m args below meth c s₁ B hml hXT hv
  obtain ⟨rfl, hsz, hwd, hK, hN, hE⟩ := hv
  have hts := atoms_spec (ws := WSx y cc nL ret) B.pre
  have hown : s.vm.findClass y.cls = some m.cls := findClass_of_methodNamed B.named
  have hl := lv_entry vs (n := nL) hlen
  rw [lg_entry_eq]
  refine body (p, l, e, rm, s, m, vs.toArray, below, meth, c, nL, _, G, rg dm na ad sz, dm) (na, ad, 0, 0) ⟨B.exec, B.bytes, hml, rfl, B.returns, B.notSynchronized, hown, fun q hq => hts q (List.mem_cons_of_mem _ hq), hN, hK, hE⟩ ⟨rfl, rfl, rfl, rfl, rfl, fun q hq => Or.inr (hsz ▸ hq)⟩ rfl hsz rfl hXT s.heap [] _ hwd.self va_S.rf hl
theorem met_GI {l : Launch} {y : MethodName} {cc : ByteArray} {nL : Nat} {ret : Option FieldType} {rm : Room} {G : Gd} {dm na : Nat} {ad : Nat → Nat} {vs : List Value} {w : Wd} {res : Rz} {mc ms : Nat} (hfl : l.stackTraces = false) (lv0 : List (Nat × Value)) (hy : plainName y.cls = true) (hlen : (lg_sl vs).length ≤ nL) (hlv : lv_args 0 vs = lv0) (ty : FieldType) (hret : ret = some ty)
    (body : ∀ (g : Cx) (d : Dl), CX g cc nL ret y.cls → stX g d l rm G dm na ad → thC g na ad mc ms res → RGI g na ad cc ty mc ms res → XG g d (hP g d w) lv0 [] 0) :
    mGI l y cc nL ret rm G dm na ad vs w res mc ms := by
  intro sz
  refine start_G hy hlen (fun g d C S hA hz hQ hXT => ?_)
  rw [hlv]
  have hT : thC g na ad mc ms res := ⟨hXT, by rw [S.1]; exact hfl, ⟨sz, by rw [hA, S.2.2.2.1], hz⟩, _, by rw [hQ, hA, hz, S.2.2.2.1, S.2.2.1]⟩
  refine body g d C S hT ⟨fun d1 pc lv v w2 hag hce hq hn dg H locs ls h1 h2 h3 => ?_, ex_of C hT⟩
  cases hq
  obtain ⟨_, _, hG, hdm, rfl, _⟩ := S
  rw [hQ]
  unfold hP at h1
  rw [hA] at h1 h2
  rw [hG, hdm] at h1
  refine W.widen hce.1 hce.2 (vx_ret ?_)
  exact W.zret C.x C.b (by rw [C.r, hret]) hn (fun t ht hW => ⟨⟨_, (), rfl, ⟨v, rfl, rfl⟩, d1.ad, ⟨hag.1, hag.2⟩, by rw [ht]; exact h1⟩, h2.F ht⟩) h2.2.2 dg C.k
theorem met_GV {l : Launch} {y : MethodName} {cc : ByteArray} {nL : Nat} {ret : Option FieldType} {rm : Room} {G : Gd} {dm na : Nat} {ad : Nat → Nat} {vs : List Value} {w : Wd} {res : Rz} {mc ms : Nat} (hfl : l.stackTraces = false) (lv0 : List (Nat × Value)) (hy : plainName y.cls = true) (hlen : (lg_sl vs).length ≤ nL) (hlv : lv_args 0 vs = lv0) (hret : ret = none)
    (body : ∀ (g : Cx) (d : Dl), CX g cc nL ret y.cls → stX g d l rm G dm na ad → thC g na ad mc ms res → RGV g na ad cc mc ms res → XG g d (hP g d w) lv0 [] 0) :
    mGV l y cc nL ret rm G dm na ad vs w res mc ms := by
  intro sz
  refine start_G hy hlen (fun g d C S hA hz hQ hXT => ?_)
  rw [hlv]
  have hT : thC g na ad mc ms res := ⟨hXT, by rw [S.1]; exact hfl, ⟨sz, by rw [hA, S.2.2.2.1], hz⟩, _, by rw [hQ, hA, hz, S.2.2.2.1, S.2.2.1]⟩
  refine body g d C S hT ⟨fun d1 pc lv w2 hag hce hq dg H locs ls h1 h2 h3 => ?_, ex_of C hT⟩
  cases hq
  obtain ⟨_, _, hG, hdm, rfl, _⟩ := S
  rw [hQ]
  unfold hP at h1
  rw [hA] at h1 h2
  rw [hG, hdm] at h1
  refine W.widen hce.1 hce.2 (vx_ret ?_)
  exact W.vret C.x C.b (by rw [C.r, hret]) (fun t ht hW => ⟨⟨(), rfl, ⟨0, rfl⟩, d1.ad, ⟨hag.1, hag.2⟩, by rw [ht]; exact h1⟩, h2.F ht⟩) h2.2.2 dg C.k
section XG2
variable {g : Cx} {d : Dl} {cc : ByteArray} {nL : Nat} {ret : Option FieldType} {own : String} {w : Wd} {lv : List (Nat × Value)} {st : List Value} {pc : Nat}
theorem x_gthrow {na0 : Nat} {ad0 : Nat → Nat} {mc ms : Nat} {res : Rz} {rmO : Room} (C : CX g cc nL ret RX8) (hT : thC g na0 ad0 mc ms res) (hR0 : g.R = rmO) {k ik ic : Nat} (hth : thW k ik ic)
    (hag : AG na0 ad0 d) (hce : d.ce + 1 ≤ mc ∧ d.so + 6 ≤ ms) (hRc : rmO.cells = mc ∧ rmO.slots = ms) (hrr : 6 ≤ rmO.frames ∧ (st.map fun v => v.category).sum + 81 ≤ rmO.locals) (hq : some ((Sum.inr k, d.na, w) : Rz) = some res)
    (d0 : decode cc pc = .ok (.new ik, 3)) (d3 : decode cc (pc + 3) = .ok (.dup, 1)) (d4 : decode cc (pc + 4) = .ok (.invokespecial ic, 3)) (d7 : decode cc (pc + 7) = .ok (.athrow, 1)) : XG g d (hP g d w) lv st pc :=
  x_throw C hT.1 hT.2.1 hR0 hT.2.2.1 hth hT.2.2.2 hag hce hRc hrr hq d0 d3 d4 d7
theorem bindG_some {pv : Option Rz} {Kt : Int → Nat → Wd → Option Rz} {res : Rz} (h : bindG pv Kt = some res) : ∃ z, pv = some z ∧ (∀ r, z.1 = .inl r → Kt r z.2.1 z.2.2 = some res) ∧ ∀ k, z.1 = .inr k → z = res := by
  obtain ⟨z, h1, h2⟩ := Option.bind_eq_some_iff.mp h
  refine ⟨z, h1, fun r hr => ?_, fun k hk => ?_⟩
  · rw [hr] at h2; exact h2
  · rw [hk] at h2; exact Option.some.inj h2
theorem x_gcallI (C : CX g cc nL ret own) {na0 : Nat} {ad0 : Nat → Nat} {mc ms mc' ms' : Nat} {rmO : Room} (hA : ∀ q : Nat, g.s.heap.size ≤ q → g.A q) (hR : g.R = rmO) {y : MethodName} {cc' : ByteArray} {nL' n index : Nat} {ret' : Option FieldType} {rm : Room} {o K : Nat} {T : u_T} {As rest stk : List Value} {pv : Option Rz} {Kt : Int → Nat → Wd → Option Rz} {res : Rz}
    (hf : mfV y cc' nL' ret' n) (hlk : Cond.methodLink own index y ∈ lw_tg) (hcl : vwCl[K - 1]? = some (y.cls, T, nf (K - 1))) (hk : isK d.na g.dm K o) (hK : 0 < K ∧ K ≤ 10) (hrm : rm.cells = mc' ∧ rm.slots = ms') (hrr : rm.frames + 1 ≤ rmO.frames ∧ 8 + (nL' + 11) + rm.locals ≤ rmO.locals)
    (hst : stk = As.reverse ++ .ref (d.ad o) :: rest) (hn : As.length = n) (hro : (rest.map fun v => v.category).sum ≤ 8) (hce : d.ce + mc' ≤ g.R.cells ∧ d.so + ms' ≤ g.R.slots) (hag : AG na0 ad0 d) (hcm : d.ce + mc' ≤ mc ∧ d.so + ms' ≤ ms) (dg : decode cc pc = .ok (.invokevirtual index, 3))
    (hEx : exG g na0 ad0 mc ms res) (hq : bindG pv Kt = some res) (hM : ∀ z, pv = some z → mGI g.l y cc' nL' ret' rm g.G g.dm d.na d.ad (.ref (d.ad o) :: As) w z mc' ms')
    (k' : ∀ (r : Int) (d1 : Dl) (w1 : Wd), AG d.na d.ad d1 → d1.ce = d.ce + mc' → d1.so = d.so + ms' → Kt r d1.na w1 = some res → XG g d1 (hP g d1 w1) lv (iV r :: rest) (pc + 3)) : XG g d (hP g d w) lv stk pc := by
  intro H locs ls h1 h2 h3
  obtain ⟨z, hpv, hq1, hq2⟩ := bindG_some hq
  obtain ⟨f1, f2, f3, f4, f5, f6, f7⟩ := hf
  have hF := wdH.rg h1 h2 hA
  refine vx_calli (vx_runV (C := y.cls) (As := As) (rest := rest) ⟨C.x, C.b, C.ml, C.o, C.t⟩ (hM z hpv H.size)
    ⟨callB_of n C.t (good_tg f4) rfl hrm.1 hrm.2 (C.t _ f3) (C.t _ hlk) ⟨f5, f6, f7⟩ (by rw [hR]; exact hrr), C.t _ f1, C.t _ f2⟩
    ⟨preS.blind, xrecv_of C h1 hk hK hcl, pre_of C h1 h2 hF⟩ rfl hn (by show ls.size = nL; rw [h3.1, C.n]) hst (lv_room hro) dg ⟨hce.1, hce.2⟩) h2 (fun q _ h => hF q h) hF (fun q _ h => hF q h)
    (fun E ce q9 u t H1 locs1 ht hvm _ hB hz1 hk1 hS hc9 hv9 hcl9 => ?_) (fun v u t H1 locs1 ht hvm hw hB hz1 hk1 hS => ?_)
  · obtain ⟨⟨k, hk2, hE⟩, ad', hag', hwd⟩ := hB
    rw [ht] at hwd
    have hz := hq2 k hk2
    subst hz
    exact hEx pc ls rest q9 E ce H1 locs1 _ _ k z.2.1 ad' z.2.2 hE (by rw [← hk2]) (hag.trans hag') (hwd.weaken hF) hS hc9 hv9 hcl9 hcm.1 hcm.2
  · obtain ⟨r, hr, rfl⟩ := hw
    obtain ⟨ad', hag', hwd⟩ := hB
    rw [ht] at hwd
    exact k' r (z.2.1, ad', d.ce + mc', d.so + ms') z.2.2 hag' rfl rfl (hq1 r hr) H1 locs1 ls (hwd.weaken hF) hS h3
theorem x_gcallV (C : CX g cc nL ret own) {na0 : Nat} {ad0 : Nat → Nat} {mc ms mc' ms' : Nat} {rmO : Room} (hA : ∀ q : Nat, g.s.heap.size ≤ q → g.A q) (hR : g.R = rmO) {y : MethodName} {cc' : ByteArray} {nL' n index : Nat} {ret' : Option FieldType} {rm : Room} {o K : Nat} {T : u_T} {As rest stk : List Value} {pv : Option Rz} {Kt : Int → Nat → Wd → Option Rz} {res : Rz}
    (hf : mfV y cc' nL' ret' n) (hlk : Cond.methodLink own index y ∈ lw_tg) (hcl : vwCl[K - 1]? = some (y.cls, T, nf (K - 1))) (hk : isK d.na g.dm K o) (hK : 0 < K ∧ K ≤ 10) (hrm : rm.cells = mc' ∧ rm.slots = ms') (hrr : rm.frames + 1 ≤ rmO.frames ∧ 8 + (nL' + 11) + rm.locals ≤ rmO.locals)
    (hst : stk = As.reverse ++ .ref (d.ad o) :: rest) (hn : As.length = n) (hro : (rest.map fun v => v.category).sum ≤ 8) (hce : d.ce + mc' ≤ g.R.cells ∧ d.so + ms' ≤ g.R.slots) (hag : AG na0 ad0 d) (hcm : d.ce + mc' ≤ mc ∧ d.so + ms' ≤ ms) (dg : decode cc pc = .ok (.invokevirtual index, 3))
    (hEx : exG g na0 ad0 mc ms res) (hq : bindG pv Kt = some res) (hM : ∀ z, pv = some z → mGV g.l y cc' nL' ret' rm g.G g.dm d.na d.ad (.ref (d.ad o) :: As) w z mc' ms')
    (k' : ∀ (r : Int) (d1 : Dl) (w1 : Wd), AG d.na d.ad d1 → d1.ce = d.ce + mc' → d1.so = d.so + ms' → Kt r d1.na w1 = some res → XG g d1 (hP g d1 w1) lv rest (pc + 3)) : XG g d (hP g d w) lv stk pc := by
  intro H locs ls h1 h2 h3
  obtain ⟨z, hpv, hq1, hq2⟩ := bindG_some hq
  obtain ⟨f1, f2, f3, f4, f5, f6, f7⟩ := hf
  have hF := wdH.rg h1 h2 hA
  refine vx_callv (vx_runV (C := y.cls) (As := As) (rest := rest) ⟨C.x, C.b, C.ml, C.o, C.t⟩ (hM z hpv H.size)
    ⟨callB_of n C.t (good_tg f4) rfl hrm.1 hrm.2 (C.t _ f3) (C.t _ hlk) ⟨f5, f6, f7⟩ (by rw [hR]; exact hrr), C.t _ f1, C.t _ f2⟩
    ⟨preS.blind, xrecv_of C h1 hk hK hcl, pre_of C h1 h2 hF⟩ rfl hn (by show ls.size = nL; rw [h3.1, C.n]) hst (lv_room hro) dg ⟨hce.1, hce.2⟩) h2 (fun q _ h => hF q h) hF (fun q _ h => hF q h)
    (fun E ce q9 u t H1 locs1 ht hvm _ hB hz1 hk1 hS hc9 hv9 hcl9 => ?_) (fun u t H1 locs1 ht hvm hw hB hz1 hk1 hS => ?_)
  · obtain ⟨⟨k, hk2, hE⟩, ad', hag', hwd⟩ := hB
    rw [ht] at hwd
    have hz := hq2 k hk2
    subst hz
    exact hEx pc ls rest q9 E ce H1 locs1 _ _ k z.2.1 ad' z.2.2 hE (by rw [← hk2]) (hag.trans hag') (hwd.weaken hF) hS hc9 hv9 hcl9 hcm.1 hcm.2
  · obtain ⟨r, hr⟩ := hw
    obtain ⟨ad', hag', hwd⟩ := hB
    rw [ht] at hwd
    exact k' r (z.2.1, ad', d.ce + mc', d.so + ms') z.2.2 hag' rfl rfl (hq1 r hr) H1 locs1 ls (hwd.weaken hF) hS h3
end XG2
