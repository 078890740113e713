/-! ===== the law's wrappers: methods with handlers ===== -/
abbrev WSy (y : MethodName) (cc : ByteArray) (nL : Nat) (ret : Option FieldType) (hh : List (Nat × Nat × Nat × Nat)) : List Cond := .codeWith y cc nL ret hh :: lw_tg
def preL (G : Gd) (na : Nat) (ad : Nat → Nat) (w : Wd) (sz : Nat) (U : State) : Prop := preS G 0 na ad w sz U
def mL (l : Launch) (y : MethodName) (cc : ByteArray) (nL : Nat) (hh : List (Nat × Nat × Nat × Nat)) (rm : Room) (G : Gd) (na : Nat) (ad : Nat → Nat) (vs : List Value) (w : Wd) (res : Int × Nat × Wd) (mc ms : Nat) : Prop :=
  ∀ sz : Nat, Met l y (WSy y cc nL (some .int) hh) rm (va_Pc vs (preL G na ad w sz)) (va_Qi (fun v (_ : Unit) => v = Int32.ofInt res.1) (fun _ t => PW G 0 na ad sz (.inl 0, res.2) t) (rg 0 na ad sz)) mc ms (rg 0 na ad sz)
def rtL (g : Cx) (na : Nat) (ad : Nat → Nat) (cc : ByteArray) (mc ms : Nat) (res : Int × Nat × Wd) : Prop :=
  ∀ (d : Dl) (pc : Nat) (lv : List (Nat × Value)) (v : Int) (w2 : Wd), AG na ad d → d.ce ≤ mc ∧ d.so ≤ ms → (v, d.na, w2) = res → decode cc pc = .ok (.ireturn, 1) → XG g d (hP g d w2) lv [iV v] pc
def stL (g : Cx) (d : Dl) (l : Launch) (rm : Room) (G : Gd) (na : Nat) (ad : Nat → Nat) (hh : List (Nat × Nat × Nat × Nat)) : Prop :=
  g.l = l ∧ g.R = rm ∧ g.G = G ∧ g.dm = 0 ∧ d = (na, ad, 0, 0) ∧ (∀ q : Nat, g.s.heap.size ≤ q → g.A q) ∧ g.c.exceptionTable.toList = tableOf hh
theorem met_L {l : Launch} {y : MethodName} {cc : ByteArray} {nL : Nat} {hh : List (Nat × Nat × Nat × Nat)} {rm : Room} {G : Gd} {na : Nat} {ad : Nat → Nat} {vs : List Value} {w : Wd} {res : Int × Nat × Wd} {mc ms : Nat} (lv0 : List (Nat × Value)) (hy : plainName y.cls = true) (hlen : (lg_sl vs).length ≤ nL) (hlv : lv_args 0 vs = lv0)
    (body : ∀ (g : Cx) (d : Dl), CX g cc nL (some .int) y.cls → stL g d l rm G na ad hh → rtL g na ad cc mc ms res → XG g d (hP g d w) lv0 [] 0) :
    mL l y cc nL hh rm G na ad vs w res mc ms := by
  intro sz
  refine va_MetW (cc := cc) (maxL := nL) (ret := some .int) hy rfl ?_
  intro p e s m args below meth c s₁ B hml hv
  obtain ⟨rfl, hsz, hwd, hK, hN, hE⟩ := hv
  have hts := atoms_spec (ws := WSy y cc nL (some .int) hh) B.pre
  have hown : s.vm.findClass y.cls = some m.cls := findClass_of_methodNamed B.named
  have hl := lv_entry vs (n := nL) hlen
  have htab := vx_table (x := y) B (hts _ List.mem_cons_self)
  rw [lg_entry_eq]
  rw [hlv] at hl
  have C : CX (p, l, e, rm, s, m, vs.toArray, below, meth, c, nL, MQ below (va_Qi (fun v (_ : Unit) => v = Int32.ofInt res.1) (fun _ t => PW G 0 na ad sz (.inl 0, res.2) t) (rg 0 na ad sz)) vs.toArray s mc ms (rg 0 na ad sz), G, rg 0 na ad sz, 0) cc nL (some .int) y.cls := ⟨B.exec, B.bytes, hml, rfl, B.returns, B.notSynchronized, hown, fun q hq => hts q (List.mem_cons_of_mem _ hq), hN, hK, hE⟩
  refine body _ (na, ad, 0, 0) C ⟨rfl, rfl, rfl, rfl, rfl, fun q hq => Or.inr (hsz ▸ hq), htab⟩ ?_ s.heap [] _ hwd.self va_S.rf hl
  intro d1 pc lv v w2 hag hce hq dg H locs ls h1 h2 h3
  subst hq
  refine W.widen hce.1 hce.2 ?_
  exact W.zret C.x C.b (by rw [C.r]) rfl (fun t ht hW => ⟨⟨_, (), rfl, rfl, d1.ad, ⟨hag.1, hag.2⟩, by rw [ht]; exact h1⟩, h2.F ht⟩) h2.2.2 dg C.k
def catches (g : Cx) (k pc hpc : Nat) : Prop := ∃ pre x suf, g.c.exceptionTable.toList = pre ++ x :: suf ∧ (∀ z ∈ pre, covers z pc = false ∨ (z.catchType ≠ 0 ∧ ∃ nm : String, (Cond.classLink RL z.catchType nm).before g.args g.s = true ∧ va_Nc (exn k) nm g.s)) ∧ covers x pc = true ∧ x.catchType ≠ 0 ∧ (Cond.classLink RL x.catchType (exn k)).before g.args g.s = true ∧ (Cond.castable (exn k) (exn k)).before g.args g.s = true ∧ x.handlerPc = hpc
def exL (k ik : Nat) : Prop := Cond.classLink RL ik (exn k) ∈ lw_tg ∧ Cond.castable (exn k) (exn k) ∈ nw_tbl ∧ ik ≠ 0
theorem exL1 : exL 1 101 := ⟨by decide +kernel, by decide +kernel, by decide⟩
theorem cat1 {g : Cx} {cc : ByteArray} {nL : Nat} {ret : Option FieldType} {own : String} {k ik pc a b hpc : Nat} {hs : List (Nat × Nat × Nat × Nat)} (C : CX g cc nL ret own) (h : g.c.exceptionTable.toList = tableOf ((a, b, hpc, ik) :: hs)) (hk : exL k ik) (hc : covers ⟨a, b, hpc, ik⟩ pc = true) : catches g k pc hpc :=
  ⟨[], ⟨a, b, hpc, ik⟩, tableOf hs, h, (fun _ hz => nomatch hz), hc, hk.2.2, C.t _ hk.1, va_Nw.use (by rfl) (C.nw _ hk.2.1), rfl⟩
section XLW
variable {g : Cx} {d : Dl} {cc : ByteArray} {nL : Nat} {ret : Option FieldType} {own : String} {hp : Heap → Prop} {w : Wd} {lv : List (Nat × Value)} {st : List Value} {pc : Nat}
theorem x_lcallI (C : CX g cc nL ret RL) {mc' ms' : Nat} {rmO : Room} (hA : ∀ q : Nat, g.s.heap.size ≤ q → g.A q) (hR : g.R = rmO) {y : MethodName} {cc' : ByteArray} {nL' n index : Nat} {ret' : Option FieldType} {rm : Room} {o K : Nat} {T : u_T} {As rest stk : List Value} {z : Rz}
    (hf : mfV y cc' nL' ret' n) (hlk : Cond.methodLink RL index y ∈ lw_tg) (hcl : vwCl[K - 1]? = some (y.cls, T, nf (K - 1))) (hk : isK d.na g.dm K o) (hK : 0 < K ∧ K ≤ 10) (hrm : rm.cells = mc' ∧ rm.slots = ms') (hrr : rm.frames + 1 ≤ rmO.frames ∧ 8 + (nL' + 11) + rm.locals ≤ rmO.locals)
    (hst : stk = As.reverse ++ .ref (d.ad o) :: rest) (hn : As.length = n) (hro : (rest.map fun v => v.category).sum ≤ 8) (hce : d.ce + mc' ≤ rmO.cells ∧ d.so + ms' ≤ rmO.slots) (dg : decode cc pc = .ok (.invokevirtual index, 3))
    (hM : mGI g.l y cc' nL' ret' rm g.G g.dm d.na d.ad (.ref (d.ad o) :: As) w z mc' ms')
    (kx : ∀ (k : Nat) (d1 : Dl), z.1 = .inr k → AG d.na d.ad d1 → d1.na = z.2.1 → d1.ce = d.ce + mc' → d1.so = d.so + ms' → ∃ hpc, catches g k pc hpc ∧ ∀ q, XG g d1 (hP g d1 z.2.2) lv [.ref q] hpc)
    (k' : ∀ (r : Int) (d1 : Dl), z.1 = .inl r → AG d.na d.ad d1 → d1.na = z.2.1 → d1.ce = d.ce + mc' → d1.so = d.so + ms' → XG g d1 (hP g d1 z.2.2) lv (iV r :: rest) (pc + 3)) : XG g d (hP g d w) lv stk pc := by
  intro H locs ls h1 h2 h3
  obtain ⟨f1, f2, f3, f4, f5, f6, f7⟩ := hf
  have hF := wdH.rg h1 h2 hA
  refine vx_calli (vx_runV (C := y.cls) (As := As) (rest := rest) ⟨C.x, C.b, C.ml, C.o, C.t⟩ (hM H.size)
    ⟨callB_of n C.t (good_tg f4) rfl hrm.1 hrm.2 (C.t _ f3) (C.t _ hlk) ⟨f5, f6, f7⟩ (by rw [hR]; exact hrr), C.t _ f1, C.t _ f2⟩
    ⟨preS.blind, xrecv_of C h1 hk hK hcl, pre_of C h1 h2 hF⟩ rfl hn (by show ls.size = nL; rw [h3.1, C.n]) hst (lv_room hro) dg (by rw [hR]; exact hce)) h2 (fun q _ h => hF q h) hF (fun q _ h => hF q h)
    (fun E ce q9 u t H1 locs1 ht hvm _ hB hz1 hk1 hS hc9 hv9 hcl9 => ?_) (fun v u t H1 locs1 ht hvm hw hB hz1 hk1 hS => ?_)
  · obtain ⟨⟨k, hk2, hE⟩, ad', hag', hwd⟩ := hB
    rw [ht] at hwd
    subst hE
    obtain ⟨hpc, ⟨pre, x, suf, c1, c2, c3, c4, c5, c6, c7⟩, kk⟩ := kx k (z.2.1, ad', d.ce + mc', d.so + ms') hk2 hag' rfl rfl rfl
    refine vx_catch C.o pre x suf c1 c2 c3 c4 c5 c6 hc9 hv9 hcl9 ?_
    rw [c7]
    exact kk q9 H1 locs1 ls (hwd.weaken hF) hS h3
  · obtain ⟨r, hr, hv⟩ := hw
    obtain ⟨ad', hag', hwd⟩ := hB
    rw [ht] at hwd
    rw [hv]
    exact k' r (z.2.1, ad', d.ce + mc', d.so + ms') hr hag' rfl rfl rfl H1 locs1 ls (hwd.weaken hF) hS h3
end XLW

theorem mf_X8_addPart : mfV yX8_addPart cX8_addPart 3 (some .int) 1 := ⟨in_tg 1033 (by decide +kernel) rfl, in_tg 1034 (by decide +kernel) rfl, in_tg 34 (by decide +kernel) rfl, in_tg 1035 (by decide +kernel) rfl, by decide +kernel, by decide +kernel, by decide +kernel⟩
theorem lk_L_98 : Cond.methodLink RL 98 yX8_addPart ∈ lw_tg := in_tg 1032 (by decide +kernel) rfl
theorem mf_X8_dropPart : mfV yX8_dropPart cX8_dropPart 2 (some .int) 1 := ⟨in_tg 1049 (by decide +kernel) rfl, in_tg 1050 (by decide +kernel) rfl, in_tg 34 (by decide +kernel) rfl, in_tg 1051 (by decide +kernel) rfl, by decide +kernel, by decide +kernel, by decide +kernel⟩
theorem lk_L_103 : Cond.methodLink RL 103 yX8_dropPart ∈ lw_tg := in_tg 1048 (by decide +kernel) rfl
theorem mf_X8_movePart : mfV yX8_movePart cX8_movePart 3 (some .int) 2 := ⟨in_tg 1092 (by decide +kernel) rfl, in_tg 1093 (by decide +kernel) rfl, in_tg 34 (by decide +kernel) rfl, in_tg 1094 (by decide +kernel) rfl, by decide +kernel, by decide +kernel, by decide +kernel⟩
theorem lk_L_106 : Cond.methodLink RL 106 yX8_movePart ∈ lw_tg := in_tg 1091 (by decide +kernel) rfl
theorem mf_X8_setFlaw : mfV yX8_setFlaw cX8_setFlaw 5 (some .boolean) 3 := ⟨in_tg 1106 (by decide +kernel) rfl, in_tg 1107 (by decide +kernel) rfl, in_tg 34 (by decide +kernel) rfl, in_tg 1108 (by decide +kernel) rfl, by decide +kernel, by decide +kernel, by decide +kernel⟩
theorem lk_L_109 : Cond.methodLink RL 109 yX8_setFlaw ∈ lw_tg := in_tg 1105 (by decide +kernel) rfl
theorem mf_X8_setGap : mfV yX8_setGap cX8_setGap 3 (some .int) 1 := ⟨in_tg 1123 (by decide +kernel) rfl, in_tg 1124 (by decide +kernel) rfl, in_tg 34 (by decide +kernel) rfl, in_tg 1125 (by decide +kernel) rfl, by decide +kernel, by decide +kernel, by decide +kernel⟩
theorem lk_L_113 : Cond.methodLink RL 113 yX8_setGap ∈ lw_tg := in_tg 1122 (by decide +kernel) rfl
theorem mf_X8_turnSlab : mfV yX8_turnSlab cX8_turnSlab 1 (some .int) 0 := ⟨in_tg 1134 (by decide +kernel) rfl, in_tg 1135 (by decide +kernel) rfl, in_tg 34 (by decide +kernel) rfl, in_tg 1136 (by decide +kernel) rfl, by decide +kernel, by decide +kernel, by decide +kernel⟩
theorem lk_L_116 : Cond.methodLink RL 116 yX8_turnSlab ∈ lw_tg := in_tg 1133 (by decide +kernel) rfl
theorem mf_X8_cutRows : mfV yX8_cutRows cX8_cutRows 3 (some .int) 2 := ⟨in_tg 1147 (by decide +kernel) rfl, in_tg 1148 (by decide +kernel) rfl, in_tg 34 (by decide +kernel) rfl, in_tg 1149 (by decide +kernel) rfl, by decide +kernel, by decide +kernel, by decide +kernel⟩
theorem lk_L_119 : Cond.methodLink RL 119 yX8_cutRows ∈ lw_tg := in_tg 1146 (by decide +kernel) rfl
def wrW (f : Int → Int) (z : Rz) : Option (Int × Nat × Wd) := match z.1 with
  | .inl r => some (f r, z.2)
  | .inr k => if k = 1 then some (-99, z.2) else none
theorem wrW_l {f : Int → Int} {z : Rz} {r : Int} {res : Int × Nat × Wd} (hq : wrW f z = some res) (hr : z.1 = .inl r) : (f r, z.2) = res := by
  unfold wrW at hq; rw [hr] at hq; exact Option.some.inj hq
theorem wrW_r {f : Int → Int} {z : Rz} {k : Nat} {res : Int × Nat × Wd} (hq : wrW f z = some res) (hr : z.1 = .inr k) : k = 1 ∧ (-99, z.2) = res := by
  unfold wrW at hq; rw [hr] at hq
  have hq : (if k = 1 then some ((-99 : Int), z.2) else none) = some res := hq
  by_cases c : k = 1
  · rw [if_pos c] at hq; exact ⟨c, Option.some.inj hq⟩
  · rw [if_neg c] at hq; cases hq
def p_L_added (x1 : Int) (na : Nat) (w : Wd) : Option (Int × Nat × Wd) := (p_X8_addPart x1 na w).bind (wrW (fun r => r))
set_option maxRecDepth 100000 in
theorem c_L_added (l : Launch) (G : Gd) (hfl : l.stackTraces = false) {na : Nat} {ad : Nat → Nat} {x1 : Int} {w : Wd} {res : Int × Nat × Wd} (hq : p_L_added x1 na w = some res) : mL l yL_added cL_added 3 [(0, 5, 6, 101)] (rmv 7 161 12 834) G na ad [.ref (ad (1)), iV x1] w res 12 834 := by
  refine met_L [(0, .ref (ad (1))), (1, iV x1)] (by decide) (Nat.le_of_ble_eq_true rfl) rfl (fun g d C S hR => ?_)
  obtain ⟨rfl, hR0, rfl, hdm, rfl, hA, hT⟩ := S
  obtain ⟨z, hz, hq⟩ := Option.bind_eq_some_iff.mp hq
  refine x_aload_n C 0 dL_added_0 rfl ?_
  refine x_iload_n C 1 dL_added_1 rfl ?_
  refine x_lcallI (mc' := 12) (ms' := 834) (rm := rmv 6 139 12 834) (K := 9) (o := 1) (As := [iV x1]) (rest := []) (z := z) C hA hR0 mf_X8_addPart lk_L_98 rfl (isK_lit hdm rfl rfl) (by decide) ⟨rfl, rfl⟩ ⟨Nat.le_of_ble_eq_true rfl, Nat.le_of_ble_eq_true rfl⟩ rfl rfl (Nat.le_of_ble_eq_true rfl) ⟨by show 0 + 12 ≤ 12; omega, by show 0 + 834 ≤ 834; omega⟩ dL_added_2 (c_X8_addPart g.l g.G hfl hdm hz) (fun k d1 hk hag hn hc1 hc2 => ?_) (fun r d1 hr hag hn hc1 hc2 => ?_)
  · obtain ⟨rfl, hres⟩ := wrW_r hq hk
    refine ⟨6, cat1 C hT exL1 (by decide), fun q => ?_⟩
    refine x_astore_n C dL_added_6 (by decide) rfl ?_
    refine x_bipush (v := -99) C dL_added_7 (by decide +kernel) ?_
    exact hR d1 _ _ (-99) z.2.2 hag ⟨by rw [hc1]; show 0 + 12 ≤ 12; omega, by rw [hc2]; show 0 + 834 ≤ 834; omega⟩ (by rw [hn]; exact hres) dL_added_9
  · have hres := wrW_l hq hr
    exact hR d1 _ _ r z.2.2 hag ⟨by rw [hc1]; show 0 + 12 ≤ 12; omega, by rw [hc2]; show 0 + 834 ≤ 834; omega⟩ (by rw [hn]; exact hres) dL_added_5
def p_L_dropped (x1 : Int) (na : Nat) (w : Wd) : Option (Int × Nat × Wd) := (p_X8_dropPart x1 na w).bind (wrW (fun r => r))
set_option maxRecDepth 100000 in
theorem c_L_dropped (l : Launch) (G : Gd) (hfl : l.stackTraces = false) {na : Nat} {ad : Nat → Nat} {x1 : Int} {w : Wd} {res : Int × Nat × Wd} (hq : p_L_dropped x1 na w = some res) : mL l yL_dropped cL_dropped 3 [(0, 5, 6, 101)] (rmv 8 160 14 846) G na ad [.ref (ad (1)), iV x1] w res 14 846 := by
  refine met_L [(0, .ref (ad (1))), (1, iV x1)] (by decide) (Nat.le_of_ble_eq_true rfl) rfl (fun g d C S hR => ?_)
  obtain ⟨rfl, hR0, rfl, hdm, rfl, hA, hT⟩ := S
  obtain ⟨z, hz, hq⟩ := Option.bind_eq_some_iff.mp hq
  refine x_aload_n C 0 dL_dropped_0 rfl ?_
  refine x_iload_n C 1 dL_dropped_1 rfl ?_
  refine x_lcallI (mc' := 14) (ms' := 846) (rm := rmv 7 139 14 846) (K := 9) (o := 1) (As := [iV x1]) (rest := []) (z := z) C hA hR0 mf_X8_dropPart lk_L_103 rfl (isK_lit hdm rfl rfl) (by decide) ⟨rfl, rfl⟩ ⟨Nat.le_of_ble_eq_true rfl, Nat.le_of_ble_eq_true rfl⟩ rfl rfl (Nat.le_of_ble_eq_true rfl) ⟨by show 0 + 14 ≤ 14; omega, by show 0 + 846 ≤ 846; omega⟩ dL_dropped_2 (c_X8_dropPart g.l g.G hfl hdm hz) (fun k d1 hk hag hn hc1 hc2 => ?_) (fun r d1 hr hag hn hc1 hc2 => ?_)
  · obtain ⟨rfl, hres⟩ := wrW_r hq hk
    refine ⟨6, cat1 C hT exL1 (by decide), fun q => ?_⟩
    refine x_astore_n C dL_dropped_6 (by decide) rfl ?_
    refine x_bipush (v := -99) C dL_dropped_7 (by decide +kernel) ?_
    exact hR d1 _ _ (-99) z.2.2 hag ⟨by rw [hc1]; show 0 + 14 ≤ 14; omega, by rw [hc2]; show 0 + 846 ≤ 846; omega⟩ (by rw [hn]; exact hres) dL_dropped_9
  · have hres := wrW_l hq hr
    exact hR d1 _ _ r z.2.2 hag ⟨by rw [hc1]; show 0 + 14 ≤ 14; omega, by rw [hc2]; show 0 + 846 ≤ 846; omega⟩ (by rw [hn]; exact hres) dL_dropped_5
def p_L_moved (x1 : Int) (x2 : Int) (na : Nat) (w : Wd) : Option (Int × Nat × Wd) := (p_X8_movePart x1 x2 na w).bind (wrW (fun r => r))
set_option maxRecDepth 100000 in
theorem c_L_moved (l : Launch) (G : Gd) (hfl : l.stackTraces = false) {na : Nat} {ad : Nat → Nat} {x1 : Int} {x2 : Int} {w : Wd} {res : Int × Nat × Wd} (hq : p_L_moved x1 x2 na w = some res) : mL l yL_moved cL_moved 4 [(0, 6, 7, 101)] (rmv 8 161 15 852) G na ad [.ref (ad (1)), iV x1, iV x2] w res 15 852 := by
  refine met_L [(0, .ref (ad (1))), (1, iV x1), (2, iV x2)] (by decide) (Nat.le_of_ble_eq_true rfl) rfl (fun g d C S hR => ?_)
  obtain ⟨rfl, hR0, rfl, hdm, rfl, hA, hT⟩ := S
  obtain ⟨z, hz, hq⟩ := Option.bind_eq_some_iff.mp hq
  refine x_aload_n C 0 dL_moved_0 rfl ?_
  refine x_iload_n C 1 dL_moved_1 rfl ?_
  refine x_iload_n C 2 dL_moved_2 rfl ?_
  refine x_lcallI (mc' := 15) (ms' := 852) (rm := rmv 7 139 15 852) (K := 9) (o := 1) (As := [iV x1, iV x2]) (rest := []) (z := z) C hA hR0 mf_X8_movePart lk_L_106 rfl (isK_lit hdm rfl rfl) (by decide) ⟨rfl, rfl⟩ ⟨Nat.le_of_ble_eq_true rfl, Nat.le_of_ble_eq_true rfl⟩ rfl rfl (Nat.le_of_ble_eq_true rfl) ⟨by show 0 + 15 ≤ 15; omega, by show 0 + 852 ≤ 852; omega⟩ dL_moved_3 (c_X8_movePart g.l g.G hfl hdm hz) (fun k d1 hk hag hn hc1 hc2 => ?_) (fun r d1 hr hag hn hc1 hc2 => ?_)
  · obtain ⟨rfl, hres⟩ := wrW_r hq hk
    refine ⟨7, cat1 C hT exL1 (by decide), fun q => ?_⟩
    refine x_astore_n C dL_moved_7 (by decide) rfl ?_
    refine x_bipush (v := -99) C dL_moved_8 (by decide +kernel) ?_
    exact hR d1 _ _ (-99) z.2.2 hag ⟨by rw [hc1]; show 0 + 15 ≤ 15; omega, by rw [hc2]; show 0 + 852 ≤ 852; omega⟩ (by rw [hn]; exact hres) dL_moved_10
  · have hres := wrW_l hq hr
    exact hR d1 _ _ r z.2.2 hag ⟨by rw [hc1]; show 0 + 15 ≤ 15; omega, by rw [hc2]; show 0 + 852 ≤ 852; omega⟩ (by rw [hn]; exact hres) dL_moved_6
def p_L_flawed (x1 : Int) (x2 : Int) (x3 : Int) (na : Nat) (w : Wd) : Option (Int × Nat × Wd) := (p_X8_setFlaw x1 x2 x3 na w).bind (wrW (fun r => if eq32 r 0 = true then 0 else 1))
set_option maxRecDepth 100000 in
theorem c_L_flawed (l : Launch) (G : Gd) (hfl : l.stackTraces = false) {na : Nat} {ad : Nat → Nat} {x1 : Int} {x2 : Int} {x3 : Int} {w : Wd} {res : Int × Nat × Wd} (hq : p_L_flawed x1 x2 x3 na w = some res) : mL l yL_flawed cL_flawed 5 [(0, 15, 16, 101)] (rmv 9 163 15 852) G na ad [.ref (ad (1)), iV x1, iV x2, iV x3] w res 15 852 := by
  refine met_L [(0, .ref (ad (1))), (1, iV x1), (2, iV x2), (3, iV x3)] (by decide) (Nat.le_of_ble_eq_true rfl) rfl (fun g d C S hR => ?_)
  obtain ⟨rfl, hR0, rfl, hdm, rfl, hA, hT⟩ := S
  obtain ⟨z, hz, hq⟩ := Option.bind_eq_some_iff.mp hq
  refine x_aload_n C 0 dL_flawed_0 rfl ?_
  refine x_iload_n C 1 dL_flawed_1 rfl ?_
  refine x_iload_n C 2 dL_flawed_2 rfl ?_
  refine x_iload_n C 3 dL_flawed_3 rfl ?_
  refine x_lcallI (mc' := 15) (ms' := 852) (rm := rmv 8 139 15 852) (K := 9) (o := 1) (As := [iV x1, iV x2, iV x3]) (rest := []) (z := z) C hA hR0 mf_X8_setFlaw lk_L_109 rfl (isK_lit hdm rfl rfl) (by decide) ⟨rfl, rfl⟩ ⟨Nat.le_of_ble_eq_true rfl, Nat.le_of_ble_eq_true rfl⟩ rfl rfl (Nat.le_of_ble_eq_true rfl) ⟨by show 0 + 15 ≤ 15; omega, by show 0 + 852 ≤ 852; omega⟩ dL_flawed_4 (c_X8_setFlaw g.l g.G hfl hdm hz) (fun k d1 hk hag hn hc1 hc2 => ?_) (fun r d1 hr hag hn hc1 hc2 => ?_)
  · obtain ⟨rfl, hres⟩ := wrW_r hq hk
    refine ⟨16, cat1 C hT exL1 (by decide), fun q => ?_⟩
    refine x_astore C dL_flawed_16 (by decide) rfl ?_
    refine x_bipush (v := -99) C dL_flawed_18 (by decide +kernel) ?_
    exact hR d1 _ _ (-99) z.2.2 hag ⟨by rw [hc1]; show 0 + 15 ≤ 15; omega, by rw [hc2]; show 0 + 852 ≤ 852; omega⟩ (by rw [hn]; exact hres) dL_flawed_20
  · have hres := wrW_l hq hr
    refine x_if_eq (tgt := 14) (P1 := some ((0 : Int), z.2)) (P2 := some ((1 : Int), z.2)) (z := res) C dL_flawed_7 (by decide) (by rw [← hres]; split <;> rfl) (fun h => ?_) (fun h => ?_)
    · have hres := Option.some.inj h
      refine x_iconst C dL_flawed_14 ?_
      exact hR d1 _ _ 0 z.2.2 hag ⟨by rw [hc1]; show 0 + 15 ≤ 15; omega, by rw [hc2]; show 0 + 852 ≤ 852; omega⟩ (by rw [hn]; exact hres) dL_flawed_15
    · have hres := Option.some.inj h
      refine x_iconst C dL_flawed_10 ?_
      refine x_goto (tgt := 15) C dL_flawed_11 (by decide) ?_
      exact hR d1 _ _ 1 z.2.2 hag ⟨by rw [hc1]; show 0 + 15 ≤ 15; omega, by rw [hc2]; show 0 + 852 ≤ 852; omega⟩ (by rw [hn]; exact hres) dL_flawed_15
def p_L_spaced (x1 : Int) (na : Nat) (w : Wd) : Option (Int × Nat × Wd) := (p_X8_setGap x1 na w).bind (wrW (fun r => r))
set_option maxRecDepth 100000 in
theorem c_L_spaced (l : Launch) (G : Gd) (hfl : l.stackTraces = false) {na : Nat} {ad : Nat → Nat} {x1 : Int} {w : Wd} {res : Int × Nat × Wd} (hq : p_L_spaced x1 na w = some res) : mL l yL_spaced cL_spaced 3 [(0, 5, 6, 101)] (rmv 8 161 14 846) G na ad [.ref (ad (1)), iV x1] w res 14 846 := by
  refine met_L [(0, .ref (ad (1))), (1, iV x1)] (by decide) (Nat.le_of_ble_eq_true rfl) rfl (fun g d C S hR => ?_)
  obtain ⟨rfl, hR0, rfl, hdm, rfl, hA, hT⟩ := S
  obtain ⟨z, hz, hq⟩ := Option.bind_eq_some_iff.mp hq
  refine x_aload_n C 0 dL_spaced_0 rfl ?_
  refine x_iload_n C 1 dL_spaced_1 rfl ?_
  refine x_lcallI (mc' := 14) (ms' := 846) (rm := rmv 7 139 14 846) (K := 9) (o := 1) (As := [iV x1]) (rest := []) (z := z) C hA hR0 mf_X8_setGap lk_L_113 rfl (isK_lit hdm rfl rfl) (by decide) ⟨rfl, rfl⟩ ⟨Nat.le_of_ble_eq_true rfl, Nat.le_of_ble_eq_true rfl⟩ rfl rfl (Nat.le_of_ble_eq_true rfl) ⟨by show 0 + 14 ≤ 14; omega, by show 0 + 846 ≤ 846; omega⟩ dL_spaced_2 (c_X8_setGap g.l g.G hfl hdm hz) (fun k d1 hk hag hn hc1 hc2 => ?_) (fun r d1 hr hag hn hc1 hc2 => ?_)
  · obtain ⟨rfl, hres⟩ := wrW_r hq hk
    refine ⟨6, cat1 C hT exL1 (by decide), fun q => ?_⟩
    refine x_astore_n C dL_spaced_6 (by decide) rfl ?_
    refine x_bipush (v := -99) C dL_spaced_7 (by decide +kernel) ?_
    exact hR d1 _ _ (-99) z.2.2 hag ⟨by rw [hc1]; show 0 + 14 ≤ 14; omega, by rw [hc2]; show 0 + 846 ≤ 846; omega⟩ (by rw [hn]; exact hres) dL_spaced_9
  · have hres := wrW_l hq hr
    exact hR d1 _ _ r z.2.2 hag ⟨by rw [hc1]; show 0 + 14 ≤ 14; omega, by rw [hc2]; show 0 + 846 ≤ 846; omega⟩ (by rw [hn]; exact hres) dL_spaced_5
def p_L_turned  (na : Nat) (w : Wd) : Option (Int × Nat × Wd) := (p_X8_turnSlab  na w).bind (wrW (fun r => r))
set_option maxRecDepth 100000 in
theorem c_L_turned (l : Launch) (G : Gd) (hfl : l.stackTraces = false) {na : Nat} {ad : Nat → Nat}  {w : Wd} {res : Int × Nat × Wd} (hq : p_L_turned  na w = some res) : mL l yL_turned cL_turned 2 [(0, 4, 5, 101)] (rmv 7 159 12 834) G na ad [.ref (ad (1))] w res 12 834 := by
  refine met_L [(0, .ref (ad (1)))] (by decide) (Nat.le_of_ble_eq_true rfl) rfl (fun g d C S hR => ?_)
  obtain ⟨rfl, hR0, rfl, hdm, rfl, hA, hT⟩ := S
  obtain ⟨z, hz, hq⟩ := Option.bind_eq_some_iff.mp hq
  refine x_aload_n C 0 dL_turned_0 rfl ?_
  refine x_lcallI (mc' := 12) (ms' := 834) (rm := rmv 6 139 12 834) (K := 9) (o := 1) (As := []) (rest := []) (z := z) C hA hR0 mf_X8_turnSlab lk_L_116 rfl (isK_lit hdm rfl rfl) (by decide) ⟨rfl, rfl⟩ ⟨Nat.le_of_ble_eq_true rfl, Nat.le_of_ble_eq_true rfl⟩ rfl rfl (Nat.le_of_ble_eq_true rfl) ⟨by show 0 + 12 ≤ 12; omega, by show 0 + 834 ≤ 834; omega⟩ dL_turned_1 (c_X8_turnSlab g.l g.G hfl hdm hz) (fun k d1 hk hag hn hc1 hc2 => ?_) (fun r d1 hr hag hn hc1 hc2 => ?_)
  · obtain ⟨rfl, hres⟩ := wrW_r hq hk
    refine ⟨5, cat1 C hT exL1 (by decide), fun q => ?_⟩
    refine x_astore_n C dL_turned_5 (by decide) rfl ?_
    refine x_bipush (v := -99) C dL_turned_6 (by decide +kernel) ?_
    exact hR d1 _ _ (-99) z.2.2 hag ⟨by rw [hc1]; show 0 + 12 ≤ 12; omega, by rw [hc2]; show 0 + 834 ≤ 834; omega⟩ (by rw [hn]; exact hres) dL_turned_8
  · have hres := wrW_l hq hr
    exact hR d1 _ _ r z.2.2 hag ⟨by rw [hc1]; show 0 + 12 ≤ 12; omega, by rw [hc2]; show 0 + 834 ≤ 834; omega⟩ (by rw [hn]; exact hres) dL_turned_4
def p_L_cut (x1 : Int) (x2 : Int) (na : Nat) (w : Wd) : Option (Int × Nat × Wd) := (p_X8_cutRows x1 x2 na w).bind (wrW (fun r => r))
set_option maxRecDepth 100000 in
theorem c_L_cut (l : Launch) (G : Gd) (hfl : l.stackTraces = false) {na : Nat} {ad : Nat → Nat} {x1 : Int} {x2 : Int} {w : Wd} {res : Int × Nat × Wd} (hq : p_L_cut x1 x2 na w = some res) : mL l yL_cut cL_cut 4 [(0, 6, 7, 101)] (rmv 8 161 13 840) G na ad [.ref (ad (1)), iV x1, iV x2] w res 13 840 := by
  refine met_L [(0, .ref (ad (1))), (1, iV x1), (2, iV x2)] (by decide) (Nat.le_of_ble_eq_true rfl) rfl (fun g d C S hR => ?_)
  obtain ⟨rfl, hR0, rfl, hdm, rfl, hA, hT⟩ := S
  obtain ⟨z, hz, hq⟩ := Option.bind_eq_some_iff.mp hq
  refine x_aload_n C 0 dL_cut_0 rfl ?_
  refine x_iload_n C 1 dL_cut_1 rfl ?_
  refine x_iload_n C 2 dL_cut_2 rfl ?_
  refine x_lcallI (mc' := 13) (ms' := 840) (rm := rmv 7 139 13 840) (K := 9) (o := 1) (As := [iV x1, iV x2]) (rest := []) (z := z) C hA hR0 mf_X8_cutRows lk_L_119 rfl (isK_lit hdm rfl rfl) (by decide) ⟨rfl, rfl⟩ ⟨Nat.le_of_ble_eq_true rfl, Nat.le_of_ble_eq_true rfl⟩ rfl rfl (Nat.le_of_ble_eq_true rfl) ⟨by show 0 + 13 ≤ 13; omega, by show 0 + 840 ≤ 840; omega⟩ dL_cut_3 (c_X8_cutRows g.l g.G hfl hdm hz) (fun k d1 hk hag hn hc1 hc2 => ?_) (fun r d1 hr hag hn hc1 hc2 => ?_)
  · obtain ⟨rfl, hres⟩ := wrW_r hq hk
    refine ⟨7, cat1 C hT exL1 (by decide), fun q => ?_⟩
    refine x_astore_n C dL_cut_7 (by decide) rfl ?_
    refine x_bipush (v := -99) C dL_cut_8 (by decide +kernel) ?_
    exact hR d1 _ _ (-99) z.2.2 hag ⟨by rw [hc1]; show 0 + 13 ≤ 13; omega, by rw [hc2]; show 0 + 840 ≤ 840; omega⟩ (by rw [hn]; exact hres) dL_cut_10
  · have hres := wrW_l hq hr
    exact hR d1 _ _ r z.2.2 hag ⟨by rw [hc1]; show 0 + 13 ≤ 13; omega, by rw [hc2]; show 0 + 840 ≤ 840; omega⟩ (by rw [hn]; exact hres) dL_cut_6
