/-! ===== what is being made: a list of cells ===== -/
def hL (g : Cx) (ws : va_W) : Heap → Prop := fun H => va_P g.G.1 vwCl ws H ∧ va_D g.A ws
def preI (G : Gd) (ws : va_W) (sz : Nat) (b : Bool) (U : State) : Prop :=
  U.heap.size = sz ∧ va_P G.1 vwCl ws U.heap ∧ va_D (fun _ => True) ws ∧ va_K G.1 vwCl (tysG G) U ∧ (∀ q ∈ nw_tbl, va_Nw q U) ∧ ES G (va_A ws sz) U U.heap ∧ (b = true → va_AO RX6 U)
def mN (l : Launch) (y : MethodName) (cc : ByteArray) (nL : Nat) (rm : Room) (G : Gd) (ci : Nat) (fs0 As : List Value) (b : Bool) (post : Nat → (Nat → Nat) → va_W) (mc ms : Nat) : Prop :=
  ∀ h0 sz : Nat, Met l y (WSx y cc nL none) rm (va_Pc (.ref h0 :: As) (preI G [(h0, .inr (ci, fs0))] sz b)) (va_Qv (fun _ : Nat → Nat => True) (fun qs t => va_P G.1 vwCl (post h0 qs) t.heap ∧ va_D (va_A [(h0, .inr (ci, fs0))] sz) (post h0 qs)) (va_A [(h0, .inr (ci, fs0))] sz)) mc ms (va_A [(h0, .inr (ci, fs0))] sz)
abbrev dz (a b : Nat) : Dl := (0, fun _ => 0, a, b)
abbrev nx (d : Dl) (a b : Nat) : Dl := (d.na, d.ad, d.ce + a, d.so + b)
def stI (g : Cx) (l : Launch) (rm : Room) (G : Gd) (b : Bool) : Prop := g.l = l ∧ g.R = rm ∧ g.G = G ∧ (∀ q : Nat, g.s.heap.size ≤ q → g.A q) ∧ g.meth.name = "<init>" ∧ (b = true → va_AO RX6 g.s)
def rtN (g : Cx) (cc : ByteArray) (mc ms : Nat) (post : Nat → (Nat → Nat) → va_W) (h0 : Nat) : Prop :=
  ∀ (d : Dl) (pc : Nat) (lv : List (Nat × Value)) (ws : va_W), (∃ qs : Nat → Nat, post h0 qs = ws) → d.ce ≤ mc → d.so ≤ ms → decode cc pc = .ok (.return_, 1) → XG g d (hL g ws) lv [] pc
theorem preI.blind {G : Gd} {ws : va_W} {sz : Nat} {b : Bool} {vs : List Value} : FrameBlind (va_Pc vs (preI G ws sz b)) := by
  rintro a U g mk ⟨h1, h2, h3, h4, h5, h6, h7, h8⟩
  exact ⟨h1, h2, h3, h4, va_K.moved (u := U) (U := U.calling g mk a) (Vm.Alike.refl U.vm) h5, nw_same (u := U) (U := U.calling g mk a) rfl h6, ES.same (u := U) (U := U.calling g mk a) h7 rfl, fun hb => va_AO.moved (u := U) (U := U.calling g mk a) (Vm.Alike.refl U.vm) (h8 hb)⟩
theorem met_N {l : Launch} {y : MethodName} {cc : ByteArray} {nL : Nat} {rm : Room} {G : Gd} {ci : Nat} {fs0 As : List Value} {b : Bool} {post : Nat → (Nat → Nat) → va_W} {mc ms : Nat} (lv0 : Nat → List (Nat × Value)) (hy : plainName y.cls = true) (hyn : y.name = "<init>") (hlen : ∀ h0, (lg_sl (.ref h0 :: As)).length ≤ nL) (hlv : ∀ h0, lv_args 0 (.ref h0 :: As) = lv0 h0)
    (body : ∀ (h0 : Nat) (g : Cx), CX g cc nL none y.cls → stI g l rm G b → rtN g cc mc ms post h0 → XG g (dz 0 0) (hL g [(h0, .inr (ci, fs0))]) (lv0 h0) [] 0) :
    mN l y cc nL rm G ci fs0 As b post mc ms := by
  intro h0 sz
  refine Met.ofW (cc := cc) (maxL := nL) (ret := none) hy rfl ?_
  intro p e s m args below meth c s₁ B hml hv
  obtain ⟨rfl, hsz, hP, hD0, hK, hN, hE, hAO⟩ := hv
  have hts := atoms_spec (ws := WSx y cc nL none) B.pre
  have hown : s.vm.findClass y.cls = some m.cls := findClass_of_methodNamed B.named
  have hin : meth.name = "<init>" := hyn ▸ (name_of_methodNamed B.named B.method).1
  have hl := lv_entry (.ref h0 :: As) (n := nL) (hlen h0)
  rw [lg_entry_eq]
  rw [hlv] at hl
  subst hsz
  have C : CX (p, l, e, rm, s, m, (Value.ref h0 :: As).toArray, below, meth, c, nL, MQ below (va_Qv (fun _ : Nat → Nat => True) (fun qs t => va_P G.1 vwCl (post h0 qs) t.heap ∧ va_D (va_A [(h0, .inr (ci, fs0))] s.heap.size) (post h0 qs)) (va_A [(h0, .inr (ci, fs0))] s.heap.size)) (Value.ref h0 :: As).toArray s mc ms (va_A [(h0, .inr (ci, fs0))] s.heap.size), G, va_A [(h0, .inr (ci, fs0))] s.heap.size, 0) cc nL none y.cls := ⟨B.exec, B.bytes, hml, rfl, B.returns, B.notSynchronized, hown, fun q hq => hts q (List.mem_cons_of_mem _ hq), hN, hK, hE⟩
  refine body h0 _ C ⟨rfl, rfl, rfl, fun q hq => Or.inr hq, hin, hAO⟩ ?_ s.heap [] _ ⟨hP, hD0.self⟩ va_S.rf hl
  rintro d pc lv ws ⟨qs, rfl⟩ hmc hms dg H locs ls h1 h2 h3
  refine W.widen hmc hms ?_
  exact W.vret C.x C.b C.r (fun t ht hW => ⟨⟨qs, rfl, trivial, by rw [ht]; exact h1.1, h1.2⟩, h2.F ht⟩) h2.2.2 dg C.k
theorem joinL {A0 : Nat → Prop} {D : va_G} {cl : List vw_C} {ws w1 : va_W} {x : Nat × va_E} {H H1 : Heap} (hP : va_P D cl (ws ++ [x]) H) (hD : va_D A0 (ws ++ [x]))
    (hk : ∀ q : Nat, q < H.size → ¬ va_A [x] H.size q → H1[q]? = H[q]?) (hF : ∀ q, va_A [x] H.size q → A0 q) (hP1 : va_P D cl w1 H1) (hD1 : va_D (va_A [x] H.size) w1) : va_P D cl (ws ++ w1) H1 ∧ va_D A0 (ws ++ w1) := by
  have hl : ∀ (k : Nat) (q : Nat × va_E), ws[k]? = some q → (ws ++ [x])[k]? = some q := fun k q hq => by rw [List.getElem?_append_left (List.getElem?_eq_some_iff.mp hq).1]; exact hq
  have hx : (ws ++ [x])[ws.length]? = some x := by simp
  have hno : ∀ (k : Nat) (q : Nat × va_E), ws[k]? = some q → q.1 < H.size ∧ ¬ va_A [x] H.size q.1 := by
    intro k q hq
    have hlt := (hP k q (hl k q hq)).lt
    refine ⟨hlt, ?_⟩
    rintro (⟨j, e, hj⟩ | h)
    · have hj0 : j = 0 := by have := (List.getElem?_eq_some_iff.mp hj).1; simp at this; exact this
      subst hj0
      have hxe : x = (q.1, e) := Option.some.inj hj
      have := hD.1 k ws.length q x (hl k q hq) hx (by rw [hxe])
      have h2 := (List.getElem?_eq_some_iff.mp hq).1
      omega
    · omega
  have hDl : va_D A0 ws := ⟨fun i j p q hi hj h => hD.1 i j p q (hl i p hi) (hl j q hj) h, fun k q hq => hD.2 k q (hl k q hq)⟩
  refine ⟨va_P.app (fun k q hq => (hP k q (hl k q hq)).kept (hk q.1 (hno k q hq).1 (hno k q hq).2)) hP1, hDl.app (hD1.weaken fun _ q _ h => hF q.1 h) fun i j p q hi hj h => ?_⟩
  exact (hno i p hi).2 (h ▸ hD1.2 j q hj)
theorem ow1 : Cond.instanceMethod objectInit ∈ lw_tg := by decide +kernel
theorem ow2 : Cond.code objectInit ⟨#[0xb1]⟩ 1 none ∈ lw_tg := by decide +kernel
def mfI (y : MethodName) (cc : ByteArray) (nL : Nat) (n : Nat) : Prop :=
  Cond.instanceMethod y ∈ lw_tg ∧ Cond.initialized y.cls ∈ lw_tg ∧ Cond.code y cc nL none ∈ lw_tg ∧ y.cls ≠ "java/lang/invoke/MethodHandle" ∧ y.cls ≠ "java/lang/invoke/VarHandle" ∧ (parseMethodDescriptor y.desc).map (fun d => d.parameters.length) = some n ∧ y.name = "<init>"
def lkI (own : String) (index : Nat) (y : MethodName) : Prop := Cond.methodLink own index y ∈ lw_tg ∨ ∃ host, Cond.methodLinkNest own index y host ∈ nw_tbl
section XL
variable {g : Cx} {d d1 : Dl} {cc : ByteArray} {nL : Nat} {ret : Option FieldType} {own : String} {hp : Heap → Prop} {ws : va_W} {lv : List (Nat × Value)} {st : List Value} {pc : Nat}
theorem x_nobj (C : CX g cc nL ret own) {rmO : Room} (hR : g.R = rmO) {idx a : Nat} (hrr : 1 ≤ rmO.frames ∧ (st.map fun v => v.category).sum + 12 ≤ rmO.locals) (hlk : Cond.methodLink own idx objectInit ∈ lw_tg) (dg : decode cc pc = .ok (.invokespecial idx, 3)) (k : XG g d hp lv st (pc + 3)) : XG g d hp lv (.ref a :: st) pc := by
  intro H locs ls h1 h2 h3
  exact W.objInit C.x C.b C.o (C.t _ hlk) (C.t _ ow1) (C.t _ ow2) rfl (by rw [C.ml]; show ls.size = nL; rw [h3.1, C.n]) rfl dg (by rw [hR]; exact hrr.1) (by rw [hR]; show 2 * 0 + _ + 12 ≤ _; omega) (k H locs ls h1 h2 h3)
theorem x_nput (C : CX g cc nL ret own) {h0 ci k index : Nat} {Cn n dsc : String} {T : u_T} {ty : Nat → FieldType} {fs fs' : List Value} {v : Value} (hc : clsW ci Cn T ty) (hk : k < nf ci) (hT : (T k).1 = Cn ∧ (T k).2.1 = n ∧ (T k).2.2.1 = dsc ∧ (T k).2.2.2 = false) (hf : fldW own Cn n dsc index) (hn : narrow (ty k) v = v ∧ fits (ty k) v = true) (hl : k < fs.length) (hfs : fs.set k v = fs') (dg : decode cc pc = .ok (.putfield index, 3))
    (k' : XG g d (hL g ((h0, .inr (ci, fs')) :: ws)) lv st (pc + 3)) : XG g d (hL g ((h0, .inr (ci, fs)) :: ws)) lv (v :: .ref h0 :: st) pc := by
  intro H locs ls h1 h2 h3
  obtain ⟨hc1, hc2, hc3, hc4⟩ := hc
  obtain ⟨t1, t2, t3, t4⟩ := hT
  subst t2; subst t3; subst hfs
  rcases hf with hf | ⟨host, hf⟩
  · exact va_put C.x C.b C.t hc2 ty hc3 hc4 C.o C.K h1.1 h1.2 h2 0 rfl hc1 k hk (C.t _ hf) (fun y hy => by rw [← t1]; exact hy) t4 (hc3 k hk) hn.1 hn.2 hl dg (fun H1 locs1 a1 a2 a3 => k' H1 locs1 ls ⟨a1, a2⟩ a3 h3)
  · exact va_putN C.x C.b C.t hc2 ty hc3 hc4 C.o C.K h1.1 h1.2 h2 0 rfl hc1 k hk (va_Nw.use rfl (C.nw _ hf)) (fun y hy => by rw [← t1]; exact hy) t4 (hc3 k hk) hn.1 hn.2 hl dg (fun H1 locs1 a1 a2 a3 => k' H1 locs1 ls ⟨a1, a2⟩ a3 h3)
theorem x_nputF (C : CX g cc nL ret own) (hin : g.meth.name = "<init>") {h0 ci k index : Nat} {Cn n dsc : String} {T : u_T} {ty : Nat → FieldType} {fs fs' : List Value} {v : Value} (hc : clsW ci Cn T ty) (hk : k < nf ci) (hT : (T k).1 = Cn ∧ (T k).2.1 = n ∧ (T k).2.2.1 = dsc ∧ (T k).2.2.2 = true) (hCn : Cn = own) (hf : fldW own Cn n dsc index) (hfl : Cond.fieldLink own index Cn n dsc ∈ lw_tg) (hn : narrow (ty k) v = v ∧ fits (ty k) v = true) (hl : k < fs.length) (hfs : fs.set k v = fs') (dg : decode cc pc = .ok (.putfield index, 3))
    (k' : XG g d (hL g ((h0, .inr (ci, fs')) :: ws)) lv st (pc + 3)) : XG g d (hL g ((h0, .inr (ci, fs)) :: ws)) lv (v :: .ref h0 :: st) pc := by
  intro H locs ls h1 h2 h3
  obtain ⟨hc1, hc2, hc3, hc4⟩ := hc
  obtain ⟨t1, t2, t3, t4⟩ := hT
  subst t2; subst t3; subst hfs
  exact va_putF C.x C.b C.t hc2 ty hc3 hc4 C.o C.K h1.1 h1.2 h2 0 rfl hc1 k hk (C.t _ hfl) (fun y hy => by rw [← t1]; exact hy) t4 hin (t1.trans hCn) (hc3 k hk) hn.1 hn.2 hl dg (fun H1 locs1 a1 a2 a3 => k' H1 locs1 ls ⟨a1, a2⟩ a3 h3)
theorem x_nget (C : CX g cc nL ret own) {h0 ci k index : Nat} {Cn n dsc : String} {T : u_T} {ty : Nat → FieldType} {fs : List Value} {v : Value} (hc : clsW ci Cn T ty) (hk : k < nf ci) (hT : (T k).1 = Cn ∧ (T k).2.1 = n ∧ (T k).2.2.1 = dsc) (hfl : Cond.fieldLink own index Cn n dsc ∈ lw_tg) (hv : fs[k]? = some v) (dg : decode cc pc = .ok (.getfield index, 3))
    (k' : XG g d (hL g ((h0, .inr (ci, fs)) :: ws)) lv (v :: st) (pc + 3)) : XG g d (hL g ((h0, .inr (ci, fs)) :: ws)) lv (.ref h0 :: st) pc := by
  intro H locs ls h1 h2 h3
  obtain ⟨hc1, hc2, hc3, hc4⟩ := hc
  obtain ⟨t1, t2, t3⟩ := hT
  subst t2; subst t3
  exact va_get C.x C.b C.t hc2 C.o C.K h1.1 0 rfl hc1 k hk (C.t _ hfl) (fun y hy => by rw [← t1]; exact hy) hv dg (k' H locs ls h1 h2 h3)
theorem x_nnew (C : CX g cc nL ret own) {rmO : Room} (hA : ∀ q : Nat, g.s.heap.size ≤ q → g.A q) (hR : g.R = rmO) {ci index : Nat} {Cn : String} {T : u_T} {ty : Nat → FieldType} {fs : List Value} (hc : clsW ci Cn T ty) (hw : Cond.classLink own index Cn ∈ lw_tg ∧ Cond.instantiable Cn (nf ci) ∈ lw_tg ∧ Cond.initialized Cn ∈ lw_tg) (hfs : ∀ j, j < nf ci → defaultValue (ty j) = vp_V fs j) (hce : d.ce + 1 ≤ rmO.cells ∧ d.so + nf ci ≤ rmO.slots) (hd : nx d 1 (nf ci) = d1) (dg : decode cc pc = .ok (.new index, 3))
    (k' : ∀ q : Nat, XG g d1 (hL g (ws ++ [(q, .inr (ci, fs))])) lv (.ref q :: st) (pc + 3)) : XG g d (hL g ws) lv st pc := by
  intro H locs ls h1 h2 h3
  obtain ⟨hc1, hc2, hc3, hc4⟩ := hc
  subst hd
  exact va_new C.x C.b C.t hc2 ty hc3 C.o (C.t _ hw.1) (C.t _ hw.2.1) (C.t _ hw.2.2) C.K h1.1 h1.2 h2 hA hc1 hfs (by rw [hR]; exact hce.1) (by rw [hR]; exact hce.2) dg (fun q H1 a1 a2 a3 => k' q H1 locs ls ⟨a1, a2⟩ a3 h3)
theorem cy_eq (C : CX g cc nL ret own) {i : Nat} {ty : FieldType} {cA : ClassId} (hi : (tysG g.G)[i]? = some (g.G.cy i, ty)) (hRA : ∀ c1 c2, va_RA g.s c1 ty → va_RA g.s c2 ty → c1 = c2) (hK : va_K g.G.1 vwCl (tysG g.G ++ [(cA, ty)]) g.s) : cA = g.G.cy i :=
  hRA _ _ (hK.2 5 (cA, ty) rfl).2 (C.K.2 i _ hi).2
theorem x_nnewa (C : CX g cc nL ret own) {rmO : Room} (hA : ∀ q : Nat, g.s.heap.size ≤ q → g.A q) (hR : g.R = rmO) {i n : Nat} {at' : ArrayType} {ty : FieldType} (hi : (i = 0 ∧ at' = .int ∧ ty = .int) ∨ (i = 1 ∧ at' = .byte ∧ ty = .byte)) (hw : Cond.arrayClass ty ∈ lw_tg) (hn : n < 100000) (hce : d.ce + 1 ≤ rmO.cells ∧ d.so + n ≤ rmO.slots) (hd : nx d 1 n = d1) (dg : decode cc pc = .ok (.newarray at', 2))
    (k' : ∀ q : Nat, XG g d1 (hL g (ws ++ [(q, .inl (g.G.cy i, (n, .inl fun _ => 0)))])) lv (.ref q :: st) (pc + 2)) : XG g d (hL g ws) lv (iV n :: st) pc := by
  intro H locs ls h1 h2 h3
  subst hd
  have e0 : (Int32.ofInt (n : Int)).toInt = n := by rw [w32_toInt, w32_id] <;> omega
  have e1 : ¬ Int32.ofInt (n : Int) < 0 := by rw [Int32.lt_iff_toInt_lt, e0]; simp
  have e2 : (Int32.ofInt (n : Int)).toNatClampNeg = n := by unfold Int32.toNatClampNeg; rw [e0]; rfl
  rcases hi with ⟨rfl, rfl, rfl⟩ | ⟨rfl, rfl, rfl⟩
  · refine va_newa (atype := .int) (ty := .int) (a0 := (n, .inl fun _ => 0)) C.x C.b (C.t _ hw) rfl C.K h1.1 h1.2 h2 hA (fun cA => rfl) e1 e2 (by show n * 4 ≤ _; omega) (by rw [hR]; exact hce.1) (by rw [hR]; exact hce.2) dg (fun q cA H1 aK a1 a2 a3 => ?_)
    rw [cy_eq C (i := 0) rfl (fun c1 c2 x1 x2 => Option.some.inj (x1.symm.trans x2)) aK] at a1 a2
    exact k' q H1 locs ls ⟨a1, a2⟩ a3 h3
  · refine va_newa (atype := .byte) (ty := .byte) (a0 := (n, .inl fun _ => 0)) C.x C.b (C.t _ hw) rfl C.K h1.1 h1.2 h2 hA (fun cA => rfl) e1 e2 (by show n * 1 ≤ _; omega) (by rw [hR]; exact hce.1) (by rw [hR]; exact hce.2) dg (fun q cA H1 aK a1 a2 a3 => ?_)
    rw [cy_eq C (i := 1) rfl (fun c1 c2 x1 x2 => Option.some.inj (x1.symm.trans x2)) aK] at a1 a2
    exact k' q H1 locs ls ⟨a1, a2⟩ a3 h3
theorem x_nanew (C : CX g cc nL ret own) {rmO : Room} (hA : ∀ q : Nat, g.s.heap.size ≤ q → g.A q) (hR : g.R = rmO) {n index : Nat} (hw : Cond.classLink own index RX6 ∈ lw_tg) (hAO : va_AO RX6 g.s) (hn : n < 100000) (hce : d.ce + 1 ≤ rmO.cells ∧ d.so + n ≤ rmO.slots) (hd : nx d 1 n = d1) (dg : decode cc pc = .ok (.anewarray index, 3))
    (k' : ∀ q : Nat, XG g d1 (hL g (ws ++ [(q, .inl (g.G.cy 3, (n, .inr (.inr (.inr (.inr fun _ => none))))))])) lv (.ref q :: st) (pc + 3)) : XG g d (hL g ws) lv (iV n :: st) pc := by
  intro H locs ls h1 h2 h3
  subst hd
  have e0 : (Int32.ofInt (n : Int)).toInt = n := by rw [w32_toInt, w32_id] <;> omega
  have e1 : ¬ Int32.ofInt (n : Int) < 0 := by rw [Int32.lt_iff_toInt_lt, e0]; simp
  have e2 : (Int32.ofInt (n : Int)).toNatClampNeg = n := by unfold Int32.toNatClampNeg; rw [e0]; rfl
  refine va_newq C.x C.b C.o (C.t _ hw) hAO C.K h1.1 h1.2 h2 hA e1 e2 (by omega) (by rw [hR]; exact hce.1) (by rw [hR]; exact hce.2) dg (fun q cA H1 aK a1 a2 a3 => ?_)
  rw [cy_eq C (i := 3) rfl (fun c1 c2 x1 x2 => by obtain ⟨_, _, _, _, _, y1⟩ := x1; obtain ⟨_, _, _, _, _, y2⟩ := x2; exact Option.some.inj (y1.symm.trans y2)) aK] at a1 a2
  exact k' q H1 locs ls ⟨a1, a2⟩ a3 h3
theorem x_ncall (C : CX g cc nL ret own) {rmO rm : Room} (hA : ∀ q : Nat, g.s.heap.size ≤ q → g.A q) (hR : g.R = rmO) {y : MethodName} {cc' : ByteArray} {nL' n index ci q mc' ms' : Nat} {fs0 As rest stk : List Value} {b : Bool} {post : Nat → (Nat → Nat) → va_W}
    (hf : mfI y cc' nL' n) (hlk : lkI own index y) (hrm : rm.cells = mc' ∧ rm.slots = ms') (hrr : rm.frames + 1 ≤ rmO.frames ∧ 8 + (nL' + 11) + rm.locals ≤ rmO.locals) (hM : mN g.l y cc' nL' rm g.G ci fs0 As b post mc' ms') (hAO : b = true → va_AO RX6 g.s)
    (hst : stk = As.reverse ++ .ref q :: rest) (hn : As.length = n) (hro : (rest.map fun v => v.category).sum ≤ 8) (hce : d.ce + mc' ≤ rmO.cells ∧ d.so + ms' ≤ rmO.slots) (hd : nx d mc' ms' = d1) (dg : decode cc pc = .ok (.invokespecial index, 3))
    (k' : ∀ qs : Nat → Nat, XG g d1 (hL g (ws ++ post q qs)) lv rest (pc + 3)) : XG g d (hL g (ws ++ [(q, .inr (ci, fs0))])) lv stk pc := by
  intro H locs ls h1 h2 h3
  subst hd
  obtain ⟨f1, f3, f4, f5, f6, f7, f8⟩ := hf
  have hx : (ws ++ [(q, .inr (ci, fs0))])[ws.length]? = some (q, (.inr (ci, fs0) : va_E)) := by simp
  have hF : ∀ z, va_A [(q, .inr (ci, fs0))] H.size z → g.A z := by
    rintro z (⟨k, e, hk⟩ | hz)
    · have hk0 : k = 0 := by have := (List.getElem?_eq_some_iff.mp hk).1; simp at this; exact this
      subst hk0
      cases hk
      exact h1.2.2 _ _ hx
    · exact hA z (Nat.le_trans h2.1 hz)
  have hPS : PreS g.s H (va_Pc (.ref q :: As) (preI g.G [(q, .inr (ci, fs0))] H.size b)) (.ref q :: As) := by
    refine ⟨preI.blind, fun U hU hW => ⟨rfl, by rw [hU], ?_, ?_, va_K.moved hW.alike C.K, nw_moved hW C.nw, by rw [hU]; exact C.E.go hW h2.2.1 hF, fun hb => va_AO.moved hW.alike (hAO hb)⟩⟩
    · rw [hU]
      intro k x hk
      have hk0 : k = 0 := by have := (List.getElem?_eq_some_iff.mp hk).1; simp at this; exact this
      subst hk0
      cases hk
      exact h1.1 _ _ hx
    · refine ⟨fun i j p r hi hj _ => ?_, fun _ _ _ => trivial⟩
      have a1 := (List.getElem?_eq_some_iff.mp hi).1
      have a2 := (List.getElem?_eq_some_iff.mp hj).1
      simp at a1 a2
      omega
  have hk' : ∀ (u : Nat → Nat) (t : State) (H1 : Heap) (locs1 : List Loc), t.heap = H1 → va_P g.G.1 vwCl (post q u) t.heap ∧ va_D (va_A [(q, .inr (ci, fs0))] H.size) (post q u) → (∀ z : Nat, z < H.size → ¬ va_A [(q, .inr (ci, fs0))] H.size z → H1[z]? = H[z]?) → va_S g.A g.s.heap H1 locs1 → W g.p g.l g.e g.R g.s g.m g.args g.below g.meth g.c H1 locs1 (d.ce + mc') (d.so + ms') g.Q (F0 g.m (pc + 3) ls rest) := by
    intro u t H1 locs1 ht hB hk1 hS
    rw [ht] at hB
    exact k' u H1 locs1 ls (joinL h1.1 h1.2 hk1 hF hB.1 hB.2) hS h3
  have hsz : ls.size = nL := by rw [h3.1, C.n]
  rcases hlk with hlk | ⟨host, hlk⟩
  · exact va_callv (va_runI (As := As) (rest := rest) ⟨C.x, C.b, C.ml, C.o, C.t⟩ (hM q H.size) ⟨callB_of n C.t (good_tg f4) rfl hrm.1 hrm.2 (C.t _ f3) (C.t _ hlk) ⟨f5, f6, f7⟩ (by rw [hR]; exact hrr), f8, C.t _ f1⟩ hPS rfl hn hsz hst (lv_room hro) dg (by rw [hR]; exact hce)) h2 (fun q _ h => hF q h) hF (fun u t H1 locs1 ht hvm hw hB hz1 hk1 hS => hk' u t H1 locs1 ht hB hk1 hS)
  · exact va_callv (va_runIN (As := As) (rest := rest) ⟨C.x, C.b, C.ml, C.o, C.t⟩ (hM q H.size) ⟨va_cnB n C.t (good_tg f4) rfl hrm.1 hrm.2 (C.nw _ hlk) (C.t _ f3) ⟨f5, f6, f7⟩ (by rw [hR]; exact hrr), f8, C.t _ f1⟩ hPS rfl hn hsz hst (lv_room hro) dg (by rw [hR]; exact hce)) h2 (fun q _ h => hF q h) hF (fun u t H1 locs1 ht hvm hw hB hz1 hk1 hS => hk' u t H1 locs1 ht hB hk1 hS)
end XL
