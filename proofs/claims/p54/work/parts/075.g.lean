/-! ===== methods that may throw, or make a slab ===== -/
abbrev Rz : Type := (Int ⊕ Nat) × Nat × Wd
def bindG (pv : Option Rz) (Kt : Int → Nat → Wd → Option Rz) : Option Rz := pv.bind fun q => match q.1 with
  | .inl v => Kt v q.2.1 q.2.2
  | .inr _ => some q
def exn (k : Nat) : String := if k = 1 then "java/lang/IllegalStateException" else if k = 2 then "java/lang/IllegalArgumentException" else if k = 3 then "java/lang/IndexOutOfBoundsException" else "java/util/NoSuchElementException"
def AG (na : Nat) (ad : Nat → Nat) (d : Dl) : Prop := na ≤ d.na ∧ ∀ o, kd na o ≠ 0 → d.ad o = ad o
theorem AG.rf (d : Dl) : AG d.na d.ad d := ⟨Nat.le_refl _, fun _ _ => rfl⟩
theorem AG.trans {na : Nat} {ad : Nat → Nat} {d d1 : Dl} (h : AG na ad d) (h1 : AG d.na d.ad d1) : AG na ad d1 :=
  ⟨Nat.le_trans h.1 h1.1, fun o ho => by rw [h1.2 o (by rw [kd_mono h.1 ho]; exact ho), h.2 o ho]⟩
theorem AG.isK {na K o dm : Nat} {ad : Nat → Nat} {d : Dl} (h : AG na ad d) (hK : K ≠ 0) (hk : isK na dm K o) : isK d.na dm K o := ⟨by rw [kd_mono h.1 (by rw [hk.1]; exact hK)]; exact hk.1, hk.2⟩
theorem AG.one {na : Nat} {ad : Nat → Nat} {d : Dl} (h : AG na ad d) : ad 1 = d.ad 1 := (h.2 1 (by rw [kd_main (by decide)]; decide)).symm
def PW (G : Gd) (dm na : Nat) (ad : Nat → Nat) (sz : Nat) (res : Rz) (t : State) : Prop := ∃ ad' : Nat → Nat, AG na ad (res.2.1, ad', 0, 0) ∧ wdH G dm res.2.1 ad' res.2.2 (rg dm na ad sz) t.heap
def xG (G : Gd) (dm na : Nat) (ad : Nat → Nat) (sz : Nat) (res : Rz) : String → State → State → Prop := vx_X (fun (_ : Unit) => True) (fun E _ t => (∃ k, res.1 = .inr k ∧ E = exn k) ∧ PW G dm na ad sz res t) (rg dm na ad sz)
def mGI (l : Launch) (y : MethodName) (cc : ByteArray) (nL : Nat) (ret : Option FieldType) (rm : Room) (G : Gd) (dm na : Nat) (ad : Nat → Nat) (vs : List Value) (w : Wd) (res : Rz) (mc ms : Nat) : Prop :=
  ∀ sz : Nat, vx_Met l y (WSx y cc nL ret) rm (va_Pc vs (preS G dm na ad w sz)) (va_Qi (fun v (_ : Unit) => ∃ r : Int, res.1 = .inl r ∧ v = Int32.ofInt r) (fun _ t => PW G dm na ad sz res t) (rg dm na ad sz)) (xG G dm na ad sz res) mc ms (rg dm na ad sz)
def mGV (l : Launch) (y : MethodName) (cc : ByteArray) (nL : Nat) (ret : Option FieldType) (rm : Room) (G : Gd) (dm na : Nat) (ad : Nat → Nat) (vs : List Value) (w : Wd) (res : Rz) (mc ms : Nat) : Prop :=
  ∀ sz : Nat, vx_Met l y (WSx y cc nL ret) rm (va_Pc vs (preS G dm na ad w sz)) (va_Qv (fun (_ : Unit) => ∃ r : Int, res.1 = .inl r) (fun _ t => PW G dm na ad sz res t) (rg dm na ad sz)) (xG G dm na ad sz res) mc ms (rg dm na ad sz)
/-- an exception goes on to the caller -/
def exG (g : Cx) (na : Nat) (ad : Nat → Nat) (mc ms : Nat) (res : Rz) : Prop :=
  ∀ (pc : Nat) (ls : Array Slot) (rest : List Value) (q : Addr) (E : String) (ce : Cell) (H1 : Heap) (locs1 : List Loc) (cells slots k na1 : Nat) (ad1 : Nat → Nat) (w1 : Wd), E = exn k → (Sum.inr k, na1, w1) = res → AG na ad (na1, ad1, 0, 0) → wdH g.G g.dm na1 ad1 w1 g.A H1 → va_S g.A g.s.heap H1 locs1 → H1[q]? = some ce → ce.vm = .none → g.s.vm.findClass E = some ce.cls → cells ≤ mc → slots ≤ ms →
    vx_W g.p g.l g.e g.R g.s g.m g.args g.below g.meth g.c H1 locs1 cells slots g.Q (F0 g.m pc ls rest) q
/-- the words of a throw of a fresh exception of kind k -/
def thW (k ik ic : Nat) : Prop := Cond.classLink RX8 ik (exn k) ∈ lw_tg ∧ Cond.initialized (exn k) ∈ lw_tg ∧ (∀ w ∈ vx_at0 RX8 ic (exn k) ["java/lang/RuntimeException", "java/lang/Exception"], w ∈ lw_tg ∨ w ∈ nw_tbl) ∧ (∀ w ∈ Cond.classLink RX8 ik (exn k) :: Cond.initialized (exn k) :: vx_at0 RX8 ic (exn k) ["java/lang/RuntimeException", "java/lang/Exception"], vx_ot w = true) ∧ Bundle.fit (exn k) = true
theorem th1 : thW 1 81 83 := ⟨by decide +kernel, by decide +kernel, by decide +kernel, by decide +kernel, by decide +kernel⟩
theorem th2 : thW 2 87 89 := ⟨by decide +kernel, by decide +kernel, by decide +kernel, by decide +kernel, by decide +kernel⟩
theorem th3 : thW 3 198 200 := ⟨by decide +kernel, by decide +kernel, by decide +kernel, by decide +kernel, by decide +kernel⟩
def RGI (g : Cx) (na : Nat) (ad : Nat → Nat) (cc : ByteArray) (ty : FieldType) (mc ms : Nat) (res : Rz) : Prop :=
  (∀ (d : Dl) (pc : Nat) (lv : List (Nat × Value)) (v : Int) (w2 : Wd), AG na ad d → d.ce ≤ mc ∧ d.so ≤ ms → some ((Sum.inl v, d.na, w2) : Rz) = some res → narrow ty (iV v) = iV v → decode cc pc = .ok (.ireturn, 1) → XG g d (hP g d w2) lv [iV v] pc) ∧ exG g na ad mc ms res
def RGV (g : Cx) (na : Nat) (ad : Nat → Nat) (cc : ByteArray) (mc ms : Nat) (res : Rz) : Prop :=
  (∀ (d : Dl) (pc : Nat) (lv : List (Nat × Value)) (w2 : Wd), AG na ad d → d.ce ≤ mc ∧ d.so ≤ ms → some ((Sum.inl 0, d.na, w2) : Rz) = some res → decode cc pc = .ok (.return_, 1) → XG g d (hP g d w2) lv [] pc) ∧ exG g na ad mc ms res
theorem wdH.kept {G : Gd} {dm na : Nat} {ad : Nat → Nat} {w : Wd} {H H1 : Heap} {A : Nat → Prop} (h : wdH G dm na ad w A H) (hk : ∀ q : Nat, q < H.size → H1[q]? = H[q]?) : wdH G dm na ad w A H1 :=
  ⟨h.1.kept (fun k q hq => hk q.1 (h.1 k q hq).lt), h.2⟩
theorem wdH.move {G : Gd} {dm na : Nat} {ad ad' : Nat → Nat} {w : Wd} {H : Heap} {A B : Nat → Prop} (h : wdH G dm na ad w A H) (hB : ∀ q, A q → B q) : wdH G dm na ad w B H := h.weaken hB
section XG1
variable {g : Cx} {d : Dl} {cc : ByteArray} {nL : Nat} {ret : Option FieldType} {own : String} {w : Wd} {lv : List (Nat × Value)} {st : List Value} {pc : Nat}
theorem nw_tab {w : Cond} (h : w ∈ nw_tbl) : w.onTables = true := by
  have h2 := (List.mem_filter.mp h).2
  cases w <;> first | rfl | (exact absurd h2 (by simp [isNw]))
/-- throw new E() -/
theorem x_throw {na0 : Nat} {ad0 : Nat → Nat} {mc ms : Nat} {res : Rz} {rmO : Room} (C : CX g cc nL ret RX8) (hXT : ∀ x ∈ g.c.exceptionTable.toList, False) (hfl : g.l.stackTraces = false) (hR0 : g.R = rmO) (hsz : ∃ sz, g.A = rg g.dm na0 ad0 sz ∧ g.s.heap.size = sz) {k ik ic : Nat} (hth : thW k ik ic)
    (hQ : ∃ Qc, g.Q = vx_MQ g.below Qc (xG g.G g.dm na0 ad0 g.s.heap.size res) g.args g.s mc ms g.A) (hag : AG na0 ad0 d) (hce : d.ce + 1 ≤ mc ∧ d.so + 6 ≤ ms) (hRc : rmO.cells = mc ∧ rmO.slots = ms) (hrr : 6 ≤ rmO.frames ∧ (st.map fun v => v.category).sum + 81 ≤ rmO.locals) (hq : some ((Sum.inr k, d.na, w) : Rz) = some res)
    (d0 : decode cc pc = .ok (.new ik, 3)) (d3 : decode cc (pc + 3) = .ok (.dup, 1)) (d4 : decode cc (pc + 4) = .ok (.invokespecial ic, 3)) (d7 : decode cc (pc + 7) = .ok (.athrow, 1)) : XG g d (hP g d w) lv st pc := by
  intro H locs ls h1 h2 h3
  obtain ⟨Qc, hQ⟩ := hQ
  obtain ⟨sz, hA, hsz⟩ := hsz
  obtain ⟨t1, t2, t3, t4, t5⟩ := hth
  cases hq
  rw [hQ]
  refine vx_throw0 C.x C.b hfl (own := RX8) (names := ["java/lang/RuntimeException", "java/lang/Exception"]) C.o t5 (by decide +kernel) (C.t _ t1) (C.t _ t2) (fun q hq => ?_) t4 C.E.2.2.2.2.1 C.E.2.2.2.2.2.1 h2 (by rw [h3.1, C.n, C.ml]) d0 d3 d4 d7 (fun x hx => (hXT x hx).elim) (by rw [hR0]; exact hrr.1) (by rw [hR0]; exact hrr.2) (by rw [hR0, hRc.1]; exact hce.1) (by rw [hR0, hRc.2]; exact hce.2) C.k (fun t ha hz hk => ⟨(), trivial, ⟨⟨k, rfl, rfl⟩, d.ad, ⟨hag.1, hag.2⟩, ?_⟩, ?_⟩) h2.2.2 hce.1 hce.2
  · rcases t3 q hq with h | h
    · exact C.t _ h
    · exact va_Nw.use (nw_tab h) (C.nw _ h)
  · rw [hsz, ← hA]
    exact h1.kept hk
  · rw [hsz, ← hA]
    exact ⟨Nat.le_trans h2.1 hz, fun q q1 q2 => by rw [hk q (Nat.lt_of_lt_of_le q1 h2.1)]; exact h2.2.1 q q1 q2⟩
end XG1
