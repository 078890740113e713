/-! ===== the law itself ===== -/
def iya (G : Gd) (ha m : Nat) (a : Nat → Int32) : Nat × va_E := (ha, .inl (G.cy 0, (m, .inl a)))
section LW
variable {g : Cx} {na : Nat} {ad : Nat → Nat} {ce so : Nat} {cc : ByteArray} {nL : Nat} {ret : Option FieldType} {own : String} {es : va_W} {lv : List (Nat × Value)} {st : List Value} {pc : Nat} {w : Wd}
theorem q_newi (C : CX g cc nL ret own) {rmO : Room} (hA : ∀ q : Nat, g.s.heap.size ≤ q → g.A q) (hR0 : g.R = rmO) {n : Nat} (hn : n < 100000) (hce : ce + 1 ≤ rmO.cells ∧ so + n ≤ rmO.slots) (dg : decode cc pc = .ok (.newarray .int, 2))
    (k' : ∀ (q c1 s1 : Nat), c1 = ce + 1 → s1 = so + n → XG g (na, ad, c1, s1) (hY g (na, ad, c1, s1) w (es ++ [iya g.G q n (fun _ => 0)])) lv (.ref q :: st) (pc + 2)) : XG g (na, ad, ce, so) (hY g (na, ad, ce, so) w es) lv (iV n :: st) pc := by
  refine XG.ok (fun hok => ?_)
  refine x_hL (hp' := hL g (hw g.G 0 na ad w ++ es)) (fun H h => ⟨h.1, h.2.1⟩) ?_
  refine x_nnewa (d1 := (na, ad, ce + 1, so + n)) C hA hR0 (i := 0) (Or.inl ⟨rfl, rfl, rfl⟩) acl_int hn hce rfl dg (fun q => ?_)
  refine x_hL (fun H h => ?_) (k' q (ce + 1) (so + n) rfl rfl)
  rw [List.append_assoc] at h
  exact ⟨h.1, h.2, hok⟩
theorem q_iald (C : CX g cc nL ret own) (q0 : Nat) {ha m : Nat} {a : Nat → Int32} {i x : Int} (hq : es[q0]? = some (iya g.G ha m a)) (hi : 0 ≤ i ∧ i < m) (hm : m < 2147483648) (hx : a i.toNat = Int32.ofInt x) (dg : decode cc pc = .ok (.iaload, 1))
    (k' : XG g (na, ad, ce, so) (hY g (na, ad, ce, so) w es) lv (iV x :: st) (pc + 1)) : XG g (na, ad, ce, so) (hY g (na, ad, ce, so) w es) lv (iV i :: .ref ha :: st) pc := by
  intro H locs ls h1 h2 h3
  obtain ⟨e1, e2, e3⟩ := inb_cl (i := i) (n := m) (decide_eq_true hi) hm
  refine va_iald C.x C.b C.K h1.e.1 q0 0 hq rfl e2 dg ?_
  rw [e1, hx]
  exact k' H locs ls h1 h2 h3
theorem q_iast (C : CX g cc nL ret own) (q0 : Nat) {es' : va_W} {ha m : Nat} {a : Nat → Int32} {i x : Int} (hq : es[q0]? = some (iya g.G ha m a)) (hi : 0 ≤ i ∧ i < m) (hm : m < 2147483648) (hes : es.set q0 (iya g.G ha m (upd a i.toNat (Int32.ofInt x))) = es') (dg : decode cc pc = .ok (.iastore, 1))
    (k' : XG g (na, ad, ce, so) (hY g (na, ad, ce, so) w es') lv st (pc + 1)) : XG g (na, ad, ce, so) (hY g (na, ad, ce, so) w es) lv (iV x :: iV i :: .ref ha :: st) pc := by
  intro H locs ls h1 h2 h3
  subst hes
  obtain ⟨e1, e2, e3⟩ := inb_cl (i := i) (n := m) (decide_eq_true hi) hm
  have hq2 : (hw g.G 0 na ad w ++ es)[(hw g.G 0 na ad w).length + q0]? = some (iya g.G ha m a) := by
    rw [List.getElem?_append_right (Nat.le_add_right _ _), Nat.add_sub_cancel_left]; exact hq
  refine va_iast C.x C.b C.K h1.1 h1.2.1 h2 _ 0 hq2 rfl e2 dg (fun H1 locs1 a1 a2 a3 => ?_)
  rw [e1] at a1 a2
  have e : (hw g.G 0 na ad w ++ es).set ((hw g.G 0 na ad w).length + q0) (iya g.G ha m (upd a i.toNat (Int32.ofInt x))) = hw g.G 0 na ad w ++ es.set q0 (iya g.G ha m (upd a i.toNat (Int32.ofInt x))) := by
    rw [List.set_append_right _ _ (Nat.le_add_right _ _), Nat.add_sub_cancel_left]
  exact k' H1 locs1 ls ⟨e ▸ a1, e ▸ a2, h1.2.2⟩ a3 h3
/-- a question about a word -/
theorem q_wd {d : Dl} (C : CX g cc nL ret RL) {rmO : Room} (hA : ∀ q : Nat, g.s.heap.size ≤ q → g.A q) (hR : g.R = rmO) {i k v : Int} (hmf : mfV yX8_word cX8_word 3 (some .int) 2) (hlk : Cond.methodLink RL 171 yX8_word ∈ lw_tg) (hrr : 8 ≤ rmO.frames ∧ 132 ≤ rmO.locals) (hro : (st.map fun v => v.category).sum ≤ 8) (hce : d.ce ≤ rmO.cells ∧ d.so ≤ rmO.slots) (dg : decode cc pc = .ok (.invokevirtual 171, 3)) (hk : p_Y8_word i k w = some (v, w))
    (k' : XG g d (hY g d w es) lv (iV v :: st) (pc + 3)) : XG g d (hY g d w es) lv (iV k :: iV i :: .ref (d.ad 1) :: st) pc :=
  q_cI (K := 9) (o := 1) (d := d) (rm := rmv 7 110 0 0) (As := [iV i, iV k]) (rest := st) (pv := p_Y8_word i k w) (Kt := some) (res := (v, w)) C hA hR hmf hlk rfl ⟨rfl, rfl⟩ (by decide) ⟨rfl, rfl⟩ ⟨hrr.1, hrr.2⟩ rfl rfl hro hce dg (by rw [hk]; rfl) (fun _ _ h => c_Y8_word g.l g.G rfl h) (fun r w1 _ e => by cases e; exact k')
theorem q_lt {d : Dl} (C : CX g cc nL ret RL) {rmO : Room} (hA : ∀ q : Nat, g.s.heap.size ≤ q → g.A q) (hR : g.R = rmO) {i k v : Int} (hmf : mfV yX8_letter cX8_letter 3 (some .int) 2) (hlk : Cond.methodLink RL 173 yX8_letter ∈ lw_tg) (hrr : 8 ≤ rmO.frames ∧ 132 ≤ rmO.locals) (hro : (st.map fun v => v.category).sum ≤ 8) (hce : d.ce ≤ rmO.cells ∧ d.so ≤ rmO.slots) (dg : decode cc pc = .ok (.invokevirtual 173, 3)) (hk : p_Y8_letter i k w = some (v, w))
    (k' : XG g d (hY g d w es) lv (iV v :: st) (pc + 3)) : XG g d (hY g d w es) lv (iV k :: iV i :: .ref (d.ad 1) :: st) pc :=
  q_cI (K := 9) (o := 1) (d := d) (rm := rmv 7 110 0 0) (As := [iV i, iV k]) (rest := st) (pv := p_Y8_letter i k w) (Kt := some) (res := (v, w)) C hA hR hmf hlk rfl ⟨rfl, rfl⟩ (by decide) ⟨rfl, rfl⟩ ⟨hrr.1, hrr.2⟩ rfl rfl hro hce dg (by rw [hk]; rfl) (fun _ _ h => c_Y8_letter g.l g.G rfl h) (fun r w1 _ e => by cases e; exact k')
/-- the law's question whether all stands -/
theorem q_st {d : Dl} (C : CX g cc nL ret RL) {rmO : Room} (hA : ∀ q : Nat, g.s.heap.size ≤ q → g.A q) (hR : g.R = rmO) (hmf : mfS yL_stands cL_stands 15 (some .boolean) 1) (hlk : Cond.methodLink RL 218 yL_stands ∈ lw_tg) (hrr : 12 ≤ rmO.frames ∧ 233 ≤ rmO.locals) (hro : (st.map fun v => v.category).sum ≤ 8) (hce : d.ce ≤ rmO.cells ∧ d.so ≤ rmO.slots) (dg : decode cc pc = .ok (.invokestatic 218, 3)) (hk : p_L_stands w = some (1, w))
    (k' : XG g d (hY g d w es) lv (iV 1 :: st) (pc + 3)) : XG g d (hY g d w es) lv (.ref (d.ad 1) :: st) pc :=
  q_sI (d := d) (rm := rmv 11 199 0 0) (As := [.ref (d.ad 1)]) (rest := st) (pv := p_L_stands w) (Kt := some) (res := (1, w)) C hA hR hmf hlk ⟨rfl, rfl⟩ ⟨hrr.1, hrr.2⟩ rfl rfl hro hce dg (by rw [hk]; rfl) (fun _ _ h => c_L_stands g.l g.G rfl h) (fun r w1 _ e => by cases e; exact k')
end LW
/-- the law's first words that have a carved letter: there are N of them -/
def CW (w : Wd) (N : Nat) (v6 : Int) : Prop :=
  p_Y8_property 6 w = some (v6, w) ∧ (0 ≤ v6 ∧ v6 ≤ 60 ∧ (N : Int) ≤ v6) ∧ (∀ i : Nat, i < N → ∃ a : Int, p_Y8_word i 5 w = some (a, w) ∧ 0 < a ∧ a ≤ 100000) ∧ ((N : Int) = v6 ∨ ∃ a : Int, p_Y8_word N 5 w = some (a, w) ∧ a ≤ 0 ∧ -100000 ≤ a)
/-- where they lie and how they begin -/
def WK (w : Wd) (N : Nat) (X Y Z : Nat → Int) : Prop := ∀ i : Nat, i < N → p_Y8_word i 3 w = some (X i, w) ∧ p_Y8_word i 2 w = some (Y i, w) ∧ p_Y8_letter i 0 w = some (Z i, w)
/-- one round of the law's: what the class must answer -/
def RoundOK (xs : Nat → Int32) (L : Nat) (k : Int) (na : Nat) (w : Wd) (P : Nat → Wd → Prop) : Prop :=
  ∃ (N : Nat) (v6 cv cv2 parts high wide : Int) (X Y Z : Nat → Int) (z : Int × Nat × Wd), CW w N v6 ∧ WK w N X Y Z ∧ p_Y8_property 8 w = some (cv, w) ∧ ActOK xs L k parts high wide na w z ∧ p_L_stands z.2.2 = some (1, z.2.2) ∧ p_Y8_property 8 z.2.2 = some (cv2, z.2.2) ∧ (0 ≤ cv ∧ cv ≤ cv2 ∧ cv2 ≤ 100000) ∧ WK z.2.2 N X Y Z ∧ P z.2.1 z.2.2
theorem upd_lt {f : Nat → Int32} {i t : Nat} {v : Int32} (h : t ≠ i) : upd f i v t = f t := by unfold upd; exact if_neg h
theorem upd_all {f : Nat → Int32} {i : Nat} {X : Nat → Int} (h : ∀ t, t < i → f t = Int32.ofInt (X t)) : ∀ t, t < i + 1 → upd f (((i : Nat) : Int)).toNat (Int32.ofInt (X i)) t = Int32.ofInt (X t) := by
  intro t ht
  rw [Int.toNat_natCast]
  by_cases c : t = i
  · subst c; exact upd_at _ _ _
  · rw [upd_lt c]; exact h t (by omega)
theorem tm_X8_word : mfV yX8_word cX8_word 3 (some .int) 2 := ⟨in_tg 422 (by decide +kernel) rfl, in_tg 423 (by decide +kernel) rfl, in_tg 34 (by decide +kernel) rfl, in_tg 424 (by decide +kernel) rfl, by decide +kernel, by decide +kernel, by decide +kernel⟩
theorem tm_X8_letter : mfV yX8_letter cX8_letter 3 (some .int) 2 := ⟨in_tg 473 (by decide +kernel) rfl, in_tg 474 (by decide +kernel) rfl, in_tg 34 (by decide +kernel) rfl, in_tg 475 (by decide +kernel) rfl, by decide +kernel, by decide +kernel, by decide +kernel⟩
set_option maxRecDepth 100000 in
theorem tm_L_stands : mfS yL_stands cL_stands 15 (some .boolean) 1 := ⟨in_tg 1178 (by decide +kernel) rfl, in_tg 33 (by decide +kernel) rfl, tg_mk ⟨List.mem_of_getElem? (i := 1179) rfl, rfl⟩, by decide +kernel, by decide +kernel, by decide +kernel⟩
theorem tm_L_act : mfS yL_act cL_act 9 (some .int) 3 := ⟨in_tg 1019 (by decide +kernel) rfl, in_tg 33 (by decide +kernel) rfl, in_tg 1020 (by decide +kernel) rfl, by decide +kernel, by decide +kernel, by decide +kernel⟩
set_option maxRecDepth 100000 in
theorem tm_L_load : mfS yL_load cL_load 16 (some .boolean) 2 := ⟨in_tg 481 (by decide +kernel) rfl, in_tg 33 (by decide +kernel) rfl, tg_mk ⟨List.mem_of_getElem? (i := 482) rfl, rfl⟩, by decide +kernel, by decide +kernel, by decide +kernel⟩
theorem tl_SlabCutterLaw_171 : Cond.methodLink "SlabCutterLaw" 171 yX8_word ∈ lw_tg := in_tg 421 (by decide +kernel) rfl
theorem tl_SlabCutterLaw_173 : Cond.methodLink "SlabCutterLaw" 173 yX8_letter ∈ lw_tg := in_tg 472 (by decide +kernel) rfl
theorem tl_SlabCutterLaw_222 : Cond.methodLink "SlabCutterLaw" 222 yL_act ∈ lw_tg := in_tg 1018 (by decide +kernel) rfl
theorem tl_SlabCutterLaw_218 : Cond.methodLink "SlabCutterLaw" 218 yL_stands ∈ lw_tg := in_tg 1177 (by decide +kernel) rfl
theorem tl_SlabCutterLaw_215 : Cond.methodLink "SlabCutterLaw" 215 yL_load ∈ lw_tg := in_tg 480 (by decide +kernel) rfl
theorem L_lawA {g : Cx} {ret9 : Option FieldType} (C : CX g cL_law 10 ret9 RL) (hfl : g.l.stackTraces = false) (hA : ∀ q : Nat, g.s.heap.size ≤ q → g.A q) (hR0 : g.R = room_1) {b L : Nat} {xs : Nat → Int32} (hX : va_X b L xs g.s g.s.heap) (hbs : b < g.s.heap.size) (hbA : ¬ g.A b) (hL : L ≤ 260) {na : Nat} {ad : Nat → Nat} {ce so : Nat} {w : Wd} {k : Int} {N : Nat} {v6 : Int} (hcs : ce ≤ 600000 ∧ so ≤ 7300000) (hcw : CW w N v6)
    (K : XG g (na, ad, ce, so) (hY g (na, ad, ce, so) w []) [(0, .ref b), (1, .ref (ad 1)), (2, iV k), (3, iV (N : Nat))] [] 64) :
    ∀ (j i : Nat), i + j = N → XG g (na, ad, ce, so) (hY g (na, ad, ce, so) w []) [(0, .ref b), (1, .ref (ad 1)), (2, iV k), (3, iV (i : Nat))] [] 39 := by
  obtain ⟨hcs1, hcs2⟩ := hcs
  obtain ⟨h6, hv6, h5, hend⟩ := hcw
  intro j
  induction j with
  | zero =>
    intro i hi
    refine x_iload_n C 3 dL_law_39 rfl ?_
    refine x_aload_n C 1 dL_law_40 rfl ?_
    refine x_bipush (v := 6) C dL_law_41 (by decide +kernel) ?_
    refine q_pr C hA hR0 tl_SlabCutterLaw_94 ⟨Nat.le_of_ble_eq_true rfl, Nat.le_of_ble_eq_true rfl⟩ (Nat.le_of_ble_eq_true rfl) ⟨(by omega : ce ≤ 600086), (by omega : so ≤ 7301442)⟩ dL_law_43 h6 ?_
    rcases hend with he | ⟨a, ha1, ha2, ha3⟩
    · refine x_icmp_ge (tgt := 64) (P1 := none) (P2 := some ()) (z := ()) C dL_law_46 (by decide) (if_neg (by rw [ltq (by omega)]; omega)) (fun _ => ?_) (fun h => nomatch h)
      rw [show (i : Nat) = N by omega]
      exact K
    · by_cases c6 : (i : Int) = v6
      · refine x_icmp_ge (tgt := 64) (P1 := none) (P2 := some ()) (z := ()) C dL_law_46 (by decide) (if_neg (by rw [ltq (by omega)]; omega)) (fun _ => ?_) (fun h => nomatch h)
        rw [show (i : Nat) = N by omega]
        exact K
      refine x_icmp_ge (tgt := 64) (P1 := some ()) (P2 := none) (z := ()) C dL_law_46 (by decide) (if_pos (by rw [ltq (by omega)]; omega)) (fun h => nomatch h) (fun _ => ?_)
      refine x_aload_n C 1 dL_law_49 rfl ?_
      refine x_iload_n C 3 dL_law_50 rfl ?_
      refine x_iconst C dL_law_51 ?_
      rw [show ((i : Nat) : Int) = (N : Nat) by omega]
      refine q_wd C hA hR0 tm_X8_word tl_SlabCutterLaw_171 ⟨Nat.le_of_ble_eq_true rfl, Nat.le_of_ble_eq_true rfl⟩ (Nat.le_of_ble_eq_true rfl) ⟨(by omega : ce ≤ 600086), (by omega : so ≤ 7301442)⟩ dL_law_52 ha1 ?_
      refine x_if_le (tgt := 64) (P1 := none) (P2 := some ()) (z := ()) C dL_law_55 (by decide) (if_neg (by rw [ltq (by omega)]; omega)) (fun _ => ?_) (fun h => nomatch h)
      exact K
  | succ j ih =>
    intro i hi
    refine x_iload_n C 3 dL_law_39 rfl ?_
    refine x_aload_n C 1 dL_law_40 rfl ?_
    refine x_bipush (v := 6) C dL_law_41 (by decide +kernel) ?_
    refine q_pr C hA hR0 tl_SlabCutterLaw_94 ⟨Nat.le_of_ble_eq_true rfl, Nat.le_of_ble_eq_true rfl⟩ (Nat.le_of_ble_eq_true rfl) ⟨(by omega : ce ≤ 600086), (by omega : so ≤ 7301442)⟩ dL_law_43 h6 ?_
    refine x_icmp_ge (tgt := 64) (P1 := some ()) (P2 := none) (z := ()) C dL_law_46 (by decide) (if_pos (by rw [ltq (by omega)]; omega)) (fun h => nomatch h) (fun _ => ?_)
    refine x_aload_n C 1 dL_law_49 rfl ?_
    refine x_iload_n C 3 dL_law_50 rfl ?_
    refine x_iconst C dL_law_51 ?_
    obtain ⟨a, ha1, ha2, ha3⟩ := h5 i (by omega)
    refine q_wd C hA hR0 tm_X8_word tl_SlabCutterLaw_171 ⟨Nat.le_of_ble_eq_true rfl, Nat.le_of_ble_eq_true rfl⟩ (Nat.le_of_ble_eq_true rfl) ⟨(by omega : ce ≤ 600086), (by omega : so ≤ 7301442)⟩ dL_law_52 ha1 ?_
    refine x_if_le (tgt := 64) (P1 := some ()) (P2 := none) (z := ()) C dL_law_55 (by decide) (if_pos (by rw [ltq (by omega)]; omega)) (fun h => nomatch h) (fun _ => ?_)
    refine x_iinc (lv' := [(3, iV ((i : Nat) + 1)), (0, .ref b), (1, .ref (ad 1)), (2, iV k)]) C 3 dL_law_58 rfl (by decide) rfl ?_
    refine x_goto (tgt := 39) C dL_law_61 (by decide) ?_
    refine XG.sub [1, 2, 3, 0] rfl ?_
    exact ih (i + 1) (by omega)

theorem L_lawB {g : Cx} {ret9 : Option FieldType} (C : CX g cL_law 10 ret9 RL) (hfl : g.l.stackTraces = false) (hA : ∀ q : Nat, g.s.heap.size ≤ q → g.A q) (hR0 : g.R = room_1) {b L : Nat} {xs : Nat → Int32} (hX : va_X b L xs g.s g.s.heap) (hbs : b < g.s.heap.size) (hbA : ¬ g.A b) (hL : L ≤ 260) {na : Nat} {ad : Nat → Nat} {ce so : Nat} {w : Wd} {k : Int} {N : Nat} {v6 : Int} (hcs : ce ≤ 600000 ∧ so ≤ 7300000) {X Y Z : Nat → Int} {q4 q5 q6 : Nat} (hN : N ≤ 60) (hwk : WK w N X Y Z)
    (K : ∀ f4 f5 f6 : Nat → Int32, (∀ t, t < N → f4 t = Int32.ofInt (X t) ∧ f5 t = Int32.ofInt (Y t) ∧ f6 t = Int32.ofInt (Z t)) → XG g (na, ad, ce, so) (hY g (na, ad, ce, so) w [iya g.G q4 N f4, iya g.G q5 N f5, iya g.G q6 N f6]) [(0, .ref b), (1, .ref (ad 1)), (2, iV k), (3, iV (N : Nat)), (4, .ref q4), (5, .ref q5), (6, .ref q6)] [] 130) :
    ∀ (j i : Nat) (f4 f5 f6 : Nat → Int32), i + j = N → (∀ t, t < i → f4 t = Int32.ofInt (X t) ∧ f5 t = Int32.ofInt (Y t) ∧ f6 t = Int32.ofInt (Z t)) → XG g (na, ad, ce, so) (hY g (na, ad, ce, so) w [iya g.G q4 N f4, iya g.G q5 N f5, iya g.G q6 N f6]) [(0, .ref b), (1, .ref (ad 1)), (2, iV k), (3, iV (N : Nat)), (4, .ref q4), (5, .ref q5), (6, .ref q6), (7, iV (i : Nat))] [] 82 := by
  obtain ⟨hcs1, hcs2⟩ := hcs
  intro j
  induction j with
  | zero =>
    intro i f4 f5 f6 hi hf
    refine x_iload C 7 dL_law_82 rfl ?_
    refine x_iload_n C 3 dL_law_84 rfl ?_
    refine x_icmp_ge (tgt := 130) (P1 := none) (P2 := some ()) (z := ()) C dL_law_85 (by decide) (if_neg (by rw [ltq (by omega)]; omega)) (fun _ => ?_) (fun h => nomatch h)
    refine XG.sub [0, 1, 2, 3, 4, 5, 6] rfl ?_
    exact K f4 f5 f6 (fun t ht => hf t (by omega))
  | succ j ih =>
    intro i f4 f5 f6 hi hf
    refine x_iload C 7 dL_law_82 rfl ?_
    refine x_iload_n C 3 dL_law_84 rfl ?_
    refine x_icmp_ge (tgt := 130) (P1 := some ()) (P2 := none) (z := ()) C dL_law_85 (by decide) (if_pos (by rw [ltq (by omega)]; omega)) (fun h => nomatch h) (fun _ => ?_)
    obtain ⟨hw3, hw2, hw0⟩ := hwk i (by omega)
    refine x_aload C 4 dL_law_88 rfl ?_
    refine x_iload C 7 dL_law_90 rfl ?_
    refine x_aload_n C 1 dL_law_92 rfl ?_
    refine x_iload C 7 dL_law_93 rfl ?_
    refine x_iconst C dL_law_95 ?_
    refine q_wd C hA hR0 tm_X8_word tl_SlabCutterLaw_171 ⟨Nat.le_of_ble_eq_true rfl, Nat.le_of_ble_eq_true rfl⟩ (Nat.le_of_ble_eq_true rfl) ⟨(by omega : ce ≤ 600086), (by omega : so ≤ 7301442)⟩ dL_law_96 hw3 ?_
    refine q_iast C 0 (ha := q4) (m := N) (a := f4) rfl ⟨by omega, by omega⟩ (by omega) rfl dL_law_99 ?_
    refine x_aload C 5 dL_law_100 rfl ?_
    refine x_iload C 7 dL_law_102 rfl ?_
    refine x_aload_n C 1 dL_law_104 rfl ?_
    refine x_iload C 7 dL_law_105 rfl ?_
    refine x_iconst C dL_law_107 ?_
    refine q_wd C hA hR0 tm_X8_word tl_SlabCutterLaw_171 ⟨Nat.le_of_ble_eq_true rfl, Nat.le_of_ble_eq_true rfl⟩ (Nat.le_of_ble_eq_true rfl) ⟨(by omega : ce ≤ 600086), (by omega : so ≤ 7301442)⟩ dL_law_108 hw2 ?_
    refine q_iast C 1 (ha := q5) (m := N) (a := f5) rfl ⟨by omega, by omega⟩ (by omega) rfl dL_law_111 ?_
    refine x_aload C 6 dL_law_112 rfl ?_
    refine x_iload C 7 dL_law_114 rfl ?_
    refine x_aload_n C 1 dL_law_116 rfl ?_
    refine x_iload C 7 dL_law_117 rfl ?_
    refine x_iconst C dL_law_119 ?_
    refine q_lt C hA hR0 tm_X8_letter tl_SlabCutterLaw_173 ⟨Nat.le_of_ble_eq_true rfl, Nat.le_of_ble_eq_true rfl⟩ (Nat.le_of_ble_eq_true rfl) ⟨(by omega : ce ≤ 600086), (by omega : so ≤ 7301442)⟩ dL_law_120 hw0 ?_
    refine q_iast C 2 (ha := q6) (m := N) (a := f6) rfl ⟨by omega, by omega⟩ (by omega) rfl dL_law_123 ?_
    refine x_iinc (lv' := [(7, iV ((i : Nat) + 1)), (0, .ref b), (1, .ref (ad 1)), (2, iV k), (3, iV (N : Nat)), (4, .ref q4), (5, .ref q5), (6, .ref q6)]) C 7 dL_law_124 rfl (by decide) rfl ?_
    refine x_goto (tgt := 82) C dL_law_127 (by decide) ?_
    refine XG.sub [1, 2, 3, 4, 5, 6, 7, 0] rfl ?_
    exact ih (i + 1) _ _ _ (by omega) (fun t ht => ⟨upd_all (fun t ht => (hf t ht).1) t ht, upd_all (fun t ht => (hf t ht).2.1) t ht, upd_all (fun t ht => (hf t ht).2.2) t ht⟩)

theorem L_lawC {g : Cx} {ret9 : Option FieldType} (C : CX g cL_law 10 ret9 RL) (hfl : g.l.stackTraces = false) (hA : ∀ q : Nat, g.s.heap.size ≤ q → g.A q) (hR0 : g.R = room_1) {b L : Nat} {xs : Nat → Int32} (hX : va_X b L xs g.s g.s.heap) (hbs : b < g.s.heap.size) (hbA : ¬ g.A b) (hL : L ≤ 260) {na : Nat} {ad : Nat → Nat} {ce so : Nat} {w : Wd} {k : Int} {N : Nat} {v6 : Int} (hcs : ce ≤ 600000 ∧ so ≤ 7300000) {X Y Z : Nat → Int} {q4 q5 q6 : Nat} {f4 f5 f6 : Nat → Int32} (hN : N ≤ 60) (hwk : WK w N X Y Z) (hf : ∀ t, t < N → f4 t = Int32.ofInt (X t) ∧ f5 t = Int32.ofInt (Y t) ∧ f6 t = Int32.ofInt (Z t))
    (K : XG g (na, ad, ce, so) (hY g (na, ad, ce, so) w []) [(0, .ref b), (1, .ref (ad 1)), (2, iV k)] [] 228) :
    ∀ (j i : Nat), i + j = N → XG g (na, ad, ce, so) (hY g (na, ad, ce, so) w [iya g.G q4 N f4, iya g.G q5 N f5, iya g.G q6 N f6]) [(0, .ref b), (1, .ref (ad 1)), (2, iV k), (3, iV (N : Nat)), (4, .ref q4), (5, .ref q5), (6, .ref q6), (9, iV (i : Nat))] [] 169 := by
  obtain ⟨hcs1, hcs2⟩ := hcs
  intro j
  induction j with
  | zero =>
    intro i hi
    refine x_iload C 7 dL_law_169 rfl ?_
    refine x_iload_n C 3 dL_law_171 rfl ?_
    refine x_icmp_ge (tgt := 228) (P1 := none) (P2 := some ()) (z := ()) C dL_law_172 (by decide) (if_neg (by rw [ltq (by omega)]; omega)) (fun _ => ?_) (fun h => nomatch h)
    refine XG.sub [0, 1, 2] rfl ?_
    exact y_sub ⟨[iya g.G q4 N f4, iya g.G q5 N f5, iya g.G q6 N f6], List.Perm.refl _⟩ K
  | succ j ih =>
    intro i hi
    refine x_iload C 7 dL_law_169 rfl ?_
    refine x_iload_n C 3 dL_law_171 rfl ?_
    refine x_icmp_ge (tgt := 228) (P1 := some ()) (P2 := none) (z := ()) C dL_law_172 (by decide) (if_pos (by rw [ltq (by omega)]; omega)) (fun h => nomatch h) (fun _ => ?_)
    obtain ⟨hw3, hw2, hw0⟩ := hwk i (by omega)
    obtain ⟨e4, e5, e6⟩ := hf i (by omega)
    refine x_aload_n C 1 dL_law_175 rfl ?_
    refine x_iload C 7 dL_law_176 rfl ?_
    refine x_iconst C dL_law_178 ?_
    refine q_wd C hA hR0 tm_X8_word tl_SlabCutterLaw_171 ⟨Nat.le_of_ble_eq_true rfl, Nat.le_of_ble_eq_true rfl⟩ (Nat.le_of_ble_eq_true rfl) ⟨(by omega : ce ≤ 600086), (by omega : so ≤ 7301442)⟩ dL_law_179 hw3 ?_
    refine x_aload C 4 dL_law_182 rfl ?_
    refine x_iload C 7 dL_law_184 rfl ?_
    refine q_iald C 0 (ha := q4) (m := N) (a := f4) (x := X i) rfl ⟨by omega, by omega⟩ (by omega) (by rw [Int.toNat_natCast]; exact e4) dL_law_186 ?_
    refine x_icmp_ne (tgt := 220) (P1 := some ()) (P2 := none) (z := ()) C dL_law_187 (by decide) (if_pos (eq_self _)) (fun h => nomatch h) (fun _ => ?_)
    refine x_aload_n C 1 dL_law_190 rfl ?_
    refine x_iload C 7 dL_law_191 rfl ?_
    refine x_iconst C dL_law_193 ?_
    refine q_wd C hA hR0 tm_X8_word tl_SlabCutterLaw_171 ⟨Nat.le_of_ble_eq_true rfl, Nat.le_of_ble_eq_true rfl⟩ (Nat.le_of_ble_eq_true rfl) ⟨(by omega : ce ≤ 600086), (by omega : so ≤ 7301442)⟩ dL_law_194 hw2 ?_
    refine x_aload C 5 dL_law_197 rfl ?_
    refine x_iload C 7 dL_law_199 rfl ?_
    refine q_iald C 1 (ha := q5) (m := N) (a := f5) (x := Y i) rfl ⟨by omega, by omega⟩ (by omega) (by rw [Int.toNat_natCast]; exact e5) dL_law_201 ?_
    refine x_icmp_ne (tgt := 220) (P1 := some ()) (P2 := none) (z := ()) C dL_law_202 (by decide) (if_pos (eq_self _)) (fun h => nomatch h) (fun _ => ?_)
    refine x_aload_n C 1 dL_law_205 rfl ?_
    refine x_iload C 7 dL_law_206 rfl ?_
    refine x_iconst C dL_law_208 ?_
    refine q_lt C hA hR0 tm_X8_letter tl_SlabCutterLaw_173 ⟨Nat.le_of_ble_eq_true rfl, Nat.le_of_ble_eq_true rfl⟩ (Nat.le_of_ble_eq_true rfl) ⟨(by omega : ce ≤ 600086), (by omega : so ≤ 7301442)⟩ dL_law_209 hw0 ?_
    refine x_aload C 6 dL_law_212 rfl ?_
    refine x_iload C 7 dL_law_214 rfl ?_
    refine q_iald C 2 (ha := q6) (m := N) (a := f6) (x := Z i) rfl ⟨by omega, by omega⟩ (by omega) (by rw [Int.toNat_natCast]; exact e6) dL_law_216 ?_
    refine x_icmp_eq (tgt := 222) (P1 := some ()) (P2 := none) (z := ()) C dL_law_217 (by decide) (if_pos (eq_self _)) (fun _ => ?_) (fun h => nomatch h)
    refine x_iinc (lv' := [(9, iV ((i : Nat) + 1)), (0, .ref b), (1, .ref (ad 1)), (2, iV k), (3, iV (N : Nat)), (4, .ref q4), (5, .ref q5), (6, .ref q6)]) C 7 dL_law_222 rfl (by decide) rfl ?_
    refine x_goto (tgt := 169) C dL_law_225 (by decide) ?_
    refine XG.sub [1, 2, 3, 4, 5, 6, 7, 0] rfl ?_
    exact ih (i + 1) (by omega)

theorem L_round {g : Cx} {ret9 : Option FieldType} (C : CX g cL_law 10 ret9 RL) (hfl : g.l.stackTraces = false) (hA : ∀ q : Nat, g.s.heap.size ≤ q → g.A q) (hR0 : g.R = room_1) {b L : Nat} {xs : Nat → Int32} (hX : va_X b L xs g.s g.s.heap) (hbs : b < g.s.heap.size) (hbA : ¬ g.A b) (hL : L ≤ 260) {na : Nat} {ad : Nat → Nat} {ce so : Nat} {w : Wd} {k : Int} (hk : 0 ≤ k ∧ k ≤ 900) (hcs : ce ≤ 500000 ∧ so ≤ 7000000) {P : Nat → Wd → Prop} (hro : RoundOK xs L k na w P)
    (K : ∀ (ad1 : Nat → Nat) (c1 s1 : Nat) {z : Int × Nat × Wd}, c1 ≤ ce + 53 → s1 ≤ so + 28180 → P z.2.1 z.2.2 → XG g (z.2.1, ad1, c1, s1) (hY g (z.2.1, ad1, c1, s1) z.2.2 []) [(0, .ref b), (1, .ref (ad1 1)), (2, iV (k + 3))] [] 28) : XG g (na, ad, ce, so) (hY g (na, ad, ce, so) w []) [(0, .ref b), (1, .ref (ad 1)), (2, iV k)] [] 37 := by
  obtain ⟨hcs1, hcs2⟩ := hcs
  obtain ⟨N, v6, cv, cv2, parts, high, wide, X, Y, Z, z, hcw, hwk, h8, hact, hst, h82, hcv, hwk2, hP⟩ := hro
  have hN := hcw.2.1
  refine x_iconst C dL_law_37 ?_
  refine x_istore_n (lv' := [(3, iV 0), (0, .ref b), (1, .ref (ad 1)), (2, iV k)]) C dL_law_38 (by decide) rfl ?_
  refine XG.sub [1, 2, 3, 0] rfl ?_
  refine L_lawA (ce := ce) (so := so) C hfl hA hR0 hX hbs hbA hL ⟨by omega, by omega⟩ hcw ?_ N 0 (by omega)
  refine x_iload_n C 3 dL_law_64 rfl ?_
  refine q_newi C hA hR0 (by omega) ⟨(by omega : ce + 1 ≤ 600086), (by omega : so + N ≤ 7301442)⟩ dL_law_65 (fun q4 c4 s4 ec4 es4 => ?_)
  refine x_astore (lv' := [(4, .ref q4), (0, .ref b), (1, .ref (ad 1)), (2, iV k), (3, iV (N : Nat))]) C dL_law_67 (by decide) rfl ?_
  refine x_iload_n C 4 dL_law_69 rfl ?_
  refine q_newi C hA hR0 (by omega) ⟨(by omega : c4 + 1 ≤ 600086), (by omega : s4 + N ≤ 7301442)⟩ dL_law_70 (fun q5 c5 s5 ec5 es5 => ?_)
  refine x_astore (lv' := [(5, .ref q5), (4, .ref q4), (0, .ref b), (1, .ref (ad 1)), (2, iV k), (3, iV (N : Nat))]) C dL_law_72 (by decide) rfl ?_
  refine x_iload_n C 5 dL_law_74 rfl ?_
  refine q_newi C hA hR0 (by omega) ⟨(by omega : c5 + 1 ≤ 600086), (by omega : s5 + N ≤ 7301442)⟩ dL_law_75 (fun q6 c6 s6 ec6 es6 => ?_)
  refine x_astore (lv' := [(6, .ref q6), (5, .ref q5), (4, .ref q4), (0, .ref b), (1, .ref (ad 1)), (2, iV k), (3, iV (N : Nat))]) C dL_law_77 (by decide) rfl ?_
  refine x_iconst C dL_law_79 ?_
  refine x_istore (lv' := [(7, iV 0), (6, .ref q6), (5, .ref q5), (4, .ref q4), (0, .ref b), (1, .ref (ad 1)), (2, iV k), (3, iV (N : Nat))]) C dL_law_80 (by decide) rfl ?_
  refine XG.sub [4, 5, 6, 7, 3, 2, 1, 0] rfl ?_
  refine L_lawB (v6 := v6) (ce := c6) (so := s6) C hfl hA hR0 hX hbs hbA hL ⟨by omega, by omega⟩ (by omega) hwk (fun f4 f5 f6 hf => ?_) N 0 _ _ _ (by omega) (fun t ht => absurd ht (Nat.not_lt_zero _))
  refine x_aload_n C 1 dL_law_130 rfl ?_
  refine x_bipush (v := 8) C dL_law_131 (by decide +kernel) ?_
  refine q_pr C hA hR0 tl_SlabCutterLaw_94 ⟨Nat.le_of_ble_eq_true rfl, Nat.le_of_ble_eq_true rfl⟩ (Nat.le_of_ble_eq_true rfl) ⟨(by omega : c6 ≤ 600086), (by omega : s6 ≤ 7301442)⟩ dL_law_133 h8 ?_
  refine x_istore (lv' := [(7, iV cv), (0, .ref b), (1, .ref (ad 1)), (2, iV k), (3, iV (N : Nat)), (4, .ref q4), (5, .ref q5), (6, .ref q6)]) C dL_law_136 (by decide) rfl ?_
  refine x_aload_n C 2 dL_law_138 rfl ?_
  refine x_aload_n C 1 dL_law_139 rfl ?_
  refine x_iload_n C 3 dL_law_140 rfl ?_
  refine q_X (d := (na, ad, c6, s6)) (rm := rmv 10 280 50 28000) (As := [.ref (ad 1), .ref b, iV k]) (rest := []) C hA hR0 hX hbs hbA tm_L_act tl_SlabCutterLaw_222 ⟨rfl, rfl⟩ ⟨Nat.le_of_ble_eq_true rfl, Nat.le_of_ble_eq_true rfl⟩ rfl rfl (Nat.le_of_ble_eq_true rfl) ⟨(by omega : c6 + 50 ≤ 600086), (by omega : s6 + 28000 ≤ 7301442)⟩ dL_law_141 (cL_act_ g.l g.G hfl hL hk hact) (fun d1 hag hn hc hs => ?_)
  obtain ⟨na1, ad1, c9, s9⟩ := d1
  replace hn : na1 = z.2.1 := hn
  replace hc : c9 = c6 + 50 := hc
  replace hs : s9 = s6 + 28000 := hs
  rw [show ad 1 = ad1 1 from (hag.2 1 (fun h => nomatch h)).symm]
  refine x_istore (lv' := [(8, iV z.1), (7, iV cv), (0, .ref b), (1, .ref (ad1 1)), (2, iV k), (3, iV (N : Nat)), (4, .ref q4), (5, .ref q5), (6, .ref q6)]) C dL_law_144 (by decide) rfl ?_
  refine x_aload_n C 3 dL_law_146 rfl ?_
  refine q_st C hA hR0 tm_L_stands tl_SlabCutterLaw_218 ⟨Nat.le_of_ble_eq_true rfl, Nat.le_of_ble_eq_true rfl⟩ (Nat.le_of_ble_eq_true rfl) ⟨(by omega : c9 ≤ 600086), (by omega : s9 ≤ 7301442)⟩ dL_law_147 hst ?_
  refine x_if_eq (tgt := 164) (P1 := none) (P2 := some ()) (z := ()) C dL_law_150 (by decide) (if_neg (by decide +kernel)) (fun h => nomatch h) (fun _ => ?_)
  refine x_aload_n C 3 dL_law_153 rfl ?_
  refine x_bipush (v := 8) C dL_law_154 (by decide +kernel) ?_
  refine q_pr C hA hR0 tl_SlabCutterLaw_94 ⟨Nat.le_of_ble_eq_true rfl, Nat.le_of_ble_eq_true rfl⟩ (Nat.le_of_ble_eq_true rfl) ⟨(by omega : c9 ≤ 600086), (by omega : s9 ≤ 7301442)⟩ dL_law_156 h82 ?_
  refine x_iload C 1 dL_law_159 rfl ?_
  refine x_icmp_ge (tgt := 166) (P1 := none) (P2 := some ()) (z := ()) C dL_law_161 (by decide) (if_neg (by rw [ltq (by omega)]; omega)) (fun _ => ?_) (fun h => nomatch h)
  refine x_iconst C dL_law_166 ?_
  refine x_istore (lv' := [(9, iV 0), (8, iV z.1), (7, iV cv), (0, .ref b), (1, .ref (ad1 1)), (2, iV k), (3, iV (N : Nat)), (4, .ref q4), (5, .ref q5), (6, .ref q6)]) C dL_law_167 (by decide) rfl ?_
  refine XG.sub [3, 4, 5, 6, 7, 8, 9, 0] rfl ?_
  refine L_lawC (v6 := v6) (ce := c9) (so := s9) (ad := ad1) (na := na1) C hfl hA hR0 hX hbs hbA hL ⟨by omega, by omega⟩ (by omega) hwk2 hf ?_ N 0 (by omega)
  refine x_iinc (lv' := [(2, iV (k + 3)), (0, .ref b), (1, .ref (ad1 1))]) C 2 dL_law_228 rfl (by decide) rfl ?_
  refine x_goto (tgt := 28) C dL_law_231 (by decide) ?_
  refine XG.sub [1, 2, 0] rfl ?_
  subst hn
  exact K ad1 c9 s9 (by omega) (by omega) hP

theorem L_rounds {g : Cx} {ret9 : Option FieldType} (C : CX g cL_law 10 ret9 RL) (hfl : g.l.stackTraces = false) (hA : ∀ q : Nat, g.s.heap.size ≤ q → g.A q) (hR0 : g.R = room_1) {b L : Nat} {xs : Nat → Int32} (hX : va_X b L xs g.s g.s.heap) (hbs : b < g.s.heap.size) (hbA : ¬ g.A b) (hL : L ≤ 260) {I : Nat → Nat → Wd → Prop} (hR : ∀ (i na : Nat) (w : Wd), i < 50 → I i na w → RoundOK xs L (50 + 3 * (i : Int)) na w (I (i + 1)))
    (K : ∀ (na : Nat) (ad : Nat → Nat) (c s : Nat) (w : Wd) (lv : List (Nat × Value)), c ≤ 400000 → s ≤ 6000000 → XG g (na, ad, c, s) (hY g (na, ad, c, s) w []) lv [iV 1] 235) :
    ∀ (j i na : Nat) (ad : Nat → Nat) (ce so : Nat) (w : Wd) (k : Int), i + j = 50 → k = 50 + 3 * (i : Int) → I i na w → ce ≤ 10000 + 53 * i → so ≤ 300000 + 28180 * i → XG g (na, ad, ce, so) (hY g (na, ad, ce, so) w []) [(0, .ref b), (1, .ref (ad 1)), (2, iV k)] [] 28 := by
  intro j
  induction j with
  | zero =>
    intro i na ad ce so w k hi hk hI h1 h2
    refine x_iload_n C 2 dL_law_28 rfl ?_
    refine x_iconst C dL_law_29 ?_
    refine x_iadd C dL_law_30 ?_
    refine x_sipush (v := 200) C dL_law_31 (by decide +kernel) ?_
    refine x_icmp_ge (tgt := 234) (P1 := none) (P2 := some ()) (z := ()) C dL_law_34 (by decide) (if_neg (by rw [ltq (by omega)]; omega)) (fun _ => ?_) (fun h => nomatch h)
    refine x_iconst C dL_law_234 ?_
    exact K _ _ _ _ _ _ (by omega) (by omega)
  | succ j ih =>
    intro i na ad ce so w k hi hk hI h1 h2
    have hro := hR i na w (by omega) hI
    rw [← hk] at hro
    refine x_iload_n C 2 dL_law_28 rfl ?_
    refine x_iconst C dL_law_29 ?_
    refine x_iadd C dL_law_30 ?_
    refine x_sipush (v := 200) C dL_law_31 (by decide +kernel) ?_
    refine x_icmp_ge (tgt := 234) (P1 := some ()) (P2 := none) (z := ()) C dL_law_34 (by decide) (if_pos (by rw [ltq (by omega)]; omega)) (fun h => nomatch h) (fun _ => ?_)
    refine L_round (ce := ce) (so := so) C hfl hA hR0 hX hbs hbA hL ⟨by omega, by omega⟩ ⟨by omega, by omega⟩ hro (fun ad1 c1 s1 {z} e1 e2 hP => ?_)
    exact ih (i + 1) z.2.1 ad1 c1 s1 z.2.2 (k + 3) (by omega) (by omega) hP (by omega) (Nat.le_trans e2 (Nat.le_trans (Nat.add_le_add_right h2 28180) (Nat.le_of_eq (by rw [Nat.mul_succ, Nat.add_assoc]))))

theorem L_law8 {g : Cx} {ret9 : Option FieldType} (C : CX g cL_law 10 ret9 RL) (hfl : g.l.stackTraces = false) (hA : ∀ q : Nat, g.s.heap.size ≤ q → g.A q) (hR0 : g.R = room_1) {b L : Nat} {xs : Nat → Int32} (hX : va_X b L xs g.s g.s.heap) (hbs : b < g.s.heap.size) (hbA : ¬ g.A b) (hL : L ≤ 260) {I : Nat → Nat → Wd → Prop} (hR : ∀ (i na : Nat) (w : Wd), i < 50 → I i na w → RoundOK xs L (50 + 3 * (i : Int)) na w (I (i + 1)))
    (K : ∀ (na : Nat) (ad : Nat → Nat) (c s : Nat) (w : Wd) (lv : List (Nat × Value)), c ≤ 400000 → s ≤ 6000000 → XG g (na, ad, c, s) (hY g (na, ad, c, s) w []) lv [iV 1] 235)
    {na : Nat} {ad : Nat → Nat} {ce so : Nat} {w w1 w2 : Wd} {na2 n : Nat} {laid : Int} (hcs : ce ≤ 1000 ∧ so ≤ 50000) (hfd : fedF (loadT xs L) n 0 0 w = some w1) (hld : LDok xs L na w1 na2 w2 laid) (hst : p_L_stands w2 = some (1, w2)) (hI : I 0 na2 w2) : XG g (na, ad, ce, so) (hY g (na, ad, ce, so) w []) [(1, .ref (ad 1)), (0, .ref b)] [] 8 := by
  obtain ⟨hcs1, hcs2⟩ := hcs
  refine x_aload_n C 0 dL_law_8 rfl ?_
  refine x_aload_n C 1 dL_law_9 rfl ?_
  refine q_X (d := (na, ad, ce, so)) (rm := rmv 12 420 250 200000) (As := [.ref (ad 1), .ref b]) (rest := []) C hA hR0 hX hbs hbA tm_L_load tl_SlabCutterLaw_215 ⟨rfl, rfl⟩ ⟨Nat.le_of_ble_eq_true rfl, Nat.le_of_ble_eq_true rfl⟩ rfl rfl (Nat.le_of_ble_eq_true rfl) ⟨(by omega : ce + 250 ≤ 600086), (by omega : so + 200000 ≤ 7301442)⟩ dL_law_10 (cL_load_ g.l g.G hfl hL hfd hld) (fun d1 hag hn hc hs => ?_)
  obtain ⟨na1, ad1, c9, s9⟩ := d1
  replace hn : na1 = na2 := hn
  replace hc : c9 = ce + 250 := hc
  replace hs : s9 = so + 200000 := hs
  rw [show ad 1 = ad1 1 from (hag.2 1 (fun h => nomatch h)).symm]
  refine x_if_eq (tgt := 23) (P1 := none) (P2 := some ()) (z := ()) C dL_law_13 (by decide) (if_neg (show ¬ eq32 1 0 = true by decide +kernel)) (fun h => nomatch h) (fun _ => ?_)
  refine x_aload_n C 0 dL_law_16 rfl ?_
  refine q_st C hA hR0 tm_L_stands tl_SlabCutterLaw_218 ⟨Nat.le_of_ble_eq_true rfl, Nat.le_of_ble_eq_true rfl⟩ (Nat.le_of_ble_eq_true rfl) ⟨(by omega : c9 ≤ 600086), (by omega : s9 ≤ 7301442)⟩ dL_law_17 hst ?_
  refine x_if_ne (tgt := 25) (P1 := none) (P2 := some ()) (z := ()) C dL_law_20 (by decide) (if_neg (by decide +kernel)) (fun _ => ?_) (fun h => nomatch h)
  refine x_bipush (v := 50) C dL_law_25 (by decide +kernel) ?_
  refine x_istore_n (lv' := [(2, iV 50), (1, .ref (ad1 1)), (0, .ref b)]) C dL_law_27 (by decide) rfl ?_
  refine XG.sub [2, 1, 0] rfl ?_
  subst hn
  exact L_rounds C hfl hA hR0 hX hbs hbA hL hR K 50 0 na1 ad1 c9 s9 w2 50 rfl rfl hI (by omega) (by omega)

