theorem fj_cs : Cond.fieldLink "java/lang/String" 38 "java/lang/String" "COMPACT_STRINGS" "Z" ∈ lw_tg := in_tg 505 (by decide +kernel) rfl
theorem fj_coder : Cond.fieldLink "java/lang/String" 15 "java/lang/String" "coder" "B" ∈ lw_tg := in_tg 752 (by decide +kernel) rfl
theorem fj_value : Cond.fieldLink "java/lang/String" 9 "java/lang/String" "value" "[B" ∈ lw_tg := in_tg 751 (by decide +kernel) rfl
theorem fj_fmt : Cond.fieldLink "java/lang/String" 1053 "jdk/internal/util/Preconditions" "SIOOBE_FORMATTER" "Ljava/util/function/BiFunction;" ∈ lw_tg := in_tg 582 (by decide +kernel) rfl
theorem lj_335 : Cond.methodLink "java/lang/String" 335 ⟨"java/lang/String", "coder", "()B"⟩ ∈ lw_tg := in_tg 501 (by decide +kernel) rfl
theorem lj_492 : Cond.methodLink "java/lang/String" 492 ⟨"java/lang/String", "isLatin1", "()Z"⟩ ∈ lw_tg := in_tg 773 (by decide +kernel) rfl
theorem lj_495 : Cond.methodLink "java/lang/String" 495 ⟨"java/lang/StringLatin1", "charAt", "([BI)C"⟩ ∈ lw_tg := in_tg 777 (by decide +kernel) rfl
theorem lj_9 : Cond.methodLink "java/lang/StringLatin1" 9 ⟨"java/lang/String", "checkIndex", "(II)V"⟩ ∈ lw_tg := in_tg 780 (by decide +kernel) rfl
theorem lj_1059 : Cond.methodLink "java/lang/String" 1059 ⟨"jdk/internal/util/Preconditions", "checkIndex", "(IILjava/util/function/BiFunction;)I"⟩ ∈ lw_tg := in_tg 699 (by decide +kernel) rfl
theorem mj_coder : mfV yJ0_coder_7d493 cJ0_coder_7d493 1 (some .byte) 0 := ⟨in_tg 502 (by decide +kernel) rfl, in_tg 503 (by decide +kernel) rfl, in_tg 45 (by decide +kernel) rfl, in_tg 504 (by decide +kernel) rfl, by decide +kernel, by decide +kernel, by decide +kernel⟩
theorem mj_length : mfV yJ0_length_8abf5 cJ0_length_8abf5 1 (some .int) 0 := ⟨in_tg 498 (by decide +kernel) rfl, in_tg 499 (by decide +kernel) rfl, in_tg 45 (by decide +kernel) rfl, in_tg 500 (by decide +kernel) rfl, by decide +kernel, by decide +kernel, by decide +kernel⟩
theorem mj_isLatin1 : mfV yJ0_isLatin1_aae02 cJ0_isLatin1_aae02 1 (some .boolean) 0 := ⟨in_tg 774 (by decide +kernel) rfl, in_tg 775 (by decide +kernel) rfl, in_tg 45 (by decide +kernel) rfl, in_tg 776 (by decide +kernel) rfl, by decide +kernel, by decide +kernel, by decide +kernel⟩
theorem mj_charAt : mfV yJ0_charAt_5068e cJ0_charAt_5068e 2 (some .char) 1 := ⟨in_tg 770 (by decide +kernel) rfl, in_tg 771 (by decide +kernel) rfl, in_tg 45 (by decide +kernel) rfl, in_tg 772 (by decide +kernel) rfl, by decide +kernel, by decide +kernel, by decide +kernel⟩
theorem mj_charAt1 : mfS yJ1_charAt_3b067 cJ1_charAt_3b067 2 (some .char) 2 := ⟨in_tg 778 (by decide +kernel) rfl, in_tg 52 (by decide +kernel) rfl, in_tg 779 (by decide +kernel) rfl, by decide +kernel, by decide +kernel, by decide +kernel⟩
theorem mj_checkIndex : mfS yJ0_checkIndex_df160 cJ0_checkIndex_df160 2 none 2 := ⟨in_tg 697 (by decide +kernel) rfl, in_tg 45 (by decide +kernel) rfl, in_tg 698 (by decide +kernel) rfl, by decide +kernel, by decide +kernel, by decide +kernel⟩
theorem mj_checkIndex3 : mfS yJ3_checkIndex_8e157 cJ3_checkIndex_8e157 3 (some .int) 3 := ⟨in_tg 700 (by decide +kernel) rfl, in_tg 51 (by decide +kernel) rfl, in_tg 701 (by decide +kernel) rfl, by decide +kernel, by decide +kernel, by decide +kernel⟩
/-! ===== texts: the JDK's own methods on them ===== -/
def slen (i : Nat) : Nat := lenT.getD i 0
def sch (i : Nat) (k : Int) : Int := ((bytT.getD i []).getD k.toNat 0).toInt
section XJ
variable {g : Cx} {d : Dl} {cc : ByteArray} {nL : Nat} {ret : Option FieldType} {own : String} {w : Wd} {lv : List (Nat × Value)} {st : List Value} {pc : Nat}
theorem x_callGi (C : CX g cc nL ret own) {rmO : Room} (hA : ∀ q : Nat, g.s.heap.size ≤ q → g.A q) (hR : g.R = rmO) {y : MethodName} {cc' : ByteArray} {nL' n index : Nat} {ret' : Option FieldType} {rm : Room} {b : Nat} {As rest stk : List Value} {α : Type} {pv : Option (Int × Wd)} {Kt : Int × Wd → Option α} {res : α}
    (hf : mfV y cc' nL' ret' n) (hlk : Cond.methodLink own index y ∈ lw_tg) (hrc : ∀ (H : Heap) (locs : List Loc), va_S g.A g.s.heap H locs → ∃ cell : Cell, H[b]? = some cell ∧ cell.vm.isStatics = false ∧ g.s.vm.findClass y.cls = some cell.cls) (hrm : rm.cells = 0 ∧ rm.slots = 0) (hrr : rm.frames + 1 ≤ rmO.frames ∧ 8 + (nL' + 11) + rm.locals ≤ rmO.locals)
    (hst : stk = As.reverse ++ .ref b :: rest) (hn : As.length = n) (hro : (rest.map fun v => v.category).sum ≤ 8) (hce : d.ce ≤ g.R.cells ∧ d.so ≤ g.R.slots) (dg : decode cc pc = .ok (.invokevirtual index, 3))
    (hq : pv.bind Kt = some res) (hM : ∀ r w', pv = some (r, w') → mI g.l y cc' nL' ret' rm g.G g.dm d.na d.ad (.ref b :: As) w r w')
    (k' : ∀ r w', pv = some (r, w') → Kt (r, w') = some res → XG g d (hP g d w') lv (iV r :: rest) (pc + 3)) : XG g d (hP g d w) lv stk pc := by
  intro H locs ls h1 h2 h3
  obtain ⟨⟨r, w'⟩, hpv, hq⟩ := Option.bind_eq_some_iff.mp hq
  obtain ⟨f1, f2, f3, f4, f5, f6, f7⟩ := hf
  have hF := wdH.rg h1 h2 hA
  refine va_calli (va_runV (C := y.cls) (As := As) (rest := rest) ⟨C.x, C.b, C.ml, C.o, C.t⟩ (hM r w' hpv H.size)
    ⟨callB_of n C.t (good_tg f4) rfl hrm.1 hrm.2 (C.t _ f3) (C.t _ hlk) ⟨f5, f6, f7⟩ (by rw [hR]; exact hrr), C.t _ f1, C.t _ f2⟩
    ⟨preS.blind, hrc H locs h2, pre_of C h1 h2 hF⟩ rfl hn (by show ls.size = nL; rw [h3.1, C.n]) hst (lv_room hro) dg ⟨hce.1, hce.2⟩) h2 (fun q _ h => hF q h) hF (fun v u t H1 locs1 ht hvm hw hB hz1 hk1 hS => ?_)
  have hB : wdH g.G g.dm d.na d.ad w' (rg g.dm d.na d.ad H.size) t.heap := hB
  rw [ht] at hB
  rw [hw]
  exact k' r w' hpv hq H1 locs1 ls (hB.weaken hF) hS h3

theorem x_compact (C : CX g cc nL ret own) {hp : Heap → Prop} {index : Nat} (hl : Cond.fieldLink own index "java/lang/String" "COMPACT_STRINGS" "Z" ∈ lw_tg) (dg : decode cc pc = .ok (.getstatic index, 3)) (k : XG g d hp lv (iV 1 :: st) (pc + 3)) : XG g d hp lv st pc :=
  fun H locs ls h1 h2 h3 => va_gets C.x C.b C.E.2.2.1 h2 C.o (C.t _ hl) (fun _ h => h) dg (k H locs ls h1 h2 h3)
theorem x_scoder (C : CX g cc nL ret own) {hp : Heap → Prop} {i index : Nat} (hi : i < 14) (hl : Cond.fieldLink own index "java/lang/String" "coder" "B" ∈ lw_tg) (dg : decode cc pc = .ok (.getfield index, 3)) (k : XG g d hp lv (iV 0 :: st) (pc + 3)) : XG g d hp lv (.ref (g.G.aK i) :: st) pc :=
  fun H locs ls h1 h2 h3 => vk_getf C.x C.b (C.E.1.1 i hi).2.1 h2 C.o (C.t _ hl) (fun _ h => h) dg (k H locs ls h1 h2 h3)
theorem x_svalue (C : CX g cc nL ret own) {hp : Heap → Prop} {i index : Nat} (hi : i < 14) (hl : Cond.fieldLink own index "java/lang/String" "value" "[B" ∈ lw_tg) (dg : decode cc pc = .ok (.getfield index, 3)) (k : XG g d hp lv (.ref (g.G.aV i) :: st) (pc + 3)) : XG g d hp lv (.ref (g.G.aK i) :: st) pc :=
  fun H locs ls h1 h2 h3 => vk_getf C.x C.b (C.E.1.1 i hi).2.2.1 h2 C.o (C.t _ hl) (fun _ h => h) dg (k H locs ls h1 h2 h3)
theorem x_svlen (C : CX g cc nL ret own) {hp : Heap → Prop} {i : Nat} (hi : i < 14) (dg : decode cc pc = .ok (.arraylength, 1)) (k : XG g d hp lv (iV (slen i : Nat) :: st) (pc + 1)) : XG g d hp lv (.ref (g.G.aV i) :: st) pc :=
  fun H locs ls h1 h2 h3 => va_tlen C.x C.b (C.E.1.1 i hi).2.2.2 h2 (by rw [← Int32.ofInt_eq_ofNat]; rfl) dg (k H locs ls h1 h2 h3)
theorem x_svat (C : CX g cc nL ret own) {hp : Heap → Prop} {i : Nat} {j : Int} (hi : i < 14) (hj : inb j (slen i) = true) (dg : decode cc pc = .ok (.baload, 1)) (k : XG g d hp lv (iV (sch i j) :: st) (pc + 1)) : XG g d hp lv (iV j :: .ref (g.G.aV i) :: st) pc := by
  intro H locs ls h1 h2 h3
  have hs : slen i < 2147483648 := (by decide +kernel : ∀ i, i < 14 → slen i < 2147483648) i hi
  obtain ⟨e1, e2, e3⟩ := inb_cl hj hs
  refine va_tb C.x C.b (C.E.1.1 i hi).2.2.2 h2 e2 ?_ dg (k H locs ls h1 h2 h3)
  rw [e1]
  show _ = Value.int (Int32.ofInt ((bytT.getD i []).getD j.toNat 0).toInt)
  rw [ofInt_toInt]
theorem c_coder (l : Launch) (G : Gd) {dm na : Nat} {ad : Nat → Nat} {w : Wd} {i : Nat} (hi : i < 14) : mI l yJ0_coder_7d493 cJ0_coder_7d493 1 (some .byte) (rmv 0 0 0 0) G dm na ad [.ref (G.aK i)] w 0 w := by
  refine met_I [(0, .ref (G.aK i))] (by decide) (Nat.le_of_ble_eq_true rfl) rfl .byte rfl (fun g d C S hR => ?_)
  obtain ⟨rfl, hR0, rfl, rfl, rfl, hA⟩ := S
  refine x_compact C fj_cs dJ0_coder_7d493_0 ?_
  refine x_if_eq (tgt := 13) (P1 := none) (P2 := some ()) (z := ()) C dJ0_coder_7d493_3 (by decide) rfl (fun h => nomatch h) (fun _ => ?_)
  refine x_aload_n C 0 dJ0_coder_7d493_6 rfl ?_
  refine x_scoder C hi fj_coder dJ0_coder_7d493_7 ?_
  refine x_goto (tgt := 14) C dJ0_coder_7d493_10 (by decide) ?_
  exact hR _ _ _ _ rfl (by decide +kernel) dJ0_coder_7d493_14
theorem c_isLatin1 (l : Launch) (G : Gd) {dm na : Nat} {ad : Nat → Nat} {w : Wd} {i : Nat} (hi : i < 14) : mI l yJ0_isLatin1_aae02 cJ0_isLatin1_aae02 1 (some .boolean) (rmv 0 0 0 0) G dm na ad [.ref (G.aK i)] w 1 w := by
  refine met_I [(0, .ref (G.aK i))] (by decide) (Nat.le_of_ble_eq_true rfl) rfl .boolean rfl (fun g d C S hR => ?_)
  obtain ⟨rfl, hR0, rfl, rfl, rfl, hA⟩ := S
  refine x_compact C fj_cs dJ0_isLatin1_aae02_0 ?_
  refine x_if_eq (tgt := 17) (P1 := none) (P2 := some ()) (z := ()) C dJ0_isLatin1_aae02_3 (by decide) rfl (fun h => nomatch h) (fun _ => ?_)
  refine x_aload_n C 0 dJ0_isLatin1_aae02_6 rfl ?_
  refine x_scoder C hi fj_coder dJ0_isLatin1_aae02_7 ?_
  refine x_if_ne (tgt := 17) (P1 := some ()) (P2 := none) (z := ()) C dJ0_isLatin1_aae02_10 (by decide) rfl (fun h => nomatch h) (fun _ => ?_)
  refine x_iconst C dJ0_isLatin1_aae02_13 ?_
  refine x_goto (tgt := 18) C dJ0_isLatin1_aae02_14 (by decide) ?_
  exact hR _ _ _ _ rfl (by decide +kernel) dJ0_isLatin1_aae02_18
theorem srecv (C : CX g cc nL ret own) {i : Nat} (hi : i < 14) (H : Heap) (locs : List Loc) (h2 : va_S g.A g.s.heap H locs) : ∃ cell : Cell, H[g.G.aK i]? = some cell ∧ cell.vm.isStatics = false ∧ g.s.vm.findClass "java/lang/String" = some cell.cls := vk_recv C.E.1 hi h2
theorem c_slength (l : Launch) (G : Gd) {dm na : Nat} {ad : Nat → Nat} {w : Wd} {i : Nat} (hi : i < 14) : mI l yJ0_length_8abf5 cJ0_length_8abf5 1 (some .int) (rmv 1 20 0 0) G dm na ad [.ref (G.aK i)] w (slen i : Nat) w := by
  refine met_I [(0, .ref (G.aK i))] (by decide) (Nat.le_of_ble_eq_true rfl) rfl .int rfl (fun g d C S hR => ?_)
  obtain ⟨rfl, hR0, rfl, rfl, rfl, hA⟩ := S
  refine x_aload_n C 0 dJ0_length_8abf5_0 rfl ?_
  refine x_svalue C hi fj_value dJ0_length_8abf5_1 ?_
  refine x_svlen C hi dJ0_length_8abf5_4 ?_
  refine x_aload_n C 0 dJ0_length_8abf5_5 rfl ?_
  refine x_callGi (rm := rmv 0 0 0 0) (As := []) (rest := [iV (slen i : Nat)]) (pv := some (0, w)) (Kt := some) (res := (0, w)) C hA hR0 mj_coder lj_335 (srecv C hi) ⟨rfl, rfl⟩ ⟨Nat.le_of_ble_eq_true rfl, Nat.le_of_ble_eq_true rfl⟩ rfl rfl (Nat.le_of_ble_eq_true rfl) ⟨Nat.zero_le _, Nat.zero_le _⟩ dJ0_length_8abf5_6 rfl (fun r w' e => by cases e; exact c_coder _ _ hi) (fun r w' e _ => ?_)
  cases e
  refine x_ishr C dJ0_length_8abf5_9 ?_
  have e : sr32 ((slen i : Nat) : Int) 0 = (slen i : Nat) := (by decide +kernel : ∀ i, i < 14 → sr32 ((slen i : Nat) : Int) 0 = (slen i : Nat)) i hi
  rw [e]
  exact hR _ _ _ _ rfl rfl dJ0_length_8abf5_10
theorem c_checkIndex3 (l : Launch) (G : Gd) {dm na : Nat} {ad : Nat → Nat} {w : Wd} {k n : Int} {v : Value} (hv : v.category = 1) (h0 : lt32 k 0 = false) (h1 : lt32 k n = true) : mI l yJ3_checkIndex_8e157 cJ3_checkIndex_8e157 3 (some .int) (rmv 0 0 0 0) G dm na ad [iV k, iV n, v] w k w := by
  refine met_I [(0, iV k), (1, iV n), (2, v)] (by decide) ?_ ?_ .int rfl (fun g d C S hR => ?_)
  · cases v <;> first | exact Nat.le_of_ble_eq_true rfl | cases hv
  · cases v <;> first | rfl | cases hv
  obtain ⟨rfl, hR0, rfl, rfl, rfl, hA⟩ := S
  refine x_iload_n C 0 dJ3_checkIndex_8e157_0 rfl ?_
  refine x_if_lt (tgt := 9) (P1 := none) (P2 := some ()) (z := ()) C dJ3_checkIndex_8e157_1 (by decide) (by rw [h0]; rfl) (fun h => nomatch h) (fun _ => ?_)
  refine x_iload_n C 0 dJ3_checkIndex_8e157_4 rfl ?_
  refine x_iload_n C 1 dJ3_checkIndex_8e157_5 rfl ?_
  refine x_icmp_lt (tgt := 16) (P1 := some ()) (P2 := none) (z := ()) C dJ3_checkIndex_8e157_6 (by decide) (by rw [h1]; rfl) (fun _ => ?_) (fun h => nomatch h)
  refine x_iload_n C 0 dJ3_checkIndex_8e157_16 rfl ?_
  exact hR _ _ _ _ rfl rfl dJ3_checkIndex_8e157_17
end XJ

section XJ2
variable {g : Cx} {d : Dl} {cc : ByteArray} {nL : Nat} {ret : Option FieldType} {own : String} {w : Wd} {lv : List (Nat × Value)} {st : List Value} {pc : Nat}
theorem x_fmt (C : CX g cc nL ret own) {hp : Heap → Prop} {index : Nat} (hl : Cond.fieldLink own index "jdk/internal/util/Preconditions" "SIOOBE_FORMATTER" "Ljava/util/function/BiFunction;" ∈ lw_tg) (dg : decode cc pc = .ok (.getstatic index, 3)) (k : ∀ v : Value, v.category = 1 → XG g d hp lv (v :: st) (pc + 3)) : XG g d hp lv st pc := by
  intro H locs ls h1 h2 h3
  rcases C.E.2.2.2.1 with hz | ⟨t, hz⟩
  · exact va_gets C.x C.b hz h2 C.o (C.t _ hl) (fun _ h => h) dg (k .null rfl H locs ls h1 h2 h3)
  · exact va_gets C.x C.b hz h2 C.o (C.t _ hl) (fun _ h => h) dg (k (.ref t) rfl H locs ls h1 h2 h3)
theorem x_pop (C : CX g cc nL ret own) {hp : Heap → Prop} {v : Value} (hv : v.category = 1) (dg : decode cc pc = .ok (.pop, 1)) (k : XG g d hp lv st (pc + 1)) : XG g d hp lv (v :: st) pc := fun H locs ls h1 h2 h3 => lv_pop C.x C.b dg hv (k H locs ls h1 h2 h3)
def ch16 (x : Int) : Int := ((Int32.ofInt x).toUInt32 % 65536).toInt32.toInt
theorem x_i2c (C : CX g cc nL ret own) {hp : Heap → Prop} {a : Int} (dg : decode cc pc = .ok (.i2c, 1)) (k : XG g d hp lv (iV (ch16 a) :: st) (pc + 1)) : XG g d hp lv (iV a :: st) pc := fun H locs ls h1 h2 h3 => lv_i2c C.x C.b dg rfl (by have e := k H locs ls h1 h2 h3; unfold iV ch16 at e; rw [ofInt_toInt] at e; exact e)
theorem c_checkIndex (l : Launch) (G : Gd) {dm na : Nat} {ad : Nat → Nat} {w : Wd} {k n : Int} (h0 : lt32 k 0 = false) (h1 : lt32 k n = true) : mV l yJ0_checkIndex_df160 cJ0_checkIndex_df160 2 none (rmv 1 22 0 0) G dm na ad [iV k, iV n] w w := by
  refine met_V [(0, iV k), (1, iV n)] (by decide) (Nat.le_of_ble_eq_true rfl) rfl rfl (fun g d C S hR => ?_)
  obtain ⟨rfl, hR0, rfl, rfl, rfl, hA⟩ := S
  refine x_iload_n C 0 dJ0_checkIndex_df160_0 rfl ?_
  refine x_iload_n C 1 dJ0_checkIndex_df160_1 rfl ?_
  refine x_fmt C fj_fmt dJ0_checkIndex_df160_2 (fun v hv => ?_)
  refine x_callSi (rm := rmv 0 0 0 0) (As := [iV k, iV n, v]) (rest := []) (pv := some (k, w)) (Kt := some) (res := (k, w)) C hA hR0 mj_checkIndex3 lj_1059 ⟨rfl, rfl⟩ ⟨Nat.le_of_ble_eq_true rfl, Nat.le_of_ble_eq_true rfl⟩ rfl rfl (Nat.le_of_ble_eq_true rfl) ⟨Nat.zero_le _, Nat.zero_le _⟩ dJ0_checkIndex_df160_5 rfl (fun r w' e => by cases e; exact c_checkIndex3 _ _ hv h0 h1) (fun r w' e _ => ?_)
  cases e
  refine x_pop C rfl dJ0_checkIndex_df160_8 ?_
  exact hR _ _ _ rfl dJ0_checkIndex_df160_9
theorem inb_lt {k : Int} {n : Nat} (h : inb k n = true) (hn : n < 2147483648) : lt32 k 0 = false ∧ lt32 k (n : Nat) = true := by
  have h1 := of_decide_eq_true h
  unfold lt32
  rw [w32_id (x := k) (by omega) (by omega), w32_id (x := (n : Int)) (by omega) (by omega), w32_id (x := 0) (by omega) (by omega)]
  exact ⟨decide_eq_false (by omega), decide_eq_true (by omega)⟩
theorem slen_lt {i : Nat} (hi : i < 14) : slen i < 2147483648 := (by decide +kernel : ∀ i, i < 14 → slen i < 2147483648) i hi
theorem sch_ok {i : Nat} {k : Int} (hi : i < 14) (h : inb k (slen i) = true) : ch16 (an32 (sch i k) 255) = sch i k ∧ narrow .char (iV (sch i k)) = iV (sch i k) := by
  have h1 := of_decide_eq_true h
  obtain ⟨j, hj⟩ : ∃ j : Nat, k = (j : Nat) := ⟨k.toNat, by omega⟩
  subst hj
  have h2 : j < slen i := by omega
  exact (by decide +kernel : ∀ i, i < 14 → ∀ j : Nat, j < slen i → ch16 (an32 (sch i (j : Nat)) 255) = sch i (j : Nat) ∧ narrow .char (iV (sch i (j : Nat))) = iV (sch i (j : Nat))) i hi j h2
theorem c_charAt1 (l : Launch) (G : Gd) {dm na : Nat} {ad : Nat → Nat} {w : Wd} {i : Nat} {k : Int} (hi : i < 14) (hk : inb k (slen i) = true) : mI l yJ1_charAt_3b067 cJ1_charAt_3b067 2 (some .char) (rmv 2 43 0 0) G dm na ad [.ref (G.aV i), iV k] w (sch i k) w := by
  refine met_I [(0, .ref (G.aV i)), (1, iV k)] (by decide) (Nat.le_of_ble_eq_true rfl) rfl .char rfl (fun g d C S hR => ?_)
  obtain ⟨rfl, hR0, rfl, rfl, rfl, hA⟩ := S
  obtain ⟨h0, h1⟩ := inb_lt hk (slen_lt hi)
  refine x_iload_n C 1 dJ1_charAt_3b067_0 rfl ?_
  refine x_aload_n C 0 dJ1_charAt_3b067_1 rfl ?_
  refine x_svlen C hi dJ1_charAt_3b067_2 ?_
  refine x_callSv (rm := rmv 1 22 0 0) (As := [iV k, iV (slen i : Nat)]) (rest := []) (pv := some w) (Kt := some) (res := w) C hA hR0 mj_checkIndex lj_9 ⟨rfl, rfl⟩ ⟨Nat.le_of_ble_eq_true rfl, Nat.le_of_ble_eq_true rfl⟩ rfl rfl (Nat.le_of_ble_eq_true rfl) ⟨Nat.zero_le _, Nat.zero_le _⟩ dJ1_charAt_3b067_3 rfl (fun w' e => by cases e; exact c_checkIndex _ _ h0 h1) (fun w' e _ => ?_)
  cases e
  refine x_aload_n C 0 dJ1_charAt_3b067_6 rfl ?_
  refine x_iload_n C 1 dJ1_charAt_3b067_7 rfl ?_
  refine x_svat C hi hk dJ1_charAt_3b067_8 ?_
  refine x_sipush (v := 255) C dJ1_charAt_3b067_9 (by decide +kernel) ?_
  refine x_iand C dJ1_charAt_3b067_12 ?_
  refine x_i2c C dJ1_charAt_3b067_13 ?_
  rw [(sch_ok hi hk).1]
  exact hR _ _ _ _ rfl (sch_ok hi hk).2 dJ1_charAt_3b067_14
theorem c_scharAt (l : Launch) (G : Gd) {dm na : Nat} {ad : Nat → Nat} {w : Wd} {i : Nat} {k : Int} (hi : i < 14) (hk : inb k (slen i) = true) : mI l yJ0_charAt_5068e cJ0_charAt_5068e 2 (some .char) (rmv 3 64 0 0) G dm na ad [.ref (G.aK i), iV k] w (sch i k) w := by
  refine met_I [(0, .ref (G.aK i)), (1, iV k)] (by decide) (Nat.le_of_ble_eq_true rfl) rfl .char rfl (fun g d C S hR => ?_)
  obtain ⟨rfl, hR0, rfl, rfl, rfl, hA⟩ := S
  refine x_aload_n C 0 dJ0_charAt_5068e_0 rfl ?_
  refine x_callGi (rm := rmv 0 0 0 0) (As := []) (rest := []) (pv := some (1, w)) (Kt := some) (res := (1, w)) C hA hR0 mj_isLatin1 lj_492 (srecv C hi) ⟨rfl, rfl⟩ ⟨Nat.le_of_ble_eq_true rfl, Nat.le_of_ble_eq_true rfl⟩ rfl rfl (Nat.le_of_ble_eq_true rfl) ⟨Nat.zero_le _, Nat.zero_le _⟩ dJ0_charAt_5068e_1 rfl (fun r w' e => by cases e; exact c_isLatin1 _ _ hi) (fun r w' e _ => ?_)
  cases e
  refine x_if_eq (tgt := 16) (P1 := none) (P2 := some ()) (z := ()) C dJ0_charAt_5068e_4 (by decide) rfl (fun h => nomatch h) (fun _ => ?_)
  refine x_aload_n C 0 dJ0_charAt_5068e_7 rfl ?_
  refine x_svalue C hi fj_value dJ0_charAt_5068e_8 ?_
  refine x_iload_n C 1 dJ0_charAt_5068e_11 rfl ?_
  refine x_callSi (rm := rmv 2 43 0 0) (As := [.ref (g.G.aV i), iV k]) (rest := []) (pv := some (sch i k, w)) (Kt := some) (res := (sch i k, w)) C hA hR0 mj_charAt1 lj_495 ⟨rfl, rfl⟩ ⟨Nat.le_of_ble_eq_true rfl, Nat.le_of_ble_eq_true rfl⟩ rfl rfl (Nat.le_of_ble_eq_true rfl) ⟨Nat.zero_le _, Nat.zero_le _⟩ dJ0_charAt_5068e_12 rfl (fun r w' e => by cases e; exact c_charAt1 _ _ hi hk) (fun r w' e _ => ?_)
  cases e
  exact hR _ _ _ _ rfl (sch_ok hi hk).2 dJ0_charAt_5068e_15
/-- the rows for the callers -/
theorem x_slen (C : CX g cc nL ret own) (hA : ∀ q : Nat, g.s.heap.size ≤ q → g.A q) {rmO : Room} (hR0 : g.R = rmO) (hce : d.ce ≤ g.R.cells ∧ d.so ≤ g.R.slots) {i index : Nat} (hi : i < 14) (hlk : Cond.methodLink own index yJ0_length_8abf5 ∈ lw_tg) (hro : (st.map fun v => v.category).sum ≤ 8) (hrr : 2 ≤ rmO.frames ∧ 40 ≤ rmO.locals) (dg : decode cc pc = .ok (.invokevirtual index, 3))
    (k : XG g d (hP g d w) lv (iV (slen i : Nat) :: st) (pc + 3)) : XG g d (hP g d w) lv (.ref (g.G.aK i) :: st) pc := by
  refine x_callGi (rm := rmv 1 20 0 0) (As := []) (rest := st) (pv := some (((slen i : Nat) : Int), w)) (Kt := some) (res := (((slen i : Nat) : Int), w)) C hA hR0 mj_length hlk (srecv C hi) ⟨rfl, rfl⟩ ⟨hrr.1, hrr.2⟩ rfl rfl hro hce dg rfl (fun r w' e => by cases e; exact c_slength _ _ hi) (fun r w' e _ => ?_)
  cases e; exact k
theorem x_scharAt (C : CX g cc nL ret own) (hA : ∀ q : Nat, g.s.heap.size ≤ q → g.A q) {rmO : Room} (hR0 : g.R = rmO) (hce : d.ce ≤ g.R.cells ∧ d.so ≤ g.R.slots) {i index : Nat} {j : Int} (hi : i < 14) (hj : inb j (slen i) = true) (hlk : Cond.methodLink own index yJ0_charAt_5068e ∈ lw_tg) (hro : (st.map fun v => v.category).sum ≤ 8) (hrr : 4 ≤ rmO.frames ∧ 85 ≤ rmO.locals) (dg : decode cc pc = .ok (.invokevirtual index, 3))
    (k : XG g d (hP g d w) lv (iV (sch i j) :: st) (pc + 3)) : XG g d (hP g d w) lv (iV j :: .ref (g.G.aK i) :: st) pc := by
  refine x_callGi (rm := rmv 3 64 0 0) (As := [iV j]) (rest := st) (pv := some (sch i j, w)) (Kt := some) (res := (sch i j, w)) C hA hR0 mj_charAt hlk (srecv C hi) ⟨rfl, rfl⟩ ⟨hrr.1, hrr.2⟩ rfl rfl hro hce dg rfl (fun r w' e => by cases e; exact c_scharAt _ _ hi hj) (fun r w' e _ => ?_)
  cases e; exact k
theorem x_ldcS (C : CX g cc nL ret own) {hp : Heap → Prop} {i index : Nat} {tx : String} (hs : (own, index, tx, i) ∈ siteT) (dg : decode cc pc = .ok (.ldc index, 2)) (k : XG g d hp lv (.ref (g.G.aK i) :: st) (pc + 2)) : XG g d hp lv st pc := fun H locs ls h1 h2 h3 => va_ldcS C.x C.b C.o (C.E.2.1 _ hs) dg (k H locs ls h1 h2 h3)
theorem va_ldcSw {p : Program} {l : Launch} {e : Env} {R : Room} {s : State} {m : MethodId} {args : Array Value} {below : List Frame} {meth : Method} {c : Code} {H : Heap} {locs : List Loc} {cells slots : Nat} {Q : State → Prop} {ls : Array Slot} {rest : List Value} (hexec : p.tables.exec = Jvm.exec) (hb : c.code = cc) {tx : String} {index q : Nat} (hown : s.vm.findClass own = some m.cls) (hZ : vk_R own index tx q s) (hdg : decode cc pc = .ok (.ldc_w index, 3))
    (k : W p l e R s m args below meth c H locs cells slots Q (F0 m (pc + 3) ls (.ref q :: rest))) : W p l e R s m args below meth c H locs cells slots Q (F0 m pc ls rest) := by
  intro T hT X
  obtain ⟨k0, cf, i, a', hk, hcf, hcp, -, hr, hev'⟩ := Cond.stringRef_spec hown hZ.1
  cases hZ.2.symm.trans hev'
  obtain ⟨k', hk', he⟩ := X.warmed.alike.2.2 _ _ hk
  have hr' : k'.resolved[index]? = some (some (.string q)) := by
    rcases X.warmed.entry hk hk' index with h | ⟨h, -⟩
    · rw [h]; exact hr
    · rw [hr] at h; cases h
  obtain ⟨t, a1, b1⟩ := k T hT X
  refine ⟨t, ?_, b1⟩
  have hd : decode c.code (F0 m pc ls rest).pc = .ok (.ldc_w index, 3) := by rw [hb]; exact hdg
  jvm_step X.here [hexec, hd, ldc_w.wp_string (e := e) (s := T) (f := F0 m pc ls rest) X.here.top hk' (by rw [he]; exact hcf) hcp hr']
  exact a1
theorem x_ldcSw (C : CX g cc nL ret own) {hp : Heap → Prop} {i index : Nat} {tx : String} (hs : (own, index, tx, i) ∈ siteT) (dg : decode cc pc = .ok (.ldc_w index, 3)) (k : XG g d hp lv (.ref (g.G.aK i) :: st) (pc + 3)) : XG g d hp lv st pc := fun H locs ls h1 h2 h3 => va_ldcSw C.x C.b C.o (C.E.2.1 _ hs) dg (k H locs ls h1 h2 h3)
end XJ2
