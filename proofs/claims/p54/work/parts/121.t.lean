/-! ===== builders and strings: how they are made, what is asked of strings that were made ===== -/
abbrev rawB (hb : Nat) : Nat × va_E := (hb, .inr (11, [.null, iV 0, iV 0, iV 0]))
abbrev rawS (hs : Nat) : Nat × va_E := (hs, .inr (10, [.null, iV 0, iV 0, iV 0]))
/-- the cells of a string that holds the text t -/
def TXs (G : Gd) (hs : Nat) (t : List Int) (X ws : va_W) : Prop := ∃ (hv : Nat) (a : Nat → Int32), ws = stc hs hv :: bya G hv t.length a :: X ∧ bcon a t ∧ fitB a
theorem permC {α : Type} (s b y v : α) (X : List α) : ((s :: v :: X) ++ [b, y]).Perm (s :: b :: y :: (X ++ [v])) := by
  refine List.Perm.cons s ?_
  refine List.perm_append_comm.trans ?_
  show (b :: y :: (v :: X)).Perm (b :: y :: (X ++ [v]))
  exact List.Perm.cons b (List.Perm.cons y (List.perm_append_singleton v X).symm)
theorem permD {α : Type} (r : α) (l : List α) : ((r :: l) ++ []).Perm (l ++ [r]) := by
  rw [List.append_nil]; exact (List.perm_append_singleton r l).symm
theorem txb_nil {G : Gd} {hb q k : Nat} {X : va_W} (h : k ≤ 800) : TXb G hb [] X (sbc hb q 0 :: bya G q k (fun _ => 0) :: X) := ⟨q, k, _, rfl, Nat.zero_le _, h, fun j hj => absurd hj (Nat.not_lt_zero _), sb_fit0⟩
theorem c16 {c : Int} (h : 0 ≤ c ∧ c < 128) : ch16 (an32 c 255) = c ∧ narrow .char (iV c) = iV c := by
  obtain ⟨n, rfl⟩ : ∃ n : Nat, c = (n : Int) := ⟨c.toNat, by omega⟩
  exact (by decide +kernel : ∀ n : Nat, n < 128 → ch16 (an32 (n : Int) 255) = (n : Int) ∧ narrow .char (iV (n : Int)) = iV (n : Int)) n (by omega)
theorem cln : Cond.sameMethod "[B" "java/lang/Object" "clone" "()Ljava/lang/Object;" ∈ lw_tg ∧ Cond.native ⟨"java/lang/Object", "clone", "()Ljava/lang/Object;"⟩ ∈ lw_tg ∧ Cond.instanceMethod ⟨"java/lang/Object", "clone", "()Ljava/lang/Object;"⟩ ∈ lw_tg ∧ Cond.selects "[B" ⟨"[B", "clone", "()Ljava/lang/Object;"⟩ ⟨"java/lang/Object", "clone", "()Ljava/lang/Object;"⟩ ∈ lw_tg ∧ Cond.castable "[B" "java/lang/Cloneable" ∈ nw_tbl := ⟨by decide +kernel, by decide +kernel, by decide +kernel, by decide +kernel, by decide +kernel⟩
section XT4
variable {g : Cx} {d : Dl} {cc : ByteArray} {nL : Nat} {ret : Option FieldType} {own : String} {hp : Heap → Prop} {ws wc : va_W} {lv : List (Nat × Value)} {st : List Value} {pc : Nat}
theorem x_astore (C : CX g cc nL ret own) {f : Nat} {x : Nat} {lv' : List (Nat × Value)} (dg : decode cc pc = .ok (.astore f, 2)) (hn : f < nL) (hl : (f, Value.ref x) :: lv.filter (fun q => !(q.1 == f) && !(q.1 + 1 == f && q.2.category == 2)) = lv') (k : XG g d hp lv' st (pc + 2)) : XG g d hp lv (.ref x :: st) pc := fun H locs ls h1 h2 h3 => lv_astore C.x C.b dg h3 (by rw [C.n]; exact hn) hl (fun ls h3 => k H locs ls h1 h2 h3)
theorem x_null (C : CX g cc nL ret own) (dg : decode cc pc = .ok (.aconst_null, 1)) (k : XG g d hp lv (.null :: st) (pc + 1)) : XG g d hp lv st pc := fun H locs ls h1 h2 h3 => lv_null C.x C.b dg (k H locs ls h1 h2 h3)
theorem byK (C : CX g cc nL ret own) : g.s.vm.findClass "[B" = some (g.G.cy 1) := (C.K.2 1 _ rfl).2
theorem x_tclone (C : CX g cc nL ret own) {rmO : Room} (hA : ∀ q : Nat, g.s.heap.size ≤ q → g.A q) (hR : g.R = rmO) (q0 : Nat) {ha m index : Nat} {a : Nat → Int32} (hq : ws[q0]? = some (bya g.G ha m a)) (hlk : Cond.methodLink own index ⟨"[B", "clone", "()Ljava/lang/Object;"⟩ ∈ lw_tg) (hf : fitB a) (hrr : 1 ≤ rmO.frames ∧ (st.map fun v => v.category).sum + 14 ≤ rmO.locals) (hce : d.ce + 1 ≤ rmO.cells ∧ d.so + m ≤ rmO.slots) (dg : decode cc pc = .ok (.invokevirtual index, 3))
    (k' : ∀ q, XG g (nx d 1 m) (hL g (ws ++ [bya g.G q m a])) lv (.ref q :: st) (pc + 3)) : XG g d (hL g ws) lv (.ref ha :: st) pc := by
  intro H locs ls h1 h2 h3
  refine va_clone (ad := "[B") (x := (m, .inl a)) (ty := .byte) C.x C.b (by rw [C.ml, h3.1, C.n]) C.o (C.t _ hlk) (C.t _ cln.1) (C.t _ cln.2.1) (C.t _ cln.2.2.1) (C.t _ cln.2.2.2.1) (C.nw _ cln.2.2.2.2) C.K h1.1 h1.2 h2 hA q0 1 hq rfl (byK C) (fun i v hv => ?_) (by rw [hR]; exact hrr.1) (by rw [hR]; exact hrr.2) (by rw [hR]; exact hce.1) (by rw [hR]; exact hce.2) dg (fun q H1 aK a1 a2 a3 => k' q H1 locs ls ⟨a1, a2⟩ a3 h3)
  have hi : i < m := by
    have h := (Array.getElem?_eq_some_iff.mp hv).1
    have hs : (vp_cell (g.G.cy 1) (m, .inl a)).slots.size = m := arrV_size _ _ _
    rw [hs] at h; exact h
  have e : (vp_cell (g.G.cy 1) (m, .inl a)).slots[i]? = some (.int (a i)) := arrV_read _ _ hi
  rw [e] at hv
  cases hv
  exact hf i
theorem x_tcast (C : CX g cc nL ret own) (q0 : Nat) {ha m index : Nat} {a : Nat → Int32} (hq : ws[q0]? = some (bya g.G ha m a)) (hlk : Cond.classLink own index "[B" ∈ lw_tg) (dg : decode cc pc = .ok (.checkcast index, 3)) (k' : XG g d (hL g ws) lv (.ref ha :: st) (pc + 3)) : XG g d (hL g ws) lv (.ref ha :: st) pc :=
  fun H locs ls h1 h2 h3 => va_castA C.x C.b C.o (C.t _ hlk) h1.1 q0 hq (byK C) dg (k' H locs ls h1 h2 h3)
theorem icl_J0 : Cond.instantiable RJ0 (nf 10) ∈ lw_tg ∧ Cond.initialized RJ0 ∈ lw_tg := ⟨by decide +kernel, by decide +kernel⟩
theorem icl_J4 : Cond.instantiable RJ4 (nf 11) ∈ lw_tg ∧ Cond.initialized RJ4 ∈ lw_tg := ⟨by decide +kernel, by decide +kernel⟩
theorem idf_J0 : ∀ j, j < nf 10 → defaultValue (tyJ0 j) = vp_V [.null, iV 0, iV 0, iV 0] j := fun j hj => match j, hj with | 0, _ => rfl | 1, _ => rfl | 2, _ => rfl | 3, _ => rfl | n + 4, h => absurd h (Nat.not_lt_of_le (Nat.le_add_left _ _))
theorem idf_J4 : ∀ j, j < nf 11 → defaultValue (tyJ4 j) = vp_V [.null, iV 0, iV 0, iV 0] j := fun j hj => match j, hj with | 0, _ => rfl | 1, _ => rfl | 2, _ => rfl | 3, _ => rfl | n + 4, h => absurd h (Nat.not_lt_of_le (Nat.le_add_left _ _))
theorem ct_ci3 (l : Launch) (G : Gd) {k n : Int} {v : Value} (hv : v.category = 1) (h : 0 ≤ k ∧ k < n ∧ n ≤ 100000) : mTI l yJ3_checkIndex_8e157 cJ3_checkIndex_8e157 3 (some .int) (rmv 0 0 0 0) G [iV k, iV n, v] [] (fun r ws' => r = k ∧ ws' = []) 0 0 := by
  refine met_TI [(0, iV k), (1, iV n), (2, v)] (by decide) ?_ ?_ .int rfl (fun g C S hR => ?_)
  · cases v <;> first | exact Nat.le_of_ble_eq_true rfl | cases hv
  · cases v <;> first | rfl | cases hv
  obtain ⟨rfl, hR0, rfl, hA, hin⟩ := S
  refine x_iload_n C 0 dJ3_checkIndex_8e157_0 rfl ?_
  refine x_if_lt (tgt := 9) (P1 := none) (P2 := some ()) (z := ()) C dJ3_checkIndex_8e157_1 (by decide) (if_neg (by rw [ltq (by omega)]; omega)) (fun h => nomatch h) (fun _ => ?_)
  refine x_iload_n C 0 dJ3_checkIndex_8e157_4 rfl ?_
  refine x_iload_n C 1 dJ3_checkIndex_8e157_5 rfl ?_
  refine x_icmp_lt (tgt := 16) (P1 := some ()) (P2 := none) (z := ()) C dJ3_checkIndex_8e157_6 (by decide) (if_pos (by rw [ltq (by omega)]; omega)) (fun _ => ?_) (fun h => nomatch h)
  refine x_iload_n C 0 dJ3_checkIndex_8e157_16 rfl ?_
  exact hR _ _ _ _ _ ⟨rfl, rfl⟩ rfl (by dsimp only [nx, dz, Dl.ce, Dl.so]; omega) (by dsimp only [nx, dz, Dl.ce, Dl.so]; omega) dJ3_checkIndex_8e157_17
end XT4
theorem tl_obj_AbstractStringBuilder_3 : Cond.methodLink "java/lang/AbstractStringBuilder" 3 objectInit ∈ lw_tg := in_tg 496 (by decide +kernel) rfl
theorem tl_StringBuilder_1 : Cond.methodLink "java/lang/StringBuilder" 1 yJ5_init_d00df ∈ lw_tg := in_tg 1025 (by decide +kernel) rfl
theorem tm_J5_init_d00df : mfI yJ5_init_d00df cJ5_init_d00df 2 1 := ⟨in_tg 1026 (by decide +kernel) rfl, in_tg 43 (by decide +kernel) rfl, in_tg 1027 (by decide +kernel) rfl, by decide +kernel, by decide +kernel, by decide +kernel, rfl⟩
theorem tk_AbstractStringBuilder_38 : Cond.constant "java/lang/AbstractStringBuilder" 38 2147483631 ∈ lw_tg := in_tg 507 (by decide +kernel) rfl
theorem tl_AbstractStringBuilder_43 : Cond.methodLink "java/lang/AbstractStringBuilder" 43 yJ5_append_cf1ce ∈ lw_tg := in_tg 517 (by decide +kernel) rfl
theorem to_AbstractStringBuilder_43 : GoodIn lw_tg (va_wsO "java/lang/AbstractStringBuilder" 43 "java/lang/StringBuilder" "java/lang/AbstractStringBuilder" yJ5_append_cf1ce yJ4_append_cf1ce (WSx yJ4_append_cf1ce cJ4_append_cf1ce 2 (some (.object "java/lang/AbstractStringBuilder")))) := gO (by decide +kernel) (by decide +kernel) (by decide +kernel) (by decide +kernel) (by decide +kernel) (by decide +kernel) (in_tg 522 (by decide +kernel) rfl)
theorem tc_J5_append_cf1ce : Cond.code ⟨"java/lang/AbstractStringBuilder", "append", "(Ljava/lang/String;)Ljava/lang/AbstractStringBuilder;"⟩ cJ5_append_cf1ce 3 (some (.object "java/lang/AbstractStringBuilder")) ∈ lw_tg := in_tg 529 (by decide +kernel) rfl
theorem tl_StringBuilder_7 : Cond.methodLink "java/lang/StringBuilder" 7 yJ5_init_a7421 ∈ lw_tg := in_tg 493 (by decide +kernel) rfl
theorem tm_J5_init_a7421 : mfI yJ5_init_a7421 cJ5_init_a7421 5 1 := ⟨in_tg 494 (by decide +kernel) rfl, in_tg 43 (by decide +kernel) rfl, in_tg 495 (by decide +kernel) rfl, by decide +kernel, by decide +kernel, by decide +kernel, rfl⟩
theorem tl_Arrays_343 : Cond.methodLink "java/util/Arrays" 343 yJ7_checkLength_df160 ∈ lw_tg := in_tg 735 (by decide +kernel) rfl
theorem tm_J7_checkLength_df160 : mfS yJ7_checkLength_df160 cJ7_checkLength_df160 2 none 2 := ⟨in_tg 736 (by decide +kernel) rfl, in_tg 49 (by decide +kernel) rfl, in_tg 737 (by decide +kernel) rfl, by decide +kernel, by decide +kernel, by decide +kernel⟩
theorem tl_clone : Cond.methodLink "java/util/Arrays" 310 ⟨"[B", "clone", "()Ljava/lang/Object;"⟩ ∈ lw_tg := in_tg 553 (by decide +kernel) rfl
theorem tcl_Arrays_311 : Cond.classLink "java/util/Arrays" 311 "[B" ∈ lw_tg := in_tg 559 (by decide +kernel) rfl
theorem tl_Arrays_339 : Cond.methodLink "java/util/Arrays" 339 yJ7_copyOfRangeByte_39247 ∈ lw_tg := in_tg 732 (by decide +kernel) rfl
theorem tm_J7_copyOfRangeByte_39247 : mfS yJ7_copyOfRangeByte_39247 cJ7_copyOfRangeByte_39247 5 (some (.array .byte)) 3 := ⟨in_tg 733 (by decide +kernel) rfl, in_tg 49 (by decide +kernel) rfl, in_tg 734 (by decide +kernel) rfl, by decide +kernel, by decide +kernel, by decide +kernel⟩
theorem tl_obj_String_1 : Cond.methodLink "java/lang/String" 1 objectInit ∈ lw_tg := in_tg 714 (by decide +kernel) rfl
theorem tl_String_552 : Cond.methodLink "java/lang/String" 552 yJ5_getValue_6d5f1 ∈ lw_tg := in_tg 715 (by decide +kernel) rfl
theorem tu_String_552 : GoodIn lw_tg (va_wsU "java/lang/String" 552 "java/lang/StringBuilder" "java/lang/AbstractStringBuilder" yJ5_getValue_6d5f1 yJ5_getValue_6d5f1 (WSx yJ5_getValue_6d5f1 cJ5_getValue_6d5f1 1 (some (.array .byte)))) := gU (by decide +kernel) (by decide +kernel) (by decide +kernel) (by decide +kernel) (by decide +kernel) (in_tg 719 (by decide +kernel) rfl)
theorem tl_String_549 : Cond.methodLink "java/lang/String" 549 yJ5_length_8abf5 ∈ lw_tg := in_tg 720 (by decide +kernel) rfl
theorem to_String_549 : GoodIn lw_tg (va_wsO "java/lang/String" 549 "java/lang/StringBuilder" "java/lang/AbstractStringBuilder" yJ5_length_8abf5 yJ4_length_8abf5 (WSx yJ4_length_8abf5 cJ4_length_8abf5 1 (some .int))) := gO (by decide +kernel) (by decide +kernel) (by decide +kernel) (by decide +kernel) (by decide +kernel) (by decide +kernel) (in_tg 725 (by decide +kernel) rfl)
theorem tc_J5_length_8abf5 : Cond.code ⟨"java/lang/AbstractStringBuilder", "length", "()I"⟩ cJ5_length_8abf5 1 (some .int) ∈ lw_tg := in_tg 727 (by decide +kernel) rfl
theorem tl_String_1047 : Cond.methodLink "java/lang/String" 1047 yJ5_isLatin1_aae02 ∈ lw_tg := in_tg 728 (by decide +kernel) rfl
theorem tu_String_1047 : GoodIn lw_tg (va_wsU "java/lang/String" 1047 "java/lang/StringBuilder" "java/lang/AbstractStringBuilder" yJ5_isLatin1_aae02 yJ5_isLatin1_aae02 (WSx yJ5_isLatin1_aae02 cJ5_isLatin1_aae02 1 (some .boolean))) := gU (by decide +kernel) (by decide +kernel) (by decide +kernel) (by decide +kernel) (by decide +kernel) (in_tg 568 (by decide +kernel) rfl)
theorem tf_String_15 : Cond.fieldLink "java/lang/String" 15 "java/lang/String" "coder" "B" ∈ lw_tg := in_tg 752 (by decide +kernel) rfl
theorem tl_String_54 : Cond.methodLink "java/lang/String" 54 yJ7_copyOfRange_39247 ∈ lw_tg := in_tg 729 (by decide +kernel) rfl
theorem tm_J7_copyOfRange_39247 : mfS yJ7_copyOfRange_39247 cJ7_copyOfRange_39247 3 (some (.array .byte)) 3 := ⟨in_tg 730 (by decide +kernel) rfl, in_tg 49 (by decide +kernel) rfl, in_tg 731 (by decide +kernel) rfl, by decide +kernel, by decide +kernel, by decide +kernel⟩
theorem tl_String_489 : Cond.methodLink "java/lang/String" 489 yJ0_init_db425 ∈ lw_tg := in_tg 711 (by decide +kernel) rfl
theorem tm_J0_init_db425 : mfI yJ0_init_db425 cJ0_init_db425 5 2 := ⟨in_tg 712 (by decide +kernel) rfl, in_tg 45 (by decide +kernel) rfl, in_tg 713 (by decide +kernel) rfl, by decide +kernel, by decide +kernel, by decide +kernel, rfl⟩
theorem tcl_StringBuilder_18 : Cond.classLink "java/lang/StringBuilder" 18 "java/lang/String" ∈ lw_tg := in_tg 706 (by decide +kernel) rfl
theorem tl_StringBuilder_137 : Cond.methodLink "java/lang/StringBuilder" 137 yJ0_init_81219 ∈ lw_tg := in_tg 708 (by decide +kernel) rfl
theorem tm_J0_init_81219 : mfI yJ0_init_81219 cJ0_init_81219 2 1 := ⟨in_tg 709 (by decide +kernel) rfl, in_tg 45 (by decide +kernel) rfl, in_tg 710 (by decide +kernel) rfl, by decide +kernel, by decide +kernel, by decide +kernel, rfl⟩
theorem tl_String_1059 : Cond.methodLink "java/lang/String" 1059 yJ3_checkIndex_8e157 ∈ lw_tg := in_tg 699 (by decide +kernel) rfl
theorem tm_J3_checkIndex_8e157 : mfS yJ3_checkIndex_8e157 cJ3_checkIndex_8e157 3 (some .int) 3 := ⟨in_tg 700 (by decide +kernel) rfl, in_tg 51 (by decide +kernel) rfl, in_tg 701 (by decide +kernel) rfl, by decide +kernel, by decide +kernel, by decide +kernel⟩
theorem tl_StringLatin1_9 : Cond.methodLink "java/lang/StringLatin1" 9 yJ0_checkIndex_df160 ∈ lw_tg := in_tg 780 (by decide +kernel) rfl
theorem tm_J0_checkIndex_df160 : mfS yJ0_checkIndex_df160 cJ0_checkIndex_df160 2 none 2 := ⟨in_tg 697 (by decide +kernel) rfl, in_tg 45 (by decide +kernel) rfl, in_tg 698 (by decide +kernel) rfl, by decide +kernel, by decide +kernel, by decide +kernel⟩
theorem tl_String_492 : Cond.methodLink "java/lang/String" 492 yJ0_isLatin1_aae02 ∈ lw_tg := in_tg 773 (by decide +kernel) rfl
theorem tm_J0_isLatin1_aae02 : mfV yJ0_isLatin1_aae02 cJ0_isLatin1_aae02 1 (some .boolean) 0 := ⟨in_tg 774 (by decide +kernel) rfl, in_tg 775 (by decide +kernel) rfl, in_tg 45 (by decide +kernel) rfl, in_tg 776 (by decide +kernel) rfl, by decide +kernel, by decide +kernel, by decide +kernel⟩
theorem tl_String_495 : Cond.methodLink "java/lang/String" 495 yJ1_charAt_3b067 ∈ lw_tg := in_tg 777 (by decide +kernel) rfl
theorem tm_J1_charAt_3b067 : mfS yJ1_charAt_3b067 cJ1_charAt_3b067 2 (some .char) 2 := ⟨in_tg 778 (by decide +kernel) rfl, in_tg 52 (by decide +kernel) rfl, in_tg 779 (by decide +kernel) rfl, by decide +kernel, by decide +kernel, by decide +kernel⟩
theorem ct_init5 (l : Launch) (G : Gd) {hb k : Nat} {X : va_W} (h : k ≤ 40) : mTV l yJ5_init_d00df cJ5_init_d00df 2 (rmv 1 20 1 40) G [.ref hb, iV (k : Nat)] (rawB hb :: X) (fun ws' => ∃ q, ws' = sbc hb q 0 :: bya G q k (fun _ => 0) :: X) 1 40 := by
  refine met_TV [(0, .ref hb), (1, iV (k : Nat))] (by decide) (Nat.le_of_ble_eq_true rfl) rfl (fun g C S hR => ?_)
  obtain ⟨rfl, hR0, rfl, hA, hin⟩ := S
  refine x_aload_n C 0 dJ5_init_d00df_0 rfl ?_
  refine x_nobj C hR0 ⟨Nat.le_of_ble_eq_true rfl, Nat.le_of_ble_eq_true rfl⟩ tl_obj_AbstractStringBuilder_3 dJ5_init_d00df_1 ?_
  refine x_compact C tf_AbstractStringBuilder_18 dJ5_init_d00df_4 ?_
  refine x_if_eq (tgt := 25) (P1 := none) (P2 := some ()) (z := ()) C dJ5_init_d00df_7 (by decide) (if_neg (by rw [eqq (by omega)] <;> omega)) (fun h => nomatch h) (fun _ => ?_)
  refine x_aload_n C 0 dJ5_init_d00df_10 rfl ?_
  refine x_iload_n C 1 dJ5_init_d00df_11 rfl ?_
  refine x_tnewb C hA hR0 (by omega) (by constructor <;> (dsimp only [nx, dz, Dl.ce, Dl.so, rmv]; omega)) dJ5_init_d00df_12 (fun q => ?_)
  refine x_tput (ws' := ((hb, .inr (11, [.ref q, iV 0, iV 0, iV 0])) :: (X ++ [bya g.G q k (fun _ => 0)]))) C 0 (k := 0) rfl cl_J4 (by decide) ⟨rfl, rfl, rfl, rfl⟩ tf_AbstractStringBuilder_15 ⟨rfl, rfl⟩ (Nat.le_of_ble_eq_true rfl) rfl dJ5_init_d00df_14 ?_
  refine x_aload_n C 0 dJ5_init_d00df_17 rfl ?_
  refine x_iconst C dJ5_init_d00df_18 ?_
  refine x_tput (ws' := (sbc hb q 0 :: (X ++ [bya g.G q k (fun _ => 0)]))) C 0 (k := 1) rfl cl_J4 (by decide) ⟨rfl, rfl, rfl, rfl⟩ tf_AbstractStringBuilder_22 (by decide +kernel) (Nat.le_of_ble_eq_true rfl) rfl dJ5_init_d00df_19 ?_
  refine x_goto (tgt := 38) C dJ5_init_d00df_22 (by decide) ?_
  refine x_hL (hp' := hL g (sbc hb q 0 :: bya g.G q k (fun _ => 0) :: X)) (fun H h => h.perm (permB _ _ _)) ?_
  exact hR _ _ _ _ ⟨q, rfl⟩ (by dsimp only [nx, dz, Dl.ce, Dl.so]; omega) (by dsimp only [nx, dz, Dl.ce, Dl.so]; omega) dJ5_init_d00df_38

theorem ct_init (l : Launch) (G : Gd) {hb : Nat} {X : va_W} : mTV l yJ4_init_da8c8 cJ4_init_da8c8 1 (rmv 2 41 1 40) G [.ref hb] (rawB hb :: X) (fun ws' => TXb G hb [] X ws') 1 40 := by
  refine met_TV [(0, .ref hb)] (by decide) (Nat.le_of_ble_eq_true rfl) rfl (fun g C S hR => ?_)
  obtain ⟨rfl, hR0, rfl, hA, hin⟩ := S
  refine x_aload_n C 0 dJ4_init_da8c8_0 rfl ?_
  refine x_bipush (v := 16) C dJ4_init_da8c8_1 (by decide +kernel) ?_
  refine x_tV (hp' := fun ws' => hL g ws') C hA hsub.rf (t_I (rm := rmv 1 20 1 40) (As := [iV 16]) (rest := []) C hA hR0 hsub.rf (ct_init5 (k := 16) g.l g.G (by omega)) tm_J5_init_d00df tl_StringBuilder_1 ⟨rfl, rfl⟩ ⟨Nat.le_of_ble_eq_true rfl, Nat.le_of_ble_eq_true rfl⟩ rfl rfl (Nat.le_of_ble_eq_true rfl) (by constructor <;> (dsimp only [nx, dz, Dl.ce, Dl.so, rmv]; omega)) dJ4_init_da8c8_3) (fun _ _ => hback.rf) (fun ws' hp => ?_)
  obtain ⟨q, rfl⟩ := hp
  exact hR _ _ _ _ (txb_nil (by omega)) (by dsimp only [nx, dz, Dl.ce, Dl.so]; omega) (by dsimp only [nx, dz, Dl.ce, Dl.so]; omega) dJ4_init_da8c8_6

theorem ct_inits5 (l : Launch) (G : Gd) {hb i : Nat} {X : va_W} (hi : i < 14) : mTV l yJ5_init_a7421 cJ5_init_a7421 5 (rmv 7 209 2 840) G [.ref hb, .ref (G.aK i)] (rawB hb :: X) (fun ws' => TXb G hb (ctx i) X ws') 2 840 := by
  refine met_TV [(0, .ref hb), (1, .ref (G.aK i))] (by decide) (Nat.le_of_ble_eq_true rfl) rfl (fun g C S hR => ?_)
  obtain ⟨rfl, hR0, rfl, hA, hin⟩ := S
  have hs5 : slen i ≤ 12 := (by decide +kernel : ∀ i, i < 14 → slen i ≤ 12) i hi
  refine x_aload_n C 0 dJ5_init_a7421_0 rfl ?_
  refine x_nobj C hR0 ⟨Nat.le_of_ble_eq_true rfl, Nat.le_of_ble_eq_true rfl⟩ tl_obj_AbstractStringBuilder_3 dJ5_init_a7421_1 ?_
  refine x_aload_n C 1 dJ5_init_a7421_4 rfl ?_
  refine x_tI (hp' := fun _ => hL g (rawB hb :: X)) C hA hsub.E (t_V (rm := rmv 1 20 0 0) (As := []) (rest := []) C hA hR0 hsub.E (rcK C hi) (ct_slen g.l g.G hi) tm_J0_length_8abf5 tl_AbstractStringBuilder_32 ⟨rfl, rfl⟩ ⟨Nat.le_of_ble_eq_true rfl, Nat.le_of_ble_eq_true rfl⟩ rfl rfl (Nat.le_of_ble_eq_true rfl) (by constructor <;> (dsimp only [nx, dz, Dl.ce, Dl.so, rmv]; omega)) dJ5_init_a7421_5) (fun _ _ _ => hback.E) (fun r ws' hp => ?_)
  obtain ⟨rfl, hw⟩ := hp
  refine x_istore_n (lv' := [(2, iV (slen i : Nat)), (0, .ref hb), (1, .ref (g.G.aK i))]) C dJ5_init_a7421_8 (by decide) rfl ?_
  refine x_iload_n C 0 dJ5_init_a7421_9 rfl ?_
  refine x_ldc (v := 2147483631) C rfl tk_AbstractStringBuilder_38 dJ5_init_a7421_10 ?_
  refine x_icmp_ge (tgt := 22) (P1 := some ()) (P2 := none) (z := ()) C dJ5_init_a7421_12 (by decide) (if_pos (by rw [ltq (by omega)] <;> omega)) (fun h => nomatch h) (fun _ => ?_)
  refine x_iload_n C 0 dJ5_init_a7421_15 rfl ?_
  refine x_bipush (v := 16) C dJ5_init_a7421_16 (by decide +kernel) ?_
  refine x_iadd C dJ5_init_a7421_18 ?_
  refine x_goto (tgt := 24) C dJ5_init_a7421_19 (by decide) ?_
  refine x_istore_n (lv' := [(3, iV ((slen i : Nat) + 16)), (2, iV (slen i : Nat)), (0, .ref hb), (1, .ref (g.G.aK i))]) C dJ5_init_a7421_24 (by decide) rfl ?_
  refine x_aload_n C 3 dJ5_init_a7421_25 rfl ?_
  refine x_tI (hp' := fun _ => hL g (rawB hb :: X)) C hA hsub.E (t_V (rm := rmv 0 0 0 0) (As := []) (rest := []) C hA hR0 hsub.E (rcK C hi) (ct_coder g.l g.G hi) tm_J0_coder_7d493 tl_AbstractStringBuilder_40 ⟨rfl, rfl⟩ ⟨Nat.le_of_ble_eq_true rfl, Nat.le_of_ble_eq_true rfl⟩ rfl rfl (Nat.le_of_ble_eq_true rfl) (by constructor <;> (dsimp only [nx, dz, Dl.ce, Dl.so, rmv]; omega)) dJ5_init_a7421_26) (fun _ _ _ => hback.E) (fun r ws' hp => ?_)
  obtain ⟨rfl, hw⟩ := hp
  refine x_istore (lv' := [(4, iV 0), (3, iV ((slen i : Nat) + 16)), (2, iV (slen i : Nat)), (0, .ref hb), (1, .ref (g.G.aK i))]) C dJ5_init_a7421_29 (by decide) rfl ?_
  refine x_aload_n C 3 dJ5_init_a7421_31 rfl ?_
  refine x_iload C 0 dJ5_init_a7421_32 rfl ?_
  refine x_tput (ws' := (rawB hb :: X)) C 0 (k := 1) rfl cl_J4 (by decide) ⟨rfl, rfl, rfl, rfl⟩ tf_AbstractStringBuilder_22 (by decide +kernel) (Nat.le_of_ble_eq_true rfl) rfl dJ5_init_a7421_34 ?_
  refine x_aload_n C 3 dJ5_init_a7421_37 rfl ?_
  refine x_iload C 0 dJ5_init_a7421_38 rfl ?_
  refine x_if_ne (tgt := 49) (P1 := some ()) (P2 := none) (z := ()) C dJ5_init_a7421_40 (by decide) (if_pos (by rw [eqq (by omega)])) (fun h => nomatch h) (fun _ => ?_)
  refine x_iload_n C 1 dJ5_init_a7421_43 rfl ?_
  rw [show ((slen i : Nat) : Int) + 16 = ((slen i + 16 : Nat) : Int) from rfl]
  refine x_tnewb C hA hR0 (by omega) (by constructor <;> (dsimp only [nx, dz, Dl.ce, Dl.so, rmv]; omega)) dJ5_init_a7421_44 (fun q => ?_)
  refine x_goto (tgt := 53) C dJ5_init_a7421_46 (by decide) ?_
  refine x_tput (ws' := (sbc hb q 0 :: (X ++ [bya g.G q (slen i + 16) (fun _ => 0)]))) C 0 (k := 0) rfl cl_J4 (by decide) ⟨rfl, rfl, rfl, rfl⟩ tf_AbstractStringBuilder_15 ⟨rfl, rfl⟩ (Nat.le_of_ble_eq_true rfl) rfl dJ5_init_a7421_53 ?_
  refine x_hL (hp' := hL g (sbc hb q (([] : List Int).length : Nat) :: bya g.G q (slen i + 16) (fun _ => 0) :: X)) (fun H h => h.perm (permB _ _ _)) ?_
  refine x_aload_n C 3 dJ5_init_a7421_56 rfl ?_
  refine x_aload_n C 4 dJ5_init_a7421_57 rfl ?_
  refine x_tR (hp' := fun ws' => hL g ws') C hA hsub.rf (t_U (Cn := "java/lang/StringBuilder") (rm := rmv 6 188 1 800) (As := [.ref (g.G.aK i)]) (rest := []) C hA hR0 hsub.rf (rcB C) (ct_appSb (t := []) g.l g.G (fun j hj => absurd hj (Nat.not_lt_zero _)) sb_fit0 hi (Nat.zero_le _) ⟨by omega, by simp; omega⟩) (va_cwO 1 C.t to_AbstractStringBuilder_43 rfl rfl rfl tc_J5_append_cf1ce ⟨by decide +kernel, by decide +kernel, by decide +kernel⟩ (by rw [hR0]; exact ⟨Nat.le_of_ble_eq_true rfl, Nat.le_of_ble_eq_true rfl⟩)) rfl rfl (Nat.le_of_ble_eq_true rfl) (by constructor <;> (dsimp only [nx, dz, Dl.ce, Dl.so, rmv]; omega)) dJ5_init_a7421_58) (fun _ _ _ => hback.rf) (fun r ws' hp => ?_)
  obtain ⟨rfl, ht⟩ := hp
  refine x_pop C rfl dJ5_init_a7421_61 ?_
  exact hR _ _ _ _ ht (by dsimp only [nx, dz, Dl.ce, Dl.so]; omega) (by dsimp only [nx, dz, Dl.ce, Dl.so]; omega) dJ5_init_a7421_62

theorem ct_inits (l : Launch) (G : Gd) {hb i : Nat} {X : va_W} (hi : i < 14) : mTV l yJ4_init_a7421 cJ4_init_a7421 2 (rmv 8 233 2 840) G [.ref hb, .ref (G.aK i)] (rawB hb :: X) (fun ws' => TXb G hb (ctx i) X ws') 2 840 := by
  refine met_TV [(0, .ref hb), (1, .ref (G.aK i))] (by decide) (Nat.le_of_ble_eq_true rfl) rfl (fun g C S hR => ?_)
  obtain ⟨rfl, hR0, rfl, hA, hin⟩ := S
  refine x_aload_n C 0 dJ4_init_a7421_0 rfl ?_
  refine x_aload_n C 1 dJ4_init_a7421_1 rfl ?_
  refine x_tV (hp' := fun ws' => hL g ws') C hA hsub.rf (t_I (rm := rmv 7 209 2 840) (As := [.ref (g.G.aK i)]) (rest := []) C hA hR0 hsub.rf (ct_inits5 g.l g.G hi) tm_J5_init_a7421 tl_StringBuilder_7 ⟨rfl, rfl⟩ ⟨Nat.le_of_ble_eq_true rfl, Nat.le_of_ble_eq_true rfl⟩ rfl rfl (Nat.le_of_ble_eq_true rfl) (by constructor <;> (dsimp only [nx, dz, Dl.ce, Dl.so, rmv]; omega)) dJ4_init_a7421_2) (fun _ _ => hback.rf) (fun ws' hp => ?_)
  exact hR _ _ _ _ hp (by dsimp only [nx, dz, Dl.ce, Dl.so]; omega) (by dsimp only [nx, dz, Dl.ce, Dl.so]; omega) dJ4_init_a7421_5

theorem ct_chkLen (l : Launch) (G : Gd) {n : Nat} (h : n ≤ 800) : mTV l yJ7_checkLength_df160 cJ7_checkLength_df160 2 (rmv 0 0 0 0) G [iV 0, iV (n : Nat)] [] (fun ws' => ws' = []) 0 0 := by
  refine met_TV [(0, iV 0), (1, iV (n : Nat))] (by decide) (Nat.le_of_ble_eq_true rfl) rfl (fun g C S hR => ?_)
  obtain ⟨rfl, hR0, rfl, hA, hin⟩ := S
  refine x_iload_n C 1 dJ7_checkLength_df160_0 rfl ?_
  refine x_iload_n C 0 dJ7_checkLength_df160_1 rfl ?_
  refine x_icmp_ge (tgt := 37) (P1 := none) (P2 := some ()) (z := ()) C dJ7_checkLength_df160_2 (by decide) (if_neg (by rw [ltq (by omega)] <;> omega)) (fun _ => ?_) (fun h => nomatch h)
  exact hR _ _ _ _ rfl (by dsimp only [nx, dz, Dl.ce, Dl.so]; omega) (by dsimp only [nx, dz, Dl.ce, Dl.so]; omega) dJ7_checkLength_df160_37

theorem ct_rngB (l : Launch) (G : Gd) {ha m n i : Nat} {a : Nat → Int32} {ws : va_W} (hq : ws[i]? = some (bya G ha m a)) (hf : fitB a) (h : n ≤ m ∧ m ≤ 800) : mTR l yJ7_copyOfRangeByte_39247 cJ7_copyOfRangeByte_39247 5 (some (.array .byte)) (rmv 1 100 1 800) G [.ref ha, iV 0, iV (n : Nat)] ws (fun r ws' => ∃ a', ws' = ws ++ [bya G r n a'] ∧ (∀ j, j < n → a' j = a j) ∧ fitB a') 1 800 := by
  refine met_TR [(0, .ref ha), (1, iV 0), (2, iV (n : Nat))] (by decide) (Nat.le_of_ble_eq_true rfl) rfl (.array .byte) rfl (Or.inr ⟨.byte, rfl⟩) (fun g C S hR => ?_)
  obtain ⟨rfl, hR0, rfl, hA, hin⟩ := S
  refine x_iload_n C 1 dJ7_copyOfRangeByte_39247_0 rfl ?_
  refine x_iload_n C 2 dJ7_copyOfRangeByte_39247_1 rfl ?_
  refine x_tV (hp' := fun _ => hL g (ws)) C hA hsub.E (t_S (rm := rmv 0 0 0 0) (As := [iV 0, iV (n : Nat)]) (rest := []) C hA hR0 hsub.E (ct_chkLen g.l g.G (by omega)) tm_J7_checkLength_df160 tl_Arrays_343 ⟨rfl, rfl⟩ ⟨Nat.le_of_ble_eq_true rfl, Nat.le_of_ble_eq_true rfl⟩ rfl rfl (Nat.le_of_ble_eq_true rfl) (by constructor <;> (dsimp only [nx, dz, Dl.ce, Dl.so, rmv]; omega)) dJ7_copyOfRangeByte_39247_2) (fun _ _ => hback.E) (fun ws' hp => ?_)
  refine x_iload_n C 2 dJ7_copyOfRangeByte_39247_5 rfl ?_
  refine x_iload_n C 1 dJ7_copyOfRangeByte_39247_6 rfl ?_
  refine x_isub C dJ7_copyOfRangeByte_39247_7 ?_
  rw [show ((n : Nat) : Int) - 0 = ((n : Nat) : Int) by omega]
  refine x_istore_n (lv' := [(3, iV (n : Nat)), (0, .ref ha), (1, iV 0), (2, iV (n : Nat))]) C dJ7_copyOfRangeByte_39247_8 (by decide) rfl ?_
  refine x_iload_n C 0 dJ7_copyOfRangeByte_39247_9 rfl ?_
  refine x_tnewb C hA hR0 (by omega) (by constructor <;> (dsimp only [nx, dz, Dl.ce, Dl.so, rmv]; omega)) dJ7_copyOfRangeByte_39247_10 (fun q => ?_)
  have hi : i < ws.length := (List.getElem?_eq_some_iff.mp hq).1
  have hq1 : (ws ++ [bya g.G q n (fun _ => 0)])[i]? = some (bya g.G ha m a) := by rw [List.getElem?_append_left hi]; exact hq
  refine x_astore (lv' := [(4, .ref q), (3, iV (n : Nat)), (0, .ref ha), (1, iV 0), (2, iV (n : Nat))]) C dJ7_copyOfRangeByte_39247_12 (by decide) rfl ?_
  refine x_aload_n C 2 dJ7_copyOfRangeByte_39247_14 rfl ?_
  refine x_iload_n C 3 dJ7_copyOfRangeByte_39247_15 rfl ?_
  refine x_aload C 0 dJ7_copyOfRangeByte_39247_16 rfl ?_
  refine x_iconst C dJ7_copyOfRangeByte_39247_18 ?_
  refine x_aload_n C 2 dJ7_copyOfRangeByte_39247_19 rfl ?_
  refine x_talen C i hq1 dJ7_copyOfRangeByte_39247_20 ?_
  refine x_iload_n C 3 dJ7_copyOfRangeByte_39247_21 rfl ?_
  refine x_isub C dJ7_copyOfRangeByte_39247_22 ?_
  refine x_iload_n C 1 dJ7_copyOfRangeByte_39247_23 rfl ?_
  refine x_min C hR0 tl_min jm_min_s jm_i jm_min_c ⟨Nat.le_of_ble_eq_true rfl, Nat.le_of_ble_eq_true rfl⟩ (by rw [hR0]; exact (by constructor <;> (dsimp only [nx, dz, Dl.ce, Dl.so, rmv]; omega))) dJ7_copyOfRangeByte_39247_24 ?_
  rw [show mn32 (((m : Nat) : Int) - 0) ((n : Nat) : Int) = ((n : Nat) : Int) by rw [mnq (by omega)]; omega]
  refine x_tcopy (ws' := (ws ++ [bya g.G q n (va_cpy a (fun _ => 0) 0 0 n)])) (sp := 0) (dp := 0) (n := n) C hR0 i ws.length hq1 (getLast' _ _) tl_Arrays_150 ⟨by omega, by omega, by omega, by omega⟩ hf ⟨Nat.le_of_ble_eq_true rfl, Nat.le_of_ble_eq_true rfl⟩ (setLast _ _ _) dJ7_copyOfRangeByte_39247_27 ?_
  refine x_aload C 0 dJ7_copyOfRangeByte_39247_30 rfl ?_
  exact hR _ _ _ _ _ ⟨_, rfl, fun j hj => by rw [va_cpy_at, if_pos (by omega)]; congr 1; omega, sb_fitC hf sb_fit0⟩ (by dsimp only [nx, dz, Dl.ce, Dl.so]; omega) (by dsimp only [nx, dz, Dl.ce, Dl.so]; omega) dJ7_copyOfRangeByte_39247_32

theorem ct_rng (l : Launch) (G : Gd) {ha m n i : Nat} {a : Nat → Int32} {ws : va_W} (hq : ws[i]? = some (bya G ha m a)) (hf : fitB a) (h : n ≤ m ∧ m ≤ 800) : mTR l yJ7_copyOfRange_39247 cJ7_copyOfRange_39247 3 (some (.array .byte)) (rmv 2 124 1 800) G [.ref ha, iV 0, iV (n : Nat)] ws (fun r ws' => ∃ a', ws' = ws ++ [bya G r n a'] ∧ (∀ j, j < n → a' j = a j) ∧ fitB a') 1 800 := by
  refine met_TR [(0, .ref ha), (1, iV 0), (2, iV (n : Nat))] (by decide) (Nat.le_of_ble_eq_true rfl) rfl (.array .byte) rfl (Or.inr ⟨.byte, rfl⟩) (fun g C S hR => ?_)
  obtain ⟨rfl, hR0, rfl, hA, hin⟩ := S
  refine x_iload_n C 1 dJ7_copyOfRange_39247_0 rfl ?_
  refine x_if_ne (tgt := 10) (P1 := some ()) (P2 := none) (z := ()) C dJ7_copyOfRange_39247_1 (by decide) (if_pos (by rw [eqq (by omega)])) (fun h => nomatch h) (fun _ => ?_)
  refine x_iload_n C 2 dJ7_copyOfRange_39247_4 rfl ?_
  refine x_aload_n C 0 dJ7_copyOfRange_39247_5 rfl ?_
  refine x_talen C i hq dJ7_copyOfRange_39247_6 ?_
  by_cases c : n = m
  · subst c
    refine x_icmp_eq (tgt := 17) (P1 := some ()) (P2 := none) (z := ()) C dJ7_copyOfRange_39247_7 (by decide) (if_pos (by rw [eqq (by omega)] <;> omega)) (fun _ => ?_) (fun h => nomatch h)
    refine x_aload_n C 0 dJ7_copyOfRange_39247_17 rfl ?_
    refine x_tclone C hA hR0 i hq tl_clone hf ⟨Nat.le_of_ble_eq_true rfl, Nat.le_of_ble_eq_true rfl⟩ (by constructor <;> (dsimp only [nx, dz, Dl.ce, Dl.so, rmv]; omega)) dJ7_copyOfRange_39247_18 (fun q => ?_)
    refine x_tcast C ws.length (getLast' _ _) tcl_Arrays_311 dJ7_copyOfRange_39247_21 ?_
    exact hR _ _ _ _ _ ⟨a, rfl, fun j hj => rfl, hf⟩ (by dsimp only [nx, dz, Dl.ce, Dl.so]; omega) (by dsimp only [nx, dz, Dl.ce, Dl.so]; omega) dJ7_copyOfRange_39247_24
  · refine x_icmp_eq (tgt := 17) (P1 := none) (P2 := some ()) (z := ()) C dJ7_copyOfRange_39247_7 (by decide) (if_neg (by rw [eqq (by omega)] <;> omega)) (fun h => nomatch h) (fun _ => ?_)
    refine x_aload_n C 0 dJ7_copyOfRange_39247_10 rfl ?_
    refine x_iload_n C 1 dJ7_copyOfRange_39247_11 rfl ?_
    refine x_iload_n C 2 dJ7_copyOfRange_39247_12 rfl ?_
    refine x_tR (hp' := fun ws' => hL g ws') C hA hsub.rf (t_S (rm := rmv 1 100 1 800) (As := [.ref ha, iV 0, iV (n : Nat)]) (rest := []) C hA hR0 hsub.rf (ct_rngB g.l g.G hq hf h) tm_J7_copyOfRangeByte_39247 tl_Arrays_339 ⟨rfl, rfl⟩ ⟨Nat.le_of_ble_eq_true rfl, Nat.le_of_ble_eq_true rfl⟩ rfl rfl (Nat.le_of_ble_eq_true rfl) (by constructor <;> (dsimp only [nx, dz, Dl.ce, Dl.so, rmv]; omega)) dJ7_copyOfRange_39247_13) (fun _ _ _ => hback.rf) (fun r ws' hp => ?_)
    exact hR _ _ _ _ _ hp (by dsimp only [nx, dz, Dl.ce, Dl.so]; omega) (by dsimp only [nx, dz, Dl.ce, Dl.so]; omega) dJ7_copyOfRange_39247_16

theorem ct_strA (l : Launch) (G : Gd) {hs hb ha m : Nat} {a : Nat → Int32} {t : List Int} {X : va_W} (hc : bcon a t) (hf : fitB a) (h : t.length ≤ m ∧ m ≤ 800) : mTV l yJ0_init_db425 cJ0_init_db425 5 (rmv 3 146 1 800) G [.ref hs, .ref hb, .null] (rawS hs :: sbc hb ha (t.length : Nat) :: bya G ha m a :: X) (fun ws' => TXs G hs t X ws') 1 800 := by
  refine met_TV [(0, .ref hs), (1, .ref hb), (2, .null)] (by decide) (Nat.le_of_ble_eq_true rfl) rfl (fun g C S hR => ?_)
  obtain ⟨rfl, hR0, rfl, hA, hin⟩ := S
  refine x_aload_n C 0 dJ0_init_db425_0 rfl ?_
  refine x_nobj C hR0 ⟨Nat.le_of_ble_eq_true rfl, Nat.le_of_ble_eq_true rfl⟩ tl_obj_String_1 dJ0_init_db425_1 ?_
  refine x_aload_n C 1 dJ0_init_db425_4 rfl ?_
  refine x_tR (hp' := fun ws' => hL g ws') C hA hsub.rf (t_U (Cn := "java/lang/StringBuilder") (rm := rmv 0 0 0 0) (As := []) (rest := []) C hA hR0 hsub.rf (rcBk (k := 1) C rfl) (ct_getValue (k := 1) g.l g.G rfl) (va_cwU 0 C.t tu_String_552 rfl rfl rfl rfl ⟨by decide +kernel, by decide +kernel, by decide +kernel⟩ (by rw [hR0]; exact ⟨Nat.le_of_ble_eq_true rfl, Nat.le_of_ble_eq_true rfl⟩)) rfl rfl (Nat.le_of_ble_eq_true rfl) (by constructor <;> (dsimp only [nx, dz, Dl.ce, Dl.so, rmv]; omega)) dJ0_init_db425_5) (fun _ _ _ => hback.rf) (fun r ws' hp => ?_)
  obtain ⟨rfl, rfl⟩ := hp
  refine x_astore_n (lv' := [(3, .ref r), (0, .ref hs), (1, .ref hb), (2, .null)]) C dJ0_init_db425_8 (by decide) rfl ?_
  refine x_aload_n C 2 dJ0_init_db425_9 rfl ?_
  refine x_tI (hp' := fun ws' => hL g ws') C hA hsub.rf (t_U (Cn := "java/lang/StringBuilder") (rm := rmv 1 20 0 0) (As := []) (rest := []) C hA hR0 hsub.rf (rcBk (k := 1) C rfl) (ct_len4 (k := 1) g.l g.G rfl) (va_cwO 0 C.t to_String_549 rfl rfl rfl tc_J5_length_8abf5 ⟨by decide +kernel, by decide +kernel, by decide +kernel⟩ (by rw [hR0]; exact ⟨Nat.le_of_ble_eq_true rfl, Nat.le_of_ble_eq_true rfl⟩)) rfl rfl (Nat.le_of_ble_eq_true rfl) (by constructor <;> (dsimp only [nx, dz, Dl.ce, Dl.so, rmv]; omega)) dJ0_init_db425_10) (fun _ _ _ => hback.rf) (fun r ws' hp => ?_)
  obtain ⟨rfl, rfl⟩ := hp
  refine x_istore (lv' := [(4, iV (t.length : Nat)), (3, .ref r), (0, .ref hs), (1, .ref hb), (2, .null)]) C dJ0_init_db425_13 (by decide) rfl ?_
  refine x_aload_n C 3 dJ0_init_db425_15 rfl ?_
  refine x_tI (hp' := fun ws' => hL g ws') C hA hsub.rf (t_U (Cn := "java/lang/StringBuilder") (rm := rmv 0 0 0 0) (As := []) (rest := []) C hA hR0 hsub.rf (rcBk (k := 1) C rfl) (ct_isLatin1 (k := 1) g.l g.G rfl) (va_cwU 0 C.t tu_String_1047 rfl rfl rfl rfl ⟨by decide +kernel, by decide +kernel, by decide +kernel⟩ (by rw [hR0]; exact ⟨Nat.le_of_ble_eq_true rfl, Nat.le_of_ble_eq_true rfl⟩)) rfl rfl (Nat.le_of_ble_eq_true rfl) (by constructor <;> (dsimp only [nx, dz, Dl.ce, Dl.so, rmv]; omega)) dJ0_init_db425_16) (fun _ _ _ => hback.rf) (fun r ws' hp => ?_)
  obtain ⟨rfl, rfl⟩ := hp
  refine x_if_eq (tgt := 41) (P1 := none) (P2 := some ()) (z := ()) C dJ0_init_db425_19 (by decide) (if_neg (by rw [eqq (by omega)] <;> omega)) (fun h => nomatch h) (fun _ => ?_)
  refine x_aload_n C 2 dJ0_init_db425_22 rfl ?_
  refine x_iconst C dJ0_init_db425_23 ?_
  refine x_tputF (ws' := (rawS hs :: sbc hb r (t.length : Nat) :: bya g.G r m a :: X)) C hin 0 (k := 1) rfl cl_J0 (by decide) ⟨rfl, rfl, rfl, rfl⟩ rfl tf_String_15 (by decide +kernel) (Nat.le_of_ble_eq_true rfl) rfl dJ0_init_db425_24 ?_
  refine x_aload_n C 2 dJ0_init_db425_27 rfl ?_
  refine x_aload_n C 1 dJ0_init_db425_28 rfl ?_
  refine x_iconst C dJ0_init_db425_29 ?_
  refine x_iload C 0 dJ0_init_db425_30 rfl ?_
  refine x_tR (hp' := fun ws' => hL g ws') C hA hsub.rf (t_S (rm := rmv 2 124 1 800) (As := [.ref r, iV 0, iV (t.length : Nat)]) (rest := [.ref hs]) C hA hR0 hsub.rf (ct_rng (i := 2) g.l g.G rfl hf h) tm_J7_copyOfRange_39247 tl_String_54 ⟨rfl, rfl⟩ ⟨Nat.le_of_ble_eq_true rfl, Nat.le_of_ble_eq_true rfl⟩ rfl rfl (Nat.le_of_ble_eq_true rfl) (by constructor <;> (dsimp only [nx, dz, Dl.ce, Dl.so, rmv]; omega)) dJ0_init_db425_32) (fun _ _ _ => hback.rf) (fun q ws' hp => ?_)
  obtain ⟨a2, rfl, e1, e2⟩ := hp
  refine x_tputF (ws' := ((stc hs q :: sbc hb r (t.length : Nat) :: bya g.G r m a :: (X ++ [bya g.G q t.length a2])))) C hin 0 (k := 0) rfl cl_J0 (by decide) ⟨rfl, rfl, rfl, rfl⟩ rfl tf_String_9 ⟨rfl, rfl⟩ (Nat.le_of_ble_eq_true rfl) rfl dJ0_init_db425_35 ?_
  refine x_goto (tgt := 97) C dJ0_init_db425_38 (by decide) ?_
  refine x_hL (hp' := hL g (stc hs q :: bya g.G q t.length a2 :: X)) (fun H h => h.perm (permC _ _ _ _ _)) ?_
  exact hR _ _ _ _ ⟨q, a2, rfl, fun j hj => (e1 j hj).trans (hc j hj), e2⟩ (by dsimp only [nx, dz, Dl.ce, Dl.so]; omega) (by dsimp only [nx, dz, Dl.ce, Dl.so]; omega) dJ0_init_db425_97

theorem ct_strB (l : Launch) (G : Gd) {hs hb ha m : Nat} {a : Nat → Int32} {t : List Int} {X : va_W} (hc : bcon a t) (hf : fitB a) (h : t.length ≤ m ∧ m ≤ 800) : mTV l yJ0_init_81219 cJ0_init_81219 2 (rmv 4 170 1 800) G [.ref hs, .ref hb] (rawS hs :: sbc hb ha (t.length : Nat) :: bya G ha m a :: X) (fun ws' => TXs G hs t X ws') 1 800 := by
  refine met_TV [(0, .ref hs), (1, .ref hb)] (by decide) (Nat.le_of_ble_eq_true rfl) rfl (fun g C S hR => ?_)
  obtain ⟨rfl, hR0, rfl, hA, hin⟩ := S
  refine x_aload_n C 0 dJ0_init_81219_0 rfl ?_
  refine x_aload_n C 1 dJ0_init_81219_1 rfl ?_
  refine x_null C dJ0_init_81219_2 ?_
  refine x_tV (hp' := fun ws' => hL g ws') C hA hsub.rf (t_I (rm := rmv 3 146 1 800) (As := [.ref hb, .null]) (rest := []) C hA hR0 hsub.rf (ct_strA g.l g.G hc hf h) tm_J0_init_db425 tl_String_489 ⟨rfl, rfl⟩ ⟨Nat.le_of_ble_eq_true rfl, Nat.le_of_ble_eq_true rfl⟩ rfl rfl (Nat.le_of_ble_eq_true rfl) (by constructor <;> (dsimp only [nx, dz, Dl.ce, Dl.so, rmv]; omega)) dJ0_init_81219_3) (fun _ _ => hback.rf) (fun ws' hp => ?_)
  exact hR _ _ _ _ hp (by dsimp only [nx, dz, Dl.ce, Dl.so]; omega) (by dsimp only [nx, dz, Dl.ce, Dl.so]; omega) dJ0_init_81219_6

theorem ct_toString (l : Launch) (G : Gd) {hb ha m : Nat} {a : Nat → Int32} {t : List Int} {X : va_W} (hc : bcon a t) (hf : fitB a) (h : t.length ≤ m ∧ m ≤ 800) : mTR l yJ4_toString_0e30d cJ4_toString_0e30d 1 (some (.object "java/lang/String")) (rmv 5 191 2 804) G [.ref hb] (sbc hb ha (t.length : Nat) :: bya G ha m a :: X) (fun r ws' => TXs G r t X ws') 2 804 := by
  refine met_TR [(0, .ref hb)] (by decide) (Nat.le_of_ble_eq_true rfl) rfl (.object "java/lang/String") rfl (Or.inl ⟨_, rfl⟩) (fun g C S hR => ?_)
  obtain ⟨rfl, hR0, rfl, hA, hin⟩ := S
  refine x_nnew (ci := 10) (d1 := nx (dz 0 0) 1 4) C hA hR0 cl_J0 ⟨tcl_StringBuilder_18, icl_J0.1, icl_J0.2⟩ idf_J0 ⟨Nat.le_of_ble_eq_true rfl, Nat.le_of_ble_eq_true rfl⟩ rfl dJ4_toString_0e30d_0 (fun q => ?_)
  refine x_hL (hp' := hL g (rawS q :: sbc hb ha (t.length : Nat) :: bya g.G ha m a :: X)) (fun H h => h.perm (permD _ _)) ?_
  refine x_dup C rfl dJ4_toString_0e30d_3 ?_
  refine x_aload_n C 0 dJ4_toString_0e30d_4 rfl ?_
  refine x_tV (hp' := fun ws' => hL g ws') C hA hsub.rf (t_I (rm := rmv 4 170 1 800) (As := [.ref hb]) (rest := [.ref q]) C hA hR0 hsub.rf (ct_strB g.l g.G hc hf h) tm_J0_init_81219 tl_StringBuilder_137 ⟨rfl, rfl⟩ ⟨Nat.le_of_ble_eq_true rfl, Nat.le_of_ble_eq_true rfl⟩ rfl rfl (Nat.le_of_ble_eq_true rfl) (by constructor <;> (dsimp only [nx, dz, Dl.ce, Dl.so, rmv]; omega)) dJ4_toString_0e30d_5) (fun _ _ => hback.rf) (fun ws' hp => ?_)
  exact hR _ _ _ _ _ hp (by dsimp only [nx, dz, Dl.ce, Dl.so]; omega) (by dsimp only [nx, dz, Dl.ce, Dl.so]; omega) dJ4_toString_0e30d_8

theorem cs_coder (l : Launch) (G : Gd) {hs hv k : Nat} {ws : va_W} (hq : ws[k]? = some (stc hs hv)) : mTI l yJ0_coder_7d493 cJ0_coder_7d493 1 (some .byte) (rmv 0 0 0 0) G [.ref hs] ws (fun r ws' => r = 0 ∧ ws' = ws) 0 0 := by
  refine met_TI [(0, .ref hs)] (by decide) (Nat.le_of_ble_eq_true rfl) rfl .byte rfl (fun g C S hR => ?_)
  obtain ⟨rfl, hR0, rfl, hA, hin⟩ := S
  refine x_compact C tf_String_38 dJ0_coder_7d493_0 ?_
  refine x_if_eq (tgt := 13) (P1 := none) (P2 := some ()) (z := ()) C dJ0_coder_7d493_3 (by decide) (if_neg (by rw [eqq (by omega)] <;> omega)) (fun h => nomatch h) (fun _ => ?_)
  refine x_aload_n C 0 dJ0_coder_7d493_6 rfl ?_
  refine x_tget C k (k := 1) hq cl_J0 (by decide) ⟨rfl, rfl, rfl⟩ tf_String_15 rfl dJ0_coder_7d493_7 ?_
  refine x_goto (tgt := 14) C dJ0_coder_7d493_10 (by decide) ?_
  exact hR _ _ _ _ _ ⟨rfl, rfl⟩ (by decide +kernel) (by dsimp only [nx, dz, Dl.ce, Dl.so]; omega) (by dsimp only [nx, dz, Dl.ce, Dl.so]; omega) dJ0_coder_7d493_14

theorem cs_isLatin1 (l : Launch) (G : Gd) {hs hv k : Nat} {ws : va_W} (hq : ws[k]? = some (stc hs hv)) : mTI l yJ0_isLatin1_aae02 cJ0_isLatin1_aae02 1 (some .boolean) (rmv 0 0 0 0) G [.ref hs] ws (fun r ws' => r = 1 ∧ ws' = ws) 0 0 := by
  refine met_TI [(0, .ref hs)] (by decide) (Nat.le_of_ble_eq_true rfl) rfl .boolean rfl (fun g C S hR => ?_)
  obtain ⟨rfl, hR0, rfl, hA, hin⟩ := S
  refine x_compact C tf_String_38 dJ0_isLatin1_aae02_0 ?_
  refine x_if_eq (tgt := 17) (P1 := none) (P2 := some ()) (z := ()) C dJ0_isLatin1_aae02_3 (by decide) (if_neg (by rw [eqq (by omega)] <;> omega)) (fun h => nomatch h) (fun _ => ?_)
  refine x_aload_n C 0 dJ0_isLatin1_aae02_6 rfl ?_
  refine x_tget C k (k := 1) hq cl_J0 (by decide) ⟨rfl, rfl, rfl⟩ tf_String_15 rfl dJ0_isLatin1_aae02_7 ?_
  refine x_if_ne (tgt := 17) (P1 := some ()) (P2 := none) (z := ()) C dJ0_isLatin1_aae02_10 (by decide) (if_pos (by rw [eqq (by omega)])) (fun h => nomatch h) (fun _ => ?_)
  refine x_iconst C dJ0_isLatin1_aae02_13 ?_
  refine x_goto (tgt := 18) C dJ0_isLatin1_aae02_14 (by decide) ?_
  exact hR _ _ _ _ _ ⟨rfl, rfl⟩ (by decide +kernel) (by dsimp only [nx, dz, Dl.ce, Dl.so]; omega) (by dsimp only [nx, dz, Dl.ce, Dl.so]; omega) dJ0_isLatin1_aae02_18

theorem cs_len (l : Launch) (G : Gd) {hs hv k k1 : Nat} {ws : va_W} {a : Nat → Int32} {t : List Int} (hq : ws[k]? = some (stc hs hv)) (hq1 : ws[k1]? = some (bya G hv t.length a)) (ht : t.length ≤ 800) : mTI l yJ0_length_8abf5 cJ0_length_8abf5 1 (some .int) (rmv 1 20 0 0) G [.ref hs] ws (fun r ws' => r = (t.length : Nat) ∧ ws' = ws) 0 0 := by
  refine met_TI [(0, .ref hs)] (by decide) (Nat.le_of_ble_eq_true rfl) rfl .int rfl (fun g C S hR => ?_)
  obtain ⟨rfl, hR0, rfl, hA, hin⟩ := S
  refine x_aload_n C 0 dJ0_length_8abf5_0 rfl ?_
  refine x_tget C k (k := 0) hq cl_J0 (by decide) ⟨rfl, rfl, rfl⟩ tf_String_9 rfl dJ0_length_8abf5_1 ?_
  refine x_talen C k1 hq1 dJ0_length_8abf5_4 ?_
  refine x_aload_n C 0 dJ0_length_8abf5_5 rfl ?_
  refine x_tI (hp' := fun ws' => hL g ws') C hA hsub.rf (t_V (rm := rmv 0 0 0 0) (As := []) (rest := [iV (t.length : Nat)]) C hA hR0 hsub.rf (rcSk C hq) (cs_coder g.l g.G hq) tm_J0_coder_7d493 tl_String_335 ⟨rfl, rfl⟩ ⟨Nat.le_of_ble_eq_true rfl, Nat.le_of_ble_eq_true rfl⟩ rfl rfl (Nat.le_of_ble_eq_true rfl) (by constructor <;> (dsimp only [nx, dz, Dl.ce, Dl.so, rmv]; omega)) dJ0_length_8abf5_6) (fun _ _ _ => hback.rf) (fun r ws' hp => ?_)
  obtain ⟨rfl, rfl⟩ := hp
  refine x_ishr C dJ0_length_8abf5_9 ?_
  rw [sr_0 (by omega)]
  exact hR _ _ _ _ _ ⟨rfl, rfl⟩ rfl (by dsimp only [nx, dz, Dl.ce, Dl.so]; omega) (by dsimp only [nx, dz, Dl.ce, Dl.so]; omega) dJ0_length_8abf5_10

theorem ct_ci (l : Launch) (G : Gd) {x n : Int} (h : 0 ≤ x ∧ x < n ∧ n ≤ 100000) : mTV l yJ0_checkIndex_df160 cJ0_checkIndex_df160 2 (rmv 1 22 0 0) G [iV x, iV n] [] (fun ws' => ws' = []) 0 0 := by
  refine met_TV [(0, iV x), (1, iV n)] (by decide) (Nat.le_of_ble_eq_true rfl) rfl (fun g C S hR => ?_)
  obtain ⟨rfl, hR0, rfl, hA, hin⟩ := S
  refine x_iload_n C 0 dJ0_checkIndex_df160_0 rfl ?_
  refine x_iload_n C 1 dJ0_checkIndex_df160_1 rfl ?_
  refine x_fmt C fj_fmt dJ0_checkIndex_df160_2 (fun v hv => ?_)
  refine x_tI (hp' := fun _ => hL g []) C hA hsub.E (t_S (rm := rmv 0 0 0 0) (As := [iV x, iV n, v]) (rest := []) C hA hR0 hsub.E (ct_ci3 g.l g.G hv h) tm_J3_checkIndex_8e157 tl_String_1059 ⟨rfl, rfl⟩ ⟨Nat.le_of_ble_eq_true rfl, Nat.le_of_ble_eq_true rfl⟩ rfl rfl (Nat.le_of_ble_eq_true rfl) (by constructor <;> (dsimp only [nx, dz, Dl.ce, Dl.so, rmv]; omega)) dJ0_checkIndex_df160_5) (fun _ _ _ => hback.E) (fun r ws' hp => ?_)
  obtain ⟨rfl, hw⟩ := hp
  refine x_pop C rfl dJ0_checkIndex_df160_8 ?_
  exact hR _ _ _ _ rfl (by dsimp only [nx, dz, Dl.ce, Dl.so]; omega) (by dsimp only [nx, dz, Dl.ce, Dl.so]; omega) dJ0_checkIndex_df160_9

theorem cs_charAt1 (l : Launch) (G : Gd) {hv k1 : Nat} {ws : va_W} {a : Nat → Int32} {t : List Int} (hq1 : ws[k1]? = some (bya G hv t.length a)) (ht : t.length ≤ 800) {x : Int} (hc : bcon a t) (h7 : ∀ j, j < t.length → 0 ≤ t.getD j 0 ∧ t.getD j 0 < 128) (hx : 0 ≤ x ∧ x < (t.length : Nat)) : mTI l yJ1_charAt_3b067 cJ1_charAt_3b067 2 (some .char) (rmv 2 43 0 0) G [.ref hv, iV x] ws (fun r ws' => r = t.getD x.toNat 0 ∧ ws' = ws) 0 0 := by
  refine met_TI [(0, .ref hv), (1, iV x)] (by decide) (Nat.le_of_ble_eq_true rfl) rfl .char rfl (fun g C S hR => ?_)
  obtain ⟨rfl, hR0, rfl, hA, hin⟩ := S
  refine x_iload_n C 1 dJ1_charAt_3b067_0 rfl ?_
  refine x_aload_n C 0 dJ1_charAt_3b067_1 rfl ?_
  refine x_talen C k1 hq1 dJ1_charAt_3b067_2 ?_
  refine x_tV (hp' := fun _ => hL g (ws)) C hA hsub.E (t_S (rm := rmv 1 22 0 0) (As := [iV x, iV (t.length : Nat)]) (rest := []) C hA hR0 hsub.E (ct_ci g.l g.G (by omega)) tm_J0_checkIndex_df160 tl_StringLatin1_9 ⟨rfl, rfl⟩ ⟨Nat.le_of_ble_eq_true rfl, Nat.le_of_ble_eq_true rfl⟩ rfl rfl (Nat.le_of_ble_eq_true rfl) (by constructor <;> (dsimp only [nx, dz, Dl.ce, Dl.so, rmv]; omega)) dJ1_charAt_3b067_3) (fun _ _ => hback.E) (fun ws' hp => ?_)
  refine x_aload_n C 0 dJ1_charAt_3b067_6 rfl ?_
  refine x_iload_n C 1 dJ1_charAt_3b067_7 rfl ?_
  refine x_tbald (x := t.getD x.toNat 0) C k1 hq1 hx (by omega) (hc _ (by omega)) dJ1_charAt_3b067_8 ?_
  refine x_sipush (v := 255) C dJ1_charAt_3b067_9 (by decide +kernel) ?_
  refine x_iand C dJ1_charAt_3b067_12 ?_
  refine x_i2c C dJ1_charAt_3b067_13 ?_
  have hch := c16 (h7 x.toNat (by omega))
  rw [hch.1]
  exact hR _ _ _ _ _ ⟨rfl, rfl⟩ hch.2 (by dsimp only [nx, dz, Dl.ce, Dl.so]; omega) (by dsimp only [nx, dz, Dl.ce, Dl.so]; omega) dJ1_charAt_3b067_14

theorem cs_charAt (l : Launch) (G : Gd) {hs hv k k1 : Nat} {ws : va_W} {a : Nat → Int32} {t : List Int} (hq : ws[k]? = some (stc hs hv)) (hq1 : ws[k1]? = some (bya G hv t.length a)) (ht : t.length ≤ 800) {x : Int} (hc : bcon a t) (h7 : ∀ j, j < t.length → 0 ≤ t.getD j 0 ∧ t.getD j 0 < 128) (hx : 0 ≤ x ∧ x < (t.length : Nat)) : mTI l yJ0_charAt_5068e cJ0_charAt_5068e 2 (some .char) (rmv 3 64 0 0) G [.ref hs, iV x] ws (fun r ws' => r = t.getD x.toNat 0 ∧ ws' = ws) 0 0 := by
  refine met_TI [(0, .ref hs), (1, iV x)] (by decide) (Nat.le_of_ble_eq_true rfl) rfl .char rfl (fun g C S hR => ?_)
  obtain ⟨rfl, hR0, rfl, hA, hin⟩ := S
  refine x_aload_n C 0 dJ0_charAt_5068e_0 rfl ?_
  refine x_tI (hp' := fun ws' => hL g ws') C hA hsub.rf (t_V (rm := rmv 0 0 0 0) (As := []) (rest := []) C hA hR0 hsub.rf (rcSk C hq) (cs_isLatin1 g.l g.G hq) tm_J0_isLatin1_aae02 tl_String_492 ⟨rfl, rfl⟩ ⟨Nat.le_of_ble_eq_true rfl, Nat.le_of_ble_eq_true rfl⟩ rfl rfl (Nat.le_of_ble_eq_true rfl) (by constructor <;> (dsimp only [nx, dz, Dl.ce, Dl.so, rmv]; omega)) dJ0_charAt_5068e_1) (fun _ _ _ => hback.rf) (fun r ws' hp => ?_)
  obtain ⟨rfl, rfl⟩ := hp
  refine x_if_eq (tgt := 16) (P1 := none) (P2 := some ()) (z := ()) C dJ0_charAt_5068e_4 (by decide) (if_neg (by rw [eqq (by omega)] <;> omega)) (fun h => nomatch h) (fun _ => ?_)
  refine x_aload_n C 0 dJ0_charAt_5068e_7 rfl ?_
  refine x_tget C k (k := 0) hq cl_J0 (by decide) ⟨rfl, rfl, rfl⟩ tf_String_9 rfl dJ0_charAt_5068e_8 ?_
  refine x_iload_n C 1 dJ0_charAt_5068e_11 rfl ?_
  refine x_tI (hp' := fun ws' => hL g ws') C hA hsub.rf (t_S (rm := rmv 2 43 0 0) (As := [.ref hv, iV x]) (rest := []) C hA hR0 hsub.rf (cs_charAt1 g.l g.G hq1 ht hc h7 hx) tm_J1_charAt_3b067 tl_String_495 ⟨rfl, rfl⟩ ⟨Nat.le_of_ble_eq_true rfl, Nat.le_of_ble_eq_true rfl⟩ rfl rfl (Nat.le_of_ble_eq_true rfl) (by constructor <;> (dsimp only [nx, dz, Dl.ce, Dl.so, rmv]; omega)) dJ0_charAt_5068e_12) (fun _ _ _ => hback.rf) (fun r ws1 hp => ?_)
  obtain ⟨rfl, hw⟩ := hp
  exact hR _ _ _ _ _ ⟨rfl, hw⟩ (c16 (h7 x.toNat (by omega))).2 (by dsimp only [nx, dz, Dl.ce, Dl.so]; omega) (by dsimp only [nx, dz, Dl.ce, Dl.so]; omega) dJ0_charAt_5068e_15

