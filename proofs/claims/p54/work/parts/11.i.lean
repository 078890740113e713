section XL2
variable {g : Cx} {d d1 : Dl} {cc : ByteArray} {nL : Nat} {ret : Option FieldType} {own : String} {hp : Heap → Prop} {ws : va_W} {lv : List (Nat × Value)} {st : List Value} {pc : Nat}
theorem x_ngw (C : CX g cc nL ret own) {h0 ci k index : Nat} {Cn n dsc : String} {T : u_T} {ty : Nat → FieldType} (fs : List Value) {v : Value} (h0w : ws[0]? = some (h0, .inr (ci, fs))) (hc : clsW ci Cn T ty) (hk : k < nf ci) (hT : (T k).1 = Cn ∧ (T k).2.1 = n ∧ (T k).2.2.1 = dsc) (hfl : Cond.fieldLink own index Cn n dsc ∈ lw_tg) (hv : fs[k]? = some v) (dg : decode cc pc = .ok (.getfield index, 3))
    (k' : XG g d (hL g ws) lv (v :: st) (pc + 3)) : XG g d (hL g ws) lv (.ref h0 :: st) pc := by
  intro H locs ls h1 h2 h3
  obtain ⟨hc1, hc2, hc3, hc4⟩ := hc
  obtain ⟨t1, t2, t3⟩ := hT
  subst t2; subst t3
  exact va_get C.x C.b C.t hc2 C.o C.K h1.1 0 h0w hc1 k hk (C.t _ hfl) (fun y hy => by rw [← t1]; exact hy) hv dg (k' H locs ls h1 h2 h3)
end XL2
abbrev ifs_X0 : List Value := [.null, iV 0]
theorem idf_X0 : ∀ j, j < nf 0 → defaultValue (tyX0 j) = vp_V ifs_X0 j := fun j hj => match j, hj with | 0, _ => rfl | 1, _ => rfl | n + 2, h => absurd h (Nat.not_lt_of_le (Nat.le_add_left _ _))
theorem icl_X0 : clsW 0 RX0 TX0 tyX0 := ⟨rfl, (fun q hq => tg_mk ⟨(by decide +kernel : ∀ q ∈ u_ws RX0 TX0 (nf 0), q ∈ lw_tbl) q hq, (by decide +kernel : ∀ q ∈ u_ws RX0 TX0 (nf 0), goodWord q = true) q hq⟩), tyX0_ok, nmX0⟩
theorem ifl_X0_7 : Cond.fieldLink RX0 7 RX0 "length" "I" ∈ lw_tg := in_tg 90 (by decide +kernel) rfl
theorem icw_X0_13 : Cond.classLink RX0 13 RX5 ∈ lw_tg ∧ Cond.instantiable RX5 (nf 5) ∈ lw_tg ∧ Cond.initialized RX5 ∈ lw_tg := ⟨in_tg 75 (by decide +kernel) rfl, in_tg 76 (by decide +kernel) rfl, in_tg 36 (by decide +kernel) rfl⟩
theorem ilk_X0_15 : lkI RX0 15 yX5_init := Or.inl (in_tg 77 (by decide +kernel) rfl)
theorem ifl_X0_18 : Cond.fieldLink RX0 18 RX0 "signs" "LSlabCutter$Row;" ∈ lw_tg := in_tg 86 (by decide +kernel) rfl
abbrev ifs_X7 : List Value := [.null, iV 0, iV 0, iV 0]
theorem idf_X7 : ∀ j, j < nf 7 → defaultValue (tyX7 j) = vp_V ifs_X7 j := fun j hj => match j, hj with | 0, _ => rfl | 1, _ => rfl | 2, _ => rfl | 3, _ => rfl | n + 4, h => absurd h (Nat.not_lt_of_le (Nat.le_add_left _ _))
theorem icl_X7 : clsW 7 RX7 TX7 tyX7 := ⟨rfl, (fun q hq => tg_mk ⟨(by decide +kernel : ∀ q ∈ u_ws RX7 TX7 (nf 7), q ∈ lw_tbl) q hq, (by decide +kernel : ∀ q ∈ u_ws RX7 TX7 (nf 7), goodWord q = true) q hq⟩), tyX7_ok, nmX7⟩
theorem ifl_X7_11 : Cond.fieldLink RX7 11 RX7 "kind" "I" ∈ lw_tg := in_tg 106 (by decide +kernel) rfl
theorem ifl_X7_15 : Cond.fieldLink RX7 15 RX7 "start" "I" ∈ lw_tg := in_tg 109 (by decide +kernel) rfl
theorem ifl_X7_18 : Cond.fieldLink RX7 18 RX7 "length" "I" ∈ lw_tg := in_tg 112 (by decide +kernel) rfl
theorem ifl_X7_21 : Cond.fieldLink RX7 21 RX7 "text" "LSlabCutter$Bytes;" ∈ lw_tg := in_tg 104 (by decide +kernel) rfl
abbrev ifs_X3 : List Value := [.null, iV 0, iV 0, iV 0, iV 0, iV 0, iV 0]
theorem idf_X3 : ∀ j, j < nf 3 → defaultValue (tyX3 j) = vp_V ifs_X3 j := fun j hj => match j, hj with | 0, _ => rfl | 1, _ => rfl | 2, _ => rfl | 3, _ => rfl | 4, _ => rfl | 5, _ => rfl | 6, _ => rfl | n + 7, h => absurd h (Nat.not_lt_of_le (Nat.le_add_left _ _))
theorem icl_X3 : clsW 3 RX3 TX3 tyX3 := ⟨rfl, (fun q hq => tg_mk ⟨(by decide +kernel : ∀ q ∈ u_ws RX3 TX3 (nf 3), q ∈ lw_tbl) q hq, (by decide +kernel : ∀ q ∈ u_ws RX3 TX3 (nf 3), goodWord q = true) q hq⟩), tyX3_ok, nmX3⟩
theorem ifl_X3_9 : Cond.fieldLink RX3 9 RX3 "code" "I" ∈ lw_tg := in_tg 131 (by decide +kernel) rfl
theorem ifl_X3_15 : Cond.fieldLink RX3 15 RX3 "position" "I" ∈ lw_tg := in_tg 133 (by decide +kernel) rfl
theorem ifl_X3_18 : Cond.fieldLink RX3 18 RX3 "number" "I" ∈ lw_tg := in_tg 134 (by decide +kernel) rfl
theorem ifl_X3_21 : Cond.fieldLink RX3 21 RX3 "flaws" "I" ∈ lw_tg := in_tg 135 (by decide +kernel) rfl
theorem ifl_X3_24 : Cond.fieldLink RX3 24 RX3 "gapTold" "Z" ∈ lw_tg := in_tg 136 (by decide +kernel) rfl
theorem ifl_X3_28 : Cond.fieldLink RX3 28 RX3 "chiselTold" "Z" ∈ lw_tg := in_tg 137 (by decide +kernel) rfl
theorem ifl_X3_31 : Cond.fieldLink RX3 31 RX3 "tokens" "LSlabCutter$Tokens;" ∈ lw_tg := in_tg 130 (by decide +kernel) rfl
abbrev ifs_X2 : List Value := [.null, .null, .null, .null, iV 0, iV 0, iV 0, iV 0]
theorem idf_X2 : ∀ j, j < nf 2 → defaultValue (tyX2 j) = vp_V ifs_X2 j := fun j hj => match j, hj with | 0, _ => rfl | 1, _ => rfl | 2, _ => rfl | 3, _ => rfl | 4, _ => rfl | 5, _ => rfl | 6, _ => rfl | 7, _ => rfl | n + 8, h => absurd h (Nat.not_lt_of_le (Nat.le_add_left _ _))
theorem icl_X2 : clsW 2 RX2 TX2 tyX2 := ⟨rfl, (fun q hq => tg_mk ⟨(by decide +kernel : ∀ q ∈ u_ws RX2 TX2 (nf 2), q ∈ lw_tbl) q hq, (by decide +kernel : ∀ q ∈ u_ws RX2 TX2 (nf 2), goodWord q = true) q hq⟩), tyX2_ok, nmX2⟩
theorem icw_X2_9 : Cond.classLink RX2 9 RX5 ∈ lw_tg ∧ Cond.instantiable RX5 (nf 5) ∈ lw_tg ∧ Cond.initialized RX5 ∈ lw_tg := ⟨in_tg 256 (by decide +kernel) rfl, in_tg 76 (by decide +kernel) rfl, in_tg 36 (by decide +kernel) rfl⟩
theorem ilk_X2_11 : lkI RX2 11 yX5_init := Or.inl (in_tg 257 (by decide +kernel) rfl)
theorem ifl_X2_14 : Cond.fieldLink RX2 14 RX2 "rowOf" "LSlabCutter$Row;" ∈ lw_tg := in_tg 258 (by decide +kernel) rfl
theorem ifl_X2_20 : Cond.fieldLink RX2 20 RX2 "columnOf" "LSlabCutter$Row;" ∈ lw_tg := in_tg 260 (by decide +kernel) rfl
theorem ifl_X2_23 : Cond.fieldLink RX2 23 RX2 "places" "LSlabCutter$Row;" ∈ lw_tg := in_tg 262 (by decide +kernel) rfl
theorem ifl_X2_26 : Cond.fieldLink RX2 26 RX2 "costs" "LSlabCutter$Row;" ∈ lw_tg := in_tg 264 (by decide +kernel) rfl
theorem ifl_X2_29 : Cond.fieldLink RX2 29 RX2 "laid" "I" ∈ lw_tg := in_tg 266 (by decide +kernel) rfl
theorem ifl_X2_33 : Cond.fieldLink RX2 33 RX2 "letters" "I" ∈ lw_tg := in_tg 268 (by decide +kernel) rfl
theorem ifl_X2_36 : Cond.fieldLink RX2 36 RX2 "row" "I" ∈ lw_tg := in_tg 270 (by decide +kernel) rfl
theorem ifl_X2_39 : Cond.fieldLink RX2 39 RX2 "column" "I" ∈ lw_tg := in_tg 271 (by decide +kernel) rfl
abbrev ifs_X4 : List Value := [.null, iV 0]
theorem idf_X4 : ∀ j, j < nf 4 → defaultValue (tyX4 j) = vp_V ifs_X4 j := fun j hj => match j, hj with | 0, _ => rfl | 1, _ => rfl | n + 2, h => absurd h (Nat.not_lt_of_le (Nat.le_add_left _ _))
theorem icl_X4 : clsW 4 RX4 TX4 tyX4 := ⟨rfl, (fun q hq => tg_mk ⟨(by decide +kernel : ∀ q ∈ u_ws RX4 TX4 (nf 4), q ∈ lw_tbl) q hq, (by decide +kernel : ∀ q ∈ u_ws RX4 TX4 (nf 4), goodWord q = true) q hq⟩), tyX4_ok, nmX4⟩
theorem ifl_X4_11 : Cond.fieldLink RX4 11 RX4 "slabs" "[LSlabCutter$Slab;" ∈ lw_tg := in_tg 299 (by decide +kernel) rfl
theorem ifl_X4_17 : Cond.fieldLink RX4 17 RX4 "count" "I" ∈ lw_tg := in_tg 300 (by decide +kernel) rfl
abbrev ifs_X8 : List Value := [.null, .null, .null, .null, .null, .null, .null, .null, .null, .null, .null]
theorem idf_X8 : ∀ j, j < nf 8 → defaultValue (tyX8 j) = vp_V ifs_X8 j := fun j hj => match j, hj with | 0, _ => rfl | 1, _ => rfl | 2, _ => rfl | 3, _ => rfl | 4, _ => rfl | 5, _ => rfl | 6, _ => rfl | 7, _ => rfl | 8, _ => rfl | 9, _ => rfl | 10, _ => rfl | n + 11, h => absurd h (Nat.not_lt_of_le (Nat.le_add_left _ _))
theorem icl_X8 : clsW 8 RX8 TX8 tyX8 := ⟨rfl, (fun q hq => tg_mk ⟨(by decide +kernel : ∀ q ∈ u_ws RX8 TX8 (nf 8), q ∈ lw_tbl) q hq, (by decide +kernel : ∀ q ∈ u_ws RX8 TX8 (nf 8), goodWord q = true) q hq⟩), tyX8_ok, nmX8⟩
theorem icw_X8_9 : Cond.classLink RX8 9 RX0 ∈ lw_tg ∧ Cond.instantiable RX0 (nf 0) ∈ lw_tg ∧ Cond.initialized RX0 ∈ lw_tg := ⟨in_tg 69 (by decide +kernel) rfl, in_tg 70 (by decide +kernel) rfl, in_tg 35 (by decide +kernel) rfl⟩
theorem imf_X0_init : mfI yX0_init cX0_init 2 1 := ⟨in_tg 72 (by decide +kernel) rfl, in_tg 35 (by decide +kernel) rfl, in_tg 73 (by decide +kernel) rfl, by decide +kernel, by decide +kernel, by decide +kernel, rfl⟩
theorem ilk_X8_11 : lkI RX8 11 yX0_init := Or.inl (in_tg 71 (by decide +kernel) rfl)
theorem ifl_X8_14 : Cond.fieldLink RX8 14 RX8 "input" "LSlabCutter$Bytes;" ∈ lw_tg := in_tg 306 (by decide +kernel) rfl
theorem ifl_X8_18 : Cond.fieldLink RX8 18 RX8 "output" "LSlabCutter$Bytes;" ∈ lw_tg := in_tg 307 (by decide +kernel) rfl
theorem icw_X8_21 : Cond.classLink RX8 21 RX7 ∈ lw_tg ∧ Cond.instantiable RX7 (nf 7) ∈ lw_tg ∧ Cond.initialized RX7 ∈ lw_tg := ⟨in_tg 98 (by decide +kernel) rfl, in_tg 99 (by decide +kernel) rfl, in_tg 37 (by decide +kernel) rfl⟩
theorem imf_X7_init : mfI yX7_init cX7_init 2 1 := ⟨in_tg 101 (by decide +kernel) rfl, in_tg 37 (by decide +kernel) rfl, in_tg 102 (by decide +kernel) rfl, by decide +kernel, by decide +kernel, by decide +kernel, rfl⟩
theorem ilk_X8_23 : lkI RX8 23 yX7_init := Or.inl (in_tg 100 (by decide +kernel) rfl)
theorem ifl_X8_26 : Cond.fieldLink RX8 26 RX8 "tokens" "LSlabCutter$Tokens;" ∈ lw_tg := in_tg 308 (by decide +kernel) rfl
theorem icw_X8_30 : Cond.classLink RX8 30 RX3 ∈ lw_tg ∧ Cond.instantiable RX3 (nf 3) ∈ lw_tg ∧ Cond.initialized RX3 ∈ lw_tg := ⟨in_tg 124 (by decide +kernel) rfl, in_tg 125 (by decide +kernel) rfl, in_tg 38 (by decide +kernel) rfl⟩
theorem imf_X3_init : mfI yX3_init cX3_init 2 1 := ⟨in_tg 127 (by decide +kernel) rfl, in_tg 38 (by decide +kernel) rfl, in_tg 128 (by decide +kernel) rfl, by decide +kernel, by decide +kernel, by decide +kernel, rfl⟩
theorem ilk_X8_32 : lkI RX8 32 yX3_init := Or.inl (in_tg 126 (by decide +kernel) rfl)
theorem ifl_X8_35 : Cond.fieldLink RX8 35 RX8 "parser" "LSlabCutter$Parser;" ∈ lw_tg := in_tg 309 (by decide +kernel) rfl
theorem icw_X8_39 : Cond.classLink RX8 39 RX6 ∈ lw_tg ∧ Cond.instantiable RX6 (nf 6) ∈ lw_tg ∧ Cond.initialized RX6 ∈ lw_tg := ⟨in_tg 153 (by decide +kernel) rfl, in_tg 154 (by decide +kernel) rfl, in_tg 39 (by decide +kernel) rfl⟩
theorem ilk_X8_41 : lkI RX8 41 yX6_init := Or.inr ⟨"SlabCutter", in_nw 122 (by decide +kernel) rfl⟩
theorem ifl_X8_42 : Cond.fieldLink RX8 42 RX8 "slab" "LSlabCutter$Slab;" ∈ lw_tg := in_tg 310 (by decide +kernel) rfl
theorem icw_X8_46 : Cond.classLink RX8 46 RX2 ∈ lw_tg ∧ Cond.instantiable RX2 (nf 2) ∈ lw_tg ∧ Cond.initialized RX2 ∈ lw_tg := ⟨in_tg 250 (by decide +kernel) rfl, in_tg 251 (by decide +kernel) rfl, in_tg 41 (by decide +kernel) rfl⟩
theorem imf_X2_init : mfI yX2_init cX2_init 1 0 := ⟨in_tg 253 (by decide +kernel) rfl, in_tg 41 (by decide +kernel) rfl, in_tg 254 (by decide +kernel) rfl, by decide +kernel, by decide +kernel, by decide +kernel, rfl⟩
theorem ilk_X8_48 : lkI RX8 48 yX2_init := Or.inr ⟨"SlabCutter", in_nw 219 (by decide +kernel) rfl⟩
theorem ifl_X8_49 : Cond.fieldLink RX8 49 RX8 "layout" "LSlabCutter$Layout;" ∈ lw_tg := in_tg 311 (by decide +kernel) rfl
theorem ifl_X8_53 : Cond.fieldLink RX8 53 RX8 "trial" "LSlabCutter$Slab;" ∈ lw_tg := in_tg 312 (by decide +kernel) rfl
theorem ifl_X8_56 : Cond.fieldLink RX8 56 RX8 "trialLayout" "LSlabCutter$Layout;" ∈ lw_tg := in_tg 313 (by decide +kernel) rfl
theorem icw_X8_59 : Cond.classLink RX8 59 RX1 ∈ lw_tg ∧ Cond.instantiable RX1 (nf 1) ∈ lw_tg ∧ Cond.initialized RX1 ∈ lw_tg := ⟨in_tg 289 (by decide +kernel) rfl, in_tg 162 (by decide +kernel) rfl, in_tg 40 (by decide +kernel) rfl⟩
theorem ilk_X8_61 : lkI RX8 61 yX1_init := Or.inr ⟨"SlabCutter", in_nw 257 (by decide +kernel) rfl⟩
theorem ifl_X8_62 : Cond.fieldLink RX8 62 RX8 "trialChisel" "LSlabCutter$Chisel;" ∈ lw_tg := in_tg 314 (by decide +kernel) rfl
theorem icw_X8_66 : Cond.classLink RX8 66 RX4 ∈ lw_tg ∧ Cond.instantiable RX4 (nf 4) ∈ lw_tg ∧ Cond.initialized RX4 ∈ lw_tg := ⟨in_tg 291 (by decide +kernel) rfl, in_tg 292 (by decide +kernel) rfl, in_tg 42 (by decide +kernel) rfl⟩
theorem imf_X4_init : mfI yX4_init cX4_init 1 0 := ⟨in_tg 294 (by decide +kernel) rfl, in_tg 42 (by decide +kernel) rfl, in_tg 295 (by decide +kernel) rfl, by decide +kernel, by decide +kernel, by decide +kernel, rfl⟩
theorem ilk_X8_68 : lkI RX8 68 yX4_init := Or.inr ⟨"SlabCutter", in_nw 260 (by decide +kernel) rfl⟩
theorem ifl_X8_69 : Cond.fieldLink RX8 69 RX8 "past" "LSlabCutter$Past;" ∈ lw_tg := in_tg 315 (by decide +kernel) rfl
theorem ifl_X8_73 : Cond.fieldLink RX8 73 RX8 "slots" "[LSlabCutter$Slab;" ∈ lw_tg := in_tg 316 (by decide +kernel) rfl
abbrev postX0 (G : Gd) (n : Nat) : Nat → (Nat → Nat) → va_W := fun h0 qs => (h0, .inr (0, [.ref (qs 0), iV 0])) :: (postX5 G n (qs 0) (fun i => qs (1 + i)))
theorem c_X0_init (l : Launch) (G : Gd) (n : Nat) (hn : n < 100000) : mN l yX0_init cX0_init 2 (rmv 2 33 2 ((1 + n))) G 0 ifs_X0 [iV n] false (postX0 G n) 2 ((1 + n)) := by
  refine met_N (fun h0 => [(0, .ref h0), (1, iV n)]) (by decide) rfl (fun h0 => Nat.le_of_ble_eq_true rfl) (fun h0 => rfl) (fun h0 g C hS hR9 => ?_)
  obtain ⟨-, hR, hG, hA, hin, hAO⟩ := id hS
  refine x_aload_n C 0 dX0_init_0 rfl ?_
  refine x_nobj C hR ⟨Nat.le_of_ble_eq_true rfl, Nat.le_of_ble_eq_true rfl⟩ (in_tg 74 (by decide +kernel) rfl) dX0_init_1 ?_
  refine x_aload_n C 0 dX0_init_4 rfl ?_
  refine x_iconst C dX0_init_5 ?_
  refine x_nput (k := 1) (fs' := [.null, iV 0]) C icl_X0 (by decide) ⟨rfl, rfl, rfl, rfl⟩ (Or.inl ifl_X0_7) ⟨rfl, rfl⟩ (Nat.le_of_ble_eq_true rfl) rfl dX0_init_6 ?_
  refine x_aload_n C 0 dX0_init_9 rfl ?_
  refine x_nnew (fs := ifs_X5) (d1 := dz 1 1) C hA hR icl_X5 icw_X0_13 idf_X5 (⟨Nat.le_of_ble_eq_true rfl, Nat.le_add_right _ _⟩) rfl dX0_init_10 (fun q10 => ?_)
  refine x_dup C rfl dX0_init_13 ?_
  refine x_iload_n C 1 dX0_init_14 rfl ?_
  refine x_ncall (As := [iV n]) (d1 := dz 2 (1 + n)) C hA hR imf_X5_init ilk_X0_15 ⟨rfl, rfl⟩ ⟨Nat.le_of_ble_eq_true rfl, Nat.le_of_ble_eq_true rfl⟩ (cN hS (c_X5_init l G n (by omega))) (fun h => nomatch h) rfl rfl (Nat.le_of_ble_eq_true rfl) (by exact ⟨Nat.le_of_ble_eq_true rfl, Nat.le_refl _⟩) rfl dX0_init_15 (fun u15 => ?_)
  refine x_nputF (k := 0) (fs' := [.ref q10, iV 0]) C hin icl_X0 (by decide) ⟨rfl, rfl, rfl, rfl⟩ rfl (Or.inl ifl_X0_18) ifl_X0_18 ⟨rfl, rfl⟩ (Nat.le_of_ble_eq_true rfl) rfl dX0_init_18 ?_
  exact hR9 (dz 2 (1 + n)) 21 _ _ ⟨fun i => [q10, u15 0].getD i 0, by subst hG; rfl⟩ (Nat.le_refl _) (Nat.le_refl _) dX0_init_21
abbrev postX7 (G : Gd) (a1 : Nat) : Nat → (Nat → Nat) → va_W := fun h0 qs => (h0, .inr (7, [.ref a1, iV 0, iV 0, iV 0])) :: ([])
theorem c_X7_init (l : Launch) (G : Gd) (a1 : Nat) : mN l yX7_init cX7_init 2 (rmv 1 12 0 0) G 7 ifs_X7 [.ref a1] false (postX7 G a1) 0 0 := by
  refine met_N (fun h0 => [(0, .ref h0), (1, .ref a1)]) (by decide) rfl (fun h0 => Nat.le_of_ble_eq_true rfl) (fun h0 => rfl) (fun h0 g C hS hR9 => ?_)
  obtain ⟨-, hR, hG, hA, hin, hAO⟩ := id hS
  refine x_aload_n C 0 dX7_init_0 rfl ?_
  refine x_nobj C hR ⟨Nat.le_of_ble_eq_true rfl, Nat.le_of_ble_eq_true rfl⟩ (in_tg 103 (by decide +kernel) rfl) dX7_init_1 ?_
  refine x_aload_n C 0 dX7_init_4 rfl ?_
  refine x_iconst C dX7_init_5 ?_
  refine x_nput (k := 1) (fs' := [.null, iV 0, iV 0, iV 0]) C icl_X7 (by decide) ⟨rfl, rfl, rfl, rfl⟩ (Or.inl ifl_X7_11) ⟨rfl, rfl⟩ (Nat.le_of_ble_eq_true rfl) rfl dX7_init_6 ?_
  refine x_aload_n C 0 dX7_init_9 rfl ?_
  refine x_iconst C dX7_init_10 ?_
  refine x_nput (k := 2) (fs' := [.null, iV 0, iV 0, iV 0]) C icl_X7 (by decide) ⟨rfl, rfl, rfl, rfl⟩ (Or.inl ifl_X7_15) ⟨rfl, rfl⟩ (Nat.le_of_ble_eq_true rfl) rfl dX7_init_11 ?_
  refine x_aload_n C 0 dX7_init_14 rfl ?_
  refine x_iconst C dX7_init_15 ?_
  refine x_nput (k := 3) (fs' := [.null, iV 0, iV 0, iV 0]) C icl_X7 (by decide) ⟨rfl, rfl, rfl, rfl⟩ (Or.inl ifl_X7_18) ⟨rfl, rfl⟩ (Nat.le_of_ble_eq_true rfl) rfl dX7_init_16 ?_
  refine x_aload_n C 0 dX7_init_19 rfl ?_
  refine x_aload_n C 1 dX7_init_20 rfl ?_
  refine x_nputF (k := 0) (fs' := [.ref a1, iV 0, iV 0, iV 0]) C hin icl_X7 (by decide) ⟨rfl, rfl, rfl, rfl⟩ rfl (Or.inl ifl_X7_21) ifl_X7_21 ⟨rfl, rfl⟩ (Nat.le_of_ble_eq_true rfl) rfl dX7_init_21 ?_
  exact hR9 (dz 0 0) 24 _ _ ⟨fun _ => 0, by subst hG; rfl⟩ (Nat.le_refl _) (Nat.le_refl _) dX7_init_24
abbrev postX3 (G : Gd) (a1 : Nat) : Nat → (Nat → Nat) → va_W := fun h0 qs => (h0, .inr (3, [.ref a1, iV 0, iV (-1), iV 0, iV 0, iV 0, iV 0])) :: ([])
theorem c_X3_init (l : Launch) (G : Gd) (a1 : Nat) : mN l yX3_init cX3_init 2 (rmv 1 12 0 0) G 3 ifs_X3 [.ref a1] false (postX3 G a1) 0 0 := by
  refine met_N (fun h0 => [(0, .ref h0), (1, .ref a1)]) (by decide) rfl (fun h0 => Nat.le_of_ble_eq_true rfl) (fun h0 => rfl) (fun h0 g C hS hR9 => ?_)
  obtain ⟨-, hR, hG, hA, hin, hAO⟩ := id hS
  refine x_aload_n C 0 dX3_init_0 rfl ?_
  refine x_nobj C hR ⟨Nat.le_of_ble_eq_true rfl, Nat.le_of_ble_eq_true rfl⟩ (in_tg 129 (by decide +kernel) rfl) dX3_init_1 ?_
  refine x_aload_n C 0 dX3_init_4 rfl ?_
  refine x_iconst C dX3_init_5 ?_
  refine x_nput (k := 1) (fs' := [.null, iV 0, iV 0, iV 0, iV 0, iV 0, iV 0]) C icl_X3 (by decide) ⟨rfl, rfl, rfl, rfl⟩ (Or.inl ifl_X3_9) ⟨rfl, rfl⟩ (Nat.le_of_ble_eq_true rfl) rfl dX3_init_6 ?_
  refine x_aload_n C 0 dX3_init_9 rfl ?_
  refine x_iconst C dX3_init_10 ?_
  refine x_nput (k := 2) (fs' := [.null, iV 0, iV (-1), iV 0, iV 0, iV 0, iV 0]) C icl_X3 (by decide) ⟨rfl, rfl, rfl, rfl⟩ (Or.inl ifl_X3_15) ⟨rfl, rfl⟩ (Nat.le_of_ble_eq_true rfl) rfl dX3_init_11 ?_
  refine x_aload_n C 0 dX3_init_14 rfl ?_
  refine x_iconst C dX3_init_15 ?_
  refine x_nput (k := 3) (fs' := [.null, iV 0, iV (-1), iV 0, iV 0, iV 0, iV 0]) C icl_X3 (by decide) ⟨rfl, rfl, rfl, rfl⟩ (Or.inl ifl_X3_18) ⟨rfl, rfl⟩ (Nat.le_of_ble_eq_true rfl) rfl dX3_init_16 ?_
  refine x_aload_n C 0 dX3_init_19 rfl ?_
  refine x_iconst C dX3_init_20 ?_
  refine x_nput (k := 4) (fs' := [.null, iV 0, iV (-1), iV 0, iV 0, iV 0, iV 0]) C icl_X3 (by decide) ⟨rfl, rfl, rfl, rfl⟩ (Or.inl ifl_X3_21) ⟨rfl, rfl⟩ (Nat.le_of_ble_eq_true rfl) rfl dX3_init_21 ?_
  refine x_aload_n C 0 dX3_init_24 rfl ?_
  refine x_iconst C dX3_init_25 ?_
  refine x_nput (k := 5) (fs' := [.null, iV 0, iV (-1), iV 0, iV 0, iV 0, iV 0]) C icl_X3 (by decide) ⟨rfl, rfl, rfl, rfl⟩ (Or.inl ifl_X3_24) ⟨rfl, rfl⟩ (Nat.le_of_ble_eq_true rfl) rfl dX3_init_26 ?_
  refine x_aload_n C 0 dX3_init_29 rfl ?_
  refine x_iconst C dX3_init_30 ?_
  refine x_nput (k := 6) (fs' := [.null, iV 0, iV (-1), iV 0, iV 0, iV 0, iV 0]) C icl_X3 (by decide) ⟨rfl, rfl, rfl, rfl⟩ (Or.inl ifl_X3_28) ⟨rfl, rfl⟩ (Nat.le_of_ble_eq_true rfl) rfl dX3_init_31 ?_
  refine x_aload_n C 0 dX3_init_34 rfl ?_
  refine x_aload_n C 1 dX3_init_35 rfl ?_
  refine x_nputF (k := 0) (fs' := [.ref a1, iV 0, iV (-1), iV 0, iV 0, iV 0, iV 0]) C hin icl_X3 (by decide) ⟨rfl, rfl, rfl, rfl⟩ rfl (Or.inl ifl_X3_31) ifl_X3_31 ⟨rfl, rfl⟩ (Nat.le_of_ble_eq_true rfl) rfl dX3_init_36 ?_
  exact hR9 (dz 0 0) 39 _ _ ⟨fun _ => 0, by subst hG; rfl⟩ (Nat.le_refl _) (Nat.le_refl _) dX3_init_39
abbrev postX2 (G : Gd) : Nat → (Nat → Nat) → va_W := fun h0 qs => (h0, .inr (2, [.ref (qs 0), .ref (qs 2), .ref (qs 4), .ref (qs 6), iV 0, iV 0, iV 0, iV 0])) :: (postX5 G 60 (qs 0) (fun i => qs (1 + i)) ++ postX5 G 60 (qs 2) (fun i => qs (3 + i)) ++ postX5 G 288 (qs 4) (fun i => qs (5 + i)) ++ postX5 G 288 (qs 6) (fun i => qs (7 + i)))
theorem c_X2_init (l : Launch) (G : Gd) : mN l yX2_init cX2_init 1 (rmv 2 33 8 700) G 2 ifs_X2 [] false (postX2 G) 8 700 := by
  refine met_N (fun h0 => [(0, .ref h0)]) (by decide) rfl (fun h0 => Nat.le_of_ble_eq_true rfl) (fun h0 => rfl) (fun h0 g C hS hR9 => ?_)
  obtain ⟨-, hR, hG, hA, hin, hAO⟩ := id hS
  refine x_aload_n C 0 dX2_init_0 rfl ?_
  refine x_nobj C hR ⟨Nat.le_of_ble_eq_true rfl, Nat.le_of_ble_eq_true rfl⟩ (in_tg 255 (by decide +kernel) rfl) dX2_init_1 ?_
  refine x_aload_n C 0 dX2_init_4 rfl ?_
  refine x_nnew (fs := ifs_X5) (d1 := dz 1 1) C hA hR icl_X5 icw_X2_9 idf_X5 (by decide) rfl dX2_init_5 (fun q5 => ?_)
  refine x_dup C rfl dX2_init_8 ?_
  refine x_bipush (v := 60) C dX2_init_9 (by decide +kernel) ?_
  refine x_ncall (As := [iV 60]) (d1 := dz 2 61) C hA hR imf_X5_init ilk_X2_11 ⟨rfl, rfl⟩ ⟨Nat.le_of_ble_eq_true rfl, Nat.le_of_ble_eq_true rfl⟩ (cN hS (c_X5_init l G 60 (by decide))) (fun h => nomatch h) rfl rfl (Nat.le_of_ble_eq_true rfl) (by decide) rfl dX2_init_11 (fun u11 => ?_)
  refine x_nputF (k := 0) (fs' := [.ref q5, .null, .null, .null, iV 0, iV 0, iV 0, iV 0]) C hin icl_X2 (by decide) ⟨rfl, rfl, rfl, rfl⟩ rfl (Or.inl ifl_X2_14) ifl_X2_14 ⟨rfl, rfl⟩ (Nat.le_of_ble_eq_true rfl) rfl dX2_init_14 ?_
  refine x_aload_n C 0 dX2_init_17 rfl ?_
  refine x_nnew (fs := ifs_X5) (d1 := dz 3 62) C hA hR icl_X5 icw_X2_9 idf_X5 (by decide) rfl dX2_init_18 (fun q18 => ?_)
  refine x_dup C rfl dX2_init_21 ?_
  refine x_bipush (v := 60) C dX2_init_22 (by decide +kernel) ?_
  refine x_ncall (As := [iV 60]) (d1 := dz 4 122) C hA hR imf_X5_init ilk_X2_11 ⟨rfl, rfl⟩ ⟨Nat.le_of_ble_eq_true rfl, Nat.le_of_ble_eq_true rfl⟩ (cN hS (c_X5_init l G 60 (by decide))) (fun h => nomatch h) rfl rfl (Nat.le_of_ble_eq_true rfl) (by decide) rfl dX2_init_24 (fun u24 => ?_)
  refine x_nputF (k := 1) (fs' := [.ref q5, .ref q18, .null, .null, iV 0, iV 0, iV 0, iV 0]) C hin icl_X2 (by decide) ⟨rfl, rfl, rfl, rfl⟩ rfl (Or.inl ifl_X2_20) ifl_X2_20 ⟨rfl, rfl⟩ (Nat.le_of_ble_eq_true rfl) rfl dX2_init_27 ?_
  refine x_aload_n C 0 dX2_init_30 rfl ?_
  refine x_nnew (fs := ifs_X5) (d1 := dz 5 123) C hA hR icl_X5 icw_X2_9 idf_X5 (by decide) rfl dX2_init_31 (fun q31 => ?_)
  refine x_dup C rfl dX2_init_34 ?_
  refine x_sipush (v := 288) C dX2_init_35 (by decide +kernel) ?_
  refine x_ncall (As := [iV 288]) (d1 := dz 6 411) C hA hR imf_X5_init ilk_X2_11 ⟨rfl, rfl⟩ ⟨Nat.le_of_ble_eq_true rfl, Nat.le_of_ble_eq_true rfl⟩ (cN hS (c_X5_init l G 288 (by decide))) (fun h => nomatch h) rfl rfl (Nat.le_of_ble_eq_true rfl) (by decide) rfl dX2_init_38 (fun u38 => ?_)
  refine x_nputF (k := 2) (fs' := [.ref q5, .ref q18, .ref q31, .null, iV 0, iV 0, iV 0, iV 0]) C hin icl_X2 (by decide) ⟨rfl, rfl, rfl, rfl⟩ rfl (Or.inl ifl_X2_23) ifl_X2_23 ⟨rfl, rfl⟩ (Nat.le_of_ble_eq_true rfl) rfl dX2_init_41 ?_
  refine x_aload_n C 0 dX2_init_44 rfl ?_
  refine x_nnew (fs := ifs_X5) (d1 := dz 7 412) C hA hR icl_X5 icw_X2_9 idf_X5 (by decide) rfl dX2_init_45 (fun q45 => ?_)
  refine x_dup C rfl dX2_init_48 ?_
  refine x_sipush (v := 288) C dX2_init_49 (by decide +kernel) ?_
  refine x_ncall (As := [iV 288]) (d1 := dz 8 700) C hA hR imf_X5_init ilk_X2_11 ⟨rfl, rfl⟩ ⟨Nat.le_of_ble_eq_true rfl, Nat.le_of_ble_eq_true rfl⟩ (cN hS (c_X5_init l G 288 (by decide))) (fun h => nomatch h) rfl rfl (Nat.le_of_ble_eq_true rfl) (by decide) rfl dX2_init_52 (fun u52 => ?_)
  refine x_nputF (k := 3) (fs' := [.ref q5, .ref q18, .ref q31, .ref q45, iV 0, iV 0, iV 0, iV 0]) C hin icl_X2 (by decide) ⟨rfl, rfl, rfl, rfl⟩ rfl (Or.inl ifl_X2_26) ifl_X2_26 ⟨rfl, rfl⟩ (Nat.le_of_ble_eq_true rfl) rfl dX2_init_55 ?_
  refine x_aload_n C 0 dX2_init_58 rfl ?_
  refine x_iconst C dX2_init_59 ?_
  refine x_nput (k := 4) (fs' := [.ref q5, .ref q18, .ref q31, .ref q45, iV 0, iV 0, iV 0, iV 0]) C icl_X2 (by decide) ⟨rfl, rfl, rfl, rfl⟩ (Or.inl ifl_X2_29) ⟨rfl, rfl⟩ (Nat.le_of_ble_eq_true rfl) rfl dX2_init_60 ?_
  refine x_aload_n C 0 dX2_init_63 rfl ?_
  refine x_iconst C dX2_init_64 ?_
  refine x_nput (k := 5) (fs' := [.ref q5, .ref q18, .ref q31, .ref q45, iV 0, iV 0, iV 0, iV 0]) C icl_X2 (by decide) ⟨rfl, rfl, rfl, rfl⟩ (Or.inl ifl_X2_33) ⟨rfl, rfl⟩ (Nat.le_of_ble_eq_true rfl) rfl dX2_init_65 ?_
  refine x_aload_n C 0 dX2_init_68 rfl ?_
  refine x_iconst C dX2_init_69 ?_
  refine x_nput (k := 6) (fs' := [.ref q5, .ref q18, .ref q31, .ref q45, iV 0, iV 0, iV 0, iV 0]) C icl_X2 (by decide) ⟨rfl, rfl, rfl, rfl⟩ (Or.inl ifl_X2_36) ⟨rfl, rfl⟩ (Nat.le_of_ble_eq_true rfl) rfl dX2_init_70 ?_
  refine x_aload_n C 0 dX2_init_73 rfl ?_
  refine x_iconst C dX2_init_74 ?_
  refine x_nput (k := 7) (fs' := [.ref q5, .ref q18, .ref q31, .ref q45, iV 0, iV 0, iV 0, iV 0]) C icl_X2 (by decide) ⟨rfl, rfl, rfl, rfl⟩ (Or.inl ifl_X2_39) ⟨rfl, rfl⟩ (Nat.le_of_ble_eq_true rfl) rfl dX2_init_75 ?_
  exact hR9 (dz 8 700) 78 _ _ ⟨fun i => [q5, u11 0, q18, u24 0, q31, u38 0, q45, u52 0].getD i 0, by subst hG; rfl⟩ (Nat.le_refl _) (Nat.le_refl _) dX2_init_78
abbrev postX4 (G : Gd) : Nat → (Nat → Nat) → va_W := fun h0 qs => (h0, .inr (4, [.ref (qs 0), iV 0])) :: ([((qs 0), .inl (G.cy 3, (6, .inr (.inr (.inr (.inr fun _ => none))))))])
theorem c_X4_init (l : Launch) (G : Gd) : mN l yX4_init cX4_init 1 (rmv 1 12 1 6) G 4 ifs_X4 [] true (postX4 G) 1 6 := by
  refine met_N (fun h0 => [(0, .ref h0)]) (by decide) rfl (fun h0 => Nat.le_of_ble_eq_true rfl) (fun h0 => rfl) (fun h0 g C hS hR9 => ?_)
  obtain ⟨-, hR, hG, hA, hin, hAO⟩ := id hS
  refine x_aload_n C 0 dX4_init_0 rfl ?_
  refine x_nobj C hR ⟨Nat.le_of_ble_eq_true rfl, Nat.le_of_ble_eq_true rfl⟩ (in_tg 296 (by decide +kernel) rfl) dX4_init_1 ?_
  refine x_aload_n C 0 dX4_init_4 rfl ?_
  refine x_bipush (v := 6) C dX4_init_5 (by decide +kernel) ?_
  refine x_nanew (n := 6) (d1 := dz 1 6) C hA hR (in_tg 297 (by decide +kernel) rfl) (hAO rfl) (by decide) (by decide) rfl dX4_init_7 (fun q7 => ?_)
  refine x_nputF (k := 0) (fs' := [.ref q7, iV 0]) C hin icl_X4 (by decide) ⟨rfl, rfl, rfl, rfl⟩ rfl (Or.inl ifl_X4_11) ifl_X4_11 ⟨rfl, rfl⟩ (Nat.le_of_ble_eq_true rfl) rfl dX4_init_10 ?_
  refine x_aload_n C 0 dX4_init_13 rfl ?_
  refine x_iconst C dX4_init_14 ?_
  refine x_nput (k := 1) (fs' := [.ref q7, iV 0]) C icl_X4 (by decide) ⟨rfl, rfl, rfl, rfl⟩ (Or.inl ifl_X4_17) ⟨rfl, rfl⟩ (Nat.le_of_ble_eq_true rfl) rfl dX4_init_15 ?_
  exact hR9 (dz 1 6) 18 _ _ ⟨fun i => [q7].getD i 0, by subst hG; rfl⟩ (Nat.le_refl _) (Nat.le_refl _) dX4_init_18
abbrev postX8 (G : Gd) : Nat → (Nat → Nat) → va_W := fun h0 qs => (h0, .inr (8, [.ref (qs 0), .ref (qs 3), .ref (qs 6), .ref (qs 7), .ref (qs 8), .ref (qs 20), .ref (qs 29), .ref (qs 41), .ref (qs 50), .ref (qs 51), .ref (qs 53)])) :: (postX0 G 500 (qs 0) (fun i => qs (1 + i)) ++ postX0 G 900 (qs 3) (fun i => qs (4 + i)) ++ postX7 G (qs 0) (qs 6) (fun i => qs (7 + i)) ++ postX3 G (qs 6) (qs 7) (fun i => qs (8 + i)) ++ postX6 G (qs 8) (fun i => qs (9 + i)) ++ postX2 G (qs 20) (fun i => qs (21 + i)) ++ postX6 G (qs 29) (fun i => qs (30 + i)) ++ postX2 G (qs 41) (fun i => qs (42 + i)) ++ postX1 G (qs 50) (fun i => qs (51 + i)) ++ postX4 G (qs 51) (fun i => qs (52 + i)) ++ [((qs 53), .inl (G.cy 3, (2, .inr (.inr (.inr (.inr fun _ => none))))))])
theorem c_X8_init (l : Launch) (G : Gd) : mN l yX8_init cX8_init 1 (rmv 3 54 54 4516) G 8 ifs_X8 [] true (postX8 G) 54 4516 := by
  refine met_N (fun h0 => [(0, .ref h0)]) (by decide) rfl (fun h0 => Nat.le_of_ble_eq_true rfl) (fun h0 => rfl) (fun h0 g C hS hR9 => ?_)
  obtain ⟨-, hR, hG, hA, hin, hAO⟩ := id hS
  refine x_aload_n C 0 dX8_init_0 rfl ?_
  refine x_nobj C hR ⟨Nat.le_of_ble_eq_true rfl, Nat.le_of_ble_eq_true rfl⟩ (in_tg 66 (by decide +kernel) rfl) dX8_init_1 ?_
  refine x_aload_n C 0 dX8_init_4 rfl ?_
  refine x_nnew (fs := ifs_X0) (d1 := dz 1 2) C hA hR icl_X0 icw_X8_9 idf_X0 (by decide) rfl dX8_init_5 (fun q5 => ?_)
  refine x_dup C rfl dX8_init_8 ?_
  refine x_sipush (v := 500) C dX8_init_9 (by decide +kernel) ?_
  refine x_ncall (As := [iV 500]) (d1 := dz 3 503) C hA hR imf_X0_init ilk_X8_11 ⟨rfl, rfl⟩ ⟨Nat.le_of_ble_eq_true rfl, Nat.le_of_ble_eq_true rfl⟩ (cN hS (c_X0_init l G 500 (by decide))) (fun h => nomatch h) rfl rfl (Nat.le_of_ble_eq_true rfl) (by decide) rfl dX8_init_12 (fun u12 => ?_)
  refine x_nputF (k := 0) (fs' := [.ref q5, .null, .null, .null, .null, .null, .null, .null, .null, .null, .null]) C hin icl_X8 (by decide) ⟨rfl, rfl, rfl, rfl⟩ rfl (Or.inl ifl_X8_14) ifl_X8_14 ⟨rfl, rfl⟩ (Nat.le_of_ble_eq_true rfl) rfl dX8_init_15 ?_
  refine x_aload_n C 0 dX8_init_18 rfl ?_
  refine x_nnew (fs := ifs_X0) (d1 := dz 4 505) C hA hR icl_X0 icw_X8_9 idf_X0 (by decide) rfl dX8_init_19 (fun q19 => ?_)
  refine x_dup C rfl dX8_init_22 ?_
  refine x_sipush (v := 900) C dX8_init_23 (by decide +kernel) ?_
  refine x_ncall (As := [iV 900]) (d1 := dz 6 1406) C hA hR imf_X0_init ilk_X8_11 ⟨rfl, rfl⟩ ⟨Nat.le_of_ble_eq_true rfl, Nat.le_of_ble_eq_true rfl⟩ (cN hS (c_X0_init l G 900 (by decide))) (fun h => nomatch h) rfl rfl (Nat.le_of_ble_eq_true rfl) (by decide) rfl dX8_init_26 (fun u26 => ?_)
  refine x_nputF (k := 1) (fs' := [.ref q5, .ref q19, .null, .null, .null, .null, .null, .null, .null, .null, .null]) C hin icl_X8 (by decide) ⟨rfl, rfl, rfl, rfl⟩ rfl (Or.inl ifl_X8_18) ifl_X8_18 ⟨rfl, rfl⟩ (Nat.le_of_ble_eq_true rfl) rfl dX8_init_29 ?_
  refine x_aload_n C 0 dX8_init_32 rfl ?_
  refine x_nnew (fs := ifs_X7) (d1 := dz 7 1410) C hA hR icl_X7 icw_X8_21 idf_X7 (by decide) rfl dX8_init_33 (fun q33 => ?_)
  refine x_dup C rfl dX8_init_36 ?_
  refine x_aload_n C 0 dX8_init_37 rfl ?_
  refine x_ngw (k := 0) (v := .ref q5) C [.ref q5, .ref q19, .null, .null, .null, .null, .null, .null, .null, .null, .null] rfl icl_X8 (by decide) ⟨rfl, rfl, rfl⟩ ifl_X8_14 rfl dX8_init_38 ?_
  refine x_ncall (As := [.ref q5]) (d1 := dz 7 1410) C hA hR imf_X7_init ilk_X8_23 ⟨rfl, rfl⟩ ⟨Nat.le_of_ble_eq_true rfl, Nat.le_of_ble_eq_true rfl⟩ (cN hS (c_X7_init l G q5)) (fun h => nomatch h) rfl rfl (Nat.le_of_ble_eq_true rfl) (by decide) rfl dX8_init_41 (fun u41 => ?_)
  refine x_nputF (k := 2) (fs' := [.ref q5, .ref q19, .ref q33, .null, .null, .null, .null, .null, .null, .null, .null]) C hin icl_X8 (by decide) ⟨rfl, rfl, rfl, rfl⟩ rfl (Or.inl ifl_X8_26) ifl_X8_26 ⟨rfl, rfl⟩ (Nat.le_of_ble_eq_true rfl) rfl dX8_init_44 ?_
  refine x_aload_n C 0 dX8_init_47 rfl ?_
  refine x_nnew (fs := ifs_X3) (d1 := dz 8 1417) C hA hR icl_X3 icw_X8_30 idf_X3 (by decide) rfl dX8_init_48 (fun q48 => ?_)
  refine x_dup C rfl dX8_init_51 ?_
  refine x_aload_n C 0 dX8_init_52 rfl ?_
  refine x_ngw (k := 2) (v := .ref q33) C [.ref q5, .ref q19, .ref q33, .null, .null, .null, .null, .null, .null, .null, .null] rfl icl_X8 (by decide) ⟨rfl, rfl, rfl⟩ ifl_X8_26 rfl dX8_init_53 ?_
  refine x_ncall (As := [.ref q33]) (d1 := dz 8 1417) C hA hR imf_X3_init ilk_X8_32 ⟨rfl, rfl⟩ ⟨Nat.le_of_ble_eq_true rfl, Nat.le_of_ble_eq_true rfl⟩ (cN hS (c_X3_init l G q33)) (fun h => nomatch h) rfl rfl (Nat.le_of_ble_eq_true rfl) (by decide) rfl dX8_init_56 (fun u56 => ?_)
  refine x_nputF (k := 3) (fs' := [.ref q5, .ref q19, .ref q33, .ref q48, .null, .null, .null, .null, .null, .null, .null]) C hin icl_X8 (by decide) ⟨rfl, rfl, rfl, rfl⟩ rfl (Or.inl ifl_X8_35) ifl_X8_35 ⟨rfl, rfl⟩ (Nat.le_of_ble_eq_true rfl) rfl dX8_init_59 ?_
  refine x_aload_n C 0 dX8_init_62 rfl ?_
  refine x_nnew (fs := ifs_X6) (d1 := dz 9 1429) C hA hR icl_X6 icw_X8_39 idf_X6 (by decide) rfl dX8_init_63 (fun q63 => ?_)
  refine x_dup C rfl dX8_init_66 ?_
  refine x_ncall (As := []) (d1 := dz 20 2251) C hA hR imf_X6_init ilk_X8_41 ⟨rfl, rfl⟩ ⟨Nat.le_of_ble_eq_true rfl, Nat.le_of_ble_eq_true rfl⟩ (cN hS (c_X6_init l G)) (fun h => nomatch h) rfl rfl (Nat.le_of_ble_eq_true rfl) (by decide) rfl dX8_init_67 (fun u67 => ?_)
  refine x_nputF (k := 4) (fs' := [.ref q5, .ref q19, .ref q33, .ref q48, .ref q63, .null, .null, .null, .null, .null, .null]) C hin icl_X8 (by decide) ⟨rfl, rfl, rfl, rfl⟩ rfl (Or.inl ifl_X8_42) ifl_X8_42 ⟨rfl, rfl⟩ (Nat.le_of_ble_eq_true rfl) rfl dX8_init_70 ?_
  refine x_aload_n C 0 dX8_init_73 rfl ?_
  refine x_nnew (fs := ifs_X2) (d1 := dz 21 2259) C hA hR icl_X2 icw_X8_46 idf_X2 (by decide) rfl dX8_init_74 (fun q74 => ?_)
  refine x_dup C rfl dX8_init_77 ?_
  refine x_ncall (As := []) (d1 := dz 29 2959) C hA hR imf_X2_init ilk_X8_48 ⟨rfl, rfl⟩ ⟨Nat.le_of_ble_eq_true rfl, Nat.le_of_ble_eq_true rfl⟩ (cN hS (c_X2_init l G)) (fun h => nomatch h) rfl rfl (Nat.le_of_ble_eq_true rfl) (by decide) rfl dX8_init_78 (fun u78 => ?_)
  refine x_nputF (k := 5) (fs' := [.ref q5, .ref q19, .ref q33, .ref q48, .ref q63, .ref q74, .null, .null, .null, .null, .null]) C hin icl_X8 (by decide) ⟨rfl, rfl, rfl, rfl⟩ rfl (Or.inl ifl_X8_49) ifl_X8_49 ⟨rfl, rfl⟩ (Nat.le_of_ble_eq_true rfl) rfl dX8_init_81 ?_
  refine x_aload_n C 0 dX8_init_84 rfl ?_
  refine x_nnew (fs := ifs_X6) (d1 := dz 30 2971) C hA hR icl_X6 icw_X8_39 idf_X6 (by decide) rfl dX8_init_85 (fun q85 => ?_)
  refine x_dup C rfl dX8_init_88 ?_
  refine x_ncall (As := []) (d1 := dz 41 3793) C hA hR imf_X6_init ilk_X8_41 ⟨rfl, rfl⟩ ⟨Nat.le_of_ble_eq_true rfl, Nat.le_of_ble_eq_true rfl⟩ (cN hS (c_X6_init l G)) (fun h => nomatch h) rfl rfl (Nat.le_of_ble_eq_true rfl) (by decide) rfl dX8_init_89 (fun u89 => ?_)
  refine x_nputF (k := 6) (fs' := [.ref q5, .ref q19, .ref q33, .ref q48, .ref q63, .ref q74, .ref q85, .null, .null, .null, .null]) C hin icl_X8 (by decide) ⟨rfl, rfl, rfl, rfl⟩ rfl (Or.inl ifl_X8_53) ifl_X8_53 ⟨rfl, rfl⟩ (Nat.le_of_ble_eq_true rfl) rfl dX8_init_92 ?_
  refine x_aload_n C 0 dX8_init_95 rfl ?_
  refine x_nnew (fs := ifs_X2) (d1 := dz 42 3801) C hA hR icl_X2 icw_X8_46 idf_X2 (by decide) rfl dX8_init_96 (fun q96 => ?_)
  refine x_dup C rfl dX8_init_99 ?_
  refine x_ncall (As := []) (d1 := dz 50 4501) C hA hR imf_X2_init ilk_X8_48 ⟨rfl, rfl⟩ ⟨Nat.le_of_ble_eq_true rfl, Nat.le_of_ble_eq_true rfl⟩ (cN hS (c_X2_init l G)) (fun h => nomatch h) rfl rfl (Nat.le_of_ble_eq_true rfl) (by decide) rfl dX8_init_100 (fun u100 => ?_)
  refine x_nputF (k := 7) (fs' := [.ref q5, .ref q19, .ref q33, .ref q48, .ref q63, .ref q74, .ref q85, .ref q96, .null, .null, .null]) C hin icl_X8 (by decide) ⟨rfl, rfl, rfl, rfl⟩ rfl (Or.inl ifl_X8_56) ifl_X8_56 ⟨rfl, rfl⟩ (Nat.le_of_ble_eq_true rfl) rfl dX8_init_103 ?_
  refine x_aload_n C 0 dX8_init_106 rfl ?_
  refine x_nnew (fs := ifs_X1) (d1 := dz 51 4506) C hA hR icl_X1 icw_X8_59 idf_X1 (by decide) rfl dX8_init_107 (fun q107 => ?_)
  refine x_dup C rfl dX8_init_110 ?_
  refine x_ncall (As := []) (d1 := dz 51 4506) C hA hR imf_X1_init ilk_X8_61 ⟨rfl, rfl⟩ ⟨Nat.le_of_ble_eq_true rfl, Nat.le_of_ble_eq_true rfl⟩ (cN hS (c_X1_init l G)) (fun h => nomatch h) rfl rfl (Nat.le_of_ble_eq_true rfl) (by decide) rfl dX8_init_111 (fun u111 => ?_)
  refine x_nputF (k := 8) (fs' := [.ref q5, .ref q19, .ref q33, .ref q48, .ref q63, .ref q74, .ref q85, .ref q96, .ref q107, .null, .null]) C hin icl_X8 (by decide) ⟨rfl, rfl, rfl, rfl⟩ rfl (Or.inl ifl_X8_62) ifl_X8_62 ⟨rfl, rfl⟩ (Nat.le_of_ble_eq_true rfl) rfl dX8_init_114 ?_
  refine x_aload_n C 0 dX8_init_117 rfl ?_
  refine x_nnew (fs := ifs_X4) (d1 := dz 52 4508) C hA hR icl_X4 icw_X8_66 idf_X4 (by decide) rfl dX8_init_118 (fun q118 => ?_)
  refine x_dup C rfl dX8_init_121 ?_
  refine x_ncall (As := []) (d1 := dz 53 4514) C hA hR imf_X4_init ilk_X8_68 ⟨rfl, rfl⟩ ⟨Nat.le_of_ble_eq_true rfl, Nat.le_of_ble_eq_true rfl⟩ (cN hS (c_X4_init l G)) (hAO) rfl rfl (Nat.le_of_ble_eq_true rfl) (by decide) rfl dX8_init_122 (fun u122 => ?_)
  refine x_nputF (k := 9) (fs' := [.ref q5, .ref q19, .ref q33, .ref q48, .ref q63, .ref q74, .ref q85, .ref q96, .ref q107, .ref q118, .null]) C hin icl_X8 (by decide) ⟨rfl, rfl, rfl, rfl⟩ rfl (Or.inl ifl_X8_69) ifl_X8_69 ⟨rfl, rfl⟩ (Nat.le_of_ble_eq_true rfl) rfl dX8_init_125 ?_
  refine x_aload_n C 0 dX8_init_128 rfl ?_
  refine x_iconst C dX8_init_129 ?_
  refine x_nanew (n := 2) (d1 := dz 54 4516) C hA hR (in_tg 153 (by decide +kernel) rfl) (hAO rfl) (by decide) (by decide) rfl dX8_init_130 (fun q130 => ?_)
  refine x_nputF (k := 10) (fs' := [.ref q5, .ref q19, .ref q33, .ref q48, .ref q63, .ref q74, .ref q85, .ref q96, .ref q107, .ref q118, .ref q130]) C hin icl_X8 (by decide) ⟨rfl, rfl, rfl, rfl⟩ rfl (Or.inl ifl_X8_73) ifl_X8_73 ⟨rfl, rfl⟩ (Nat.le_of_ble_eq_true rfl) rfl dX8_init_133 ?_
  exact hR9 (dz 54 4516) 136 _ _ ⟨fun i => [q5, u12 0, u12 1, q19, u26 0, u26 1, q33, q48, q63, u67 0, u67 1, u67 2, u67 3, u67 4, u67 5, u67 6, u67 7, u67 8, u67 9, u67 10, q74, u78 0, u78 1, u78 2, u78 3, u78 4, u78 5, u78 6, u78 7, q85, u89 0, u89 1, u89 2, u89 3, u89 4, u89 5, u89 6, u89 7, u89 8, u89 9, u89 10, q96, u100 0, u100 1, u100 2, u100 3, u100 4, u100 5, u100 6, u100 7, q107, q118, u122 0, q130].getD i 0, by subst hG; rfl⟩ (Nat.le_refl _) (Nat.le_refl _) dX8_init_136
