theorem cN {g : Cx} {l : Launch} {rm : Room} {G : Gd} {b : Bool} (hS : stI g l rm G b) {y : MethodName} {cc : ByteArray} {nL : Nat} {rm' : Room} {ci : Nat} {fs0 As : List Value} {b' : Bool} {post : Nat → (Nat → Nat) → va_W} {mc ms : Nat} (h : mN l y cc nL rm' G ci fs0 As b' post mc ms) : mN g.l y cc nL rm' g.G ci fs0 As b' post mc ms := by
  rw [hS.1, hS.2.2.1]; exact h
theorem ltn0 {n : Nat} (hn : n < 100000) : ¬ lt32 (n : Int) 0 = true := by
  unfold lt32; rw [decide_eq_true_iff, w32_id (by omega) (by omega), w32_id (by omega) (by omega)]; omega
theorem acl_int : Cond.arrayClass .int ∈ lw_tg := in_tg 85 (by decide +kernel) rfl
theorem acl_byte : Cond.arrayClass .byte ∈ lw_tg := in_tg 641 (by decide +kernel) rfl
abbrev ifs_X5 : List Value := [.null]
theorem idf_X5 : ∀ j, j < nf 5 → defaultValue (tyX5 j) = vp_V ifs_X5 j := fun j hj => match j, hj with | 0, _ => rfl | n + 1, h => absurd h (Nat.not_lt_of_le (Nat.le_add_left _ _))
theorem icl_X5 : clsW 5 RX5 TX5 tyX5 := ⟨rfl, (fun q hq => tg_mk ⟨(by decide +kernel : ∀ q ∈ u_ws RX5 TX5 (nf 5), q ∈ lw_tbl) q hq, (by decide +kernel : ∀ q ∈ u_ws RX5 TX5 (nf 5), goodWord q = true) q hq⟩), tyX5_ok, nmX5⟩
theorem ifl_X5_7 : Cond.fieldLink RX5 7 RX5 "values" "[I" ∈ lw_tg := in_tg 81 (by decide +kernel) rfl
abbrev ifs_X1 : List Value := [iV 0, iV 0, iV 0, iV 0, iV 0]
theorem idf_X1 : ∀ j, j < nf 1 → defaultValue (tyX1 j) = vp_V ifs_X1 j := fun j hj => match j, hj with | 0, _ => rfl | 1, _ => rfl | 2, _ => rfl | 3, _ => rfl | 4, _ => rfl | n + 5, h => absurd h (Nat.not_lt_of_le (Nat.le_add_left _ _))
theorem icl_X1 : clsW 1 RX1 TX1 tyX1 := ⟨rfl, (fun q hq => tg_mk ⟨(by decide +kernel : ∀ q ∈ u_ws RX1 TX1 (nf 1), q ∈ lw_tbl) q hq, (by decide +kernel : ∀ q ∈ u_ws RX1 TX1 (nf 1), goodWord q = true) q hq⟩), tyX1_ok, nmX1⟩
theorem ifl_X1_9 : Cond.fieldLink RX1 9 RX1 "sharp" "I" ∈ lw_tg := in_tg 167 (by decide +kernel) rfl
theorem ifl_X1_15 : Cond.fieldLink RX1 15 RX1 "honeTime" "I" ∈ lw_tg := in_tg 169 (by decide +kernel) rfl
theorem ifl_X1_18 : Cond.fieldLink RX1 18 RX1 "left" "I" ∈ lw_tg := in_tg 171 (by decide +kernel) rfl
theorem ifl_X1_21 : Cond.fieldLink RX1 21 RX1 "time" "I" ∈ lw_tg := in_tg 173 (by decide +kernel) rfl
theorem ifl_X1_24 : Cond.fieldLink RX1 24 RX1 "honed" "I" ∈ lw_tg := in_tg 176 (by decide +kernel) rfl
abbrev ifs_X6 : List Value := [iV 0, iV 0, iV 0, .null, iV 0, .null, .null, iV 0, .null, .null, .null, iV 0]
theorem idf_X6 : ∀ j, j < nf 6 → defaultValue (tyX6 j) = vp_V ifs_X6 j := fun j hj => match j, hj with | 0, _ => rfl | 1, _ => rfl | 2, _ => rfl | 3, _ => rfl | 4, _ => rfl | 5, _ => rfl | 6, _ => rfl | 7, _ => rfl | 8, _ => rfl | 9, _ => rfl | 10, _ => rfl | 11, _ => rfl | n + 12, h => absurd h (Nat.not_lt_of_le (Nat.le_add_left _ _))
theorem icl_X6 : clsW 6 RX6 TX6 tyX6 := ⟨rfl, (fun q hq => tg_mk ⟨(by decide +kernel : ∀ q ∈ u_ws RX6 TX6 (nf 6), q ∈ lw_tbl) q hq, (by decide +kernel : ∀ q ∈ u_ws RX6 TX6 (nf 6), goodWord q = true) q hq⟩), tyX6_ok, nmX6⟩
theorem ifl_X6_9 : Cond.fieldLink RX6 9 RX6 "columns" "I" ∈ lw_tg := in_tg 190 (by decide +kernel) rfl
theorem ifl_X6_15 : Cond.fieldLink RX6 15 RX6 "rows" "I" ∈ lw_tg := in_tg 194 (by decide +kernel) rfl
theorem ifl_X6_18 : Cond.fieldLink RX6 18 RX6 "gap" "I" ∈ lw_tg := in_tg 198 (by decide +kernel) rfl
theorem icw_X6_21 : Cond.classLink RX6 21 RX5 ∈ lw_tg ∧ Cond.instantiable RX5 (nf 5) ∈ lw_tg ∧ Cond.initialized RX5 ∈ lw_tg := ⟨in_tg 159 (by decide +kernel) rfl, in_tg 76 (by decide +kernel) rfl, in_tg 36 (by decide +kernel) rfl⟩
theorem imf_X5_init : mfI yX5_init cX5_init 2 1 := ⟨in_tg 78 (by decide +kernel) rfl, in_tg 36 (by decide +kernel) rfl, in_tg 79 (by decide +kernel) rfl, by decide +kernel, by decide +kernel, by decide +kernel, rfl⟩
theorem ilk_X6_23 : lkI RX6 23 yX5_init := Or.inl (in_tg 160 (by decide +kernel) rfl)
theorem ifl_X6_26 : Cond.fieldLink RX6 26 RX6 "flaws" "LSlabCutter$Row;" ∈ lw_tg := in_tg 202 (by decide +kernel) rfl
theorem ifl_X6_30 : Cond.fieldLink RX6 30 RX6 "parts" "I" ∈ lw_tg := in_tg 204 (by decide +kernel) rfl
theorem ifl_X6_33 : Cond.fieldLink RX6 33 RX6 "kinds" "LSlabCutter$Row;" ∈ lw_tg := in_tg 208 (by decide +kernel) rfl
theorem ifl_X6_36 : Cond.fieldLink RX6 36 RX6 "sizes" "LSlabCutter$Row;" ∈ lw_tg := in_tg 210 (by decide +kernel) rfl
theorem ifl_X6_39 : Cond.fieldLink RX6 39 RX6 "words" "I" ∈ lw_tg := in_tg 212 (by decide +kernel) rfl
theorem ifl_X6_42 : Cond.fieldLink RX6 42 RX6 "lengths" "LSlabCutter$Row;" ∈ lw_tg := in_tg 216 (by decide +kernel) rfl
theorem ifl_X6_45 : Cond.fieldLink RX6 45 RX6 "bytes" "LSlabCutter$Row;" ∈ lw_tg := in_tg 219 (by decide +kernel) rfl
theorem icw_X6_48 : Cond.classLink RX6 48 RX1 ∈ lw_tg ∧ Cond.instantiable RX1 (nf 1) ∈ lw_tg ∧ Cond.initialized RX1 ∈ lw_tg := ⟨in_tg 161 (by decide +kernel) rfl, in_tg 162 (by decide +kernel) rfl, in_tg 40 (by decide +kernel) rfl⟩
theorem imf_X1_init : mfI yX1_init cX1_init 1 0 := ⟨in_tg 164 (by decide +kernel) rfl, in_tg 40 (by decide +kernel) rfl, in_tg 165 (by decide +kernel) rfl, by decide +kernel, by decide +kernel, by decide +kernel, rfl⟩
theorem ilk_X6_50 : lkI RX6 50 yX1_init := Or.inr ⟨"SlabCutter", in_nw 130 (by decide +kernel) rfl⟩
theorem ifl_X6_51 : Cond.fieldLink RX6 51 RX6 "chisel" "LSlabCutter$Chisel;" ∈ lw_tg := in_tg 220 (by decide +kernel) rfl
theorem ifl_X6_55 : Cond.fieldLink RX6 55 RX6 "carved" "I" ∈ lw_tg := in_tg 223 (by decide +kernel) rfl
theorem icw_n6 : Cond.instantiable RX6 (nf 6) ∈ lw_tg ∧ Cond.initialized RX6 ∈ lw_tg := ⟨in_tg 154 (by decide +kernel) rfl, in_tg 39 (by decide +kernel) rfl⟩
theorem imf_X6_init : mfI yX6_init cX6_init 1 0 := ⟨in_tg 156 (by decide +kernel) rfl, in_tg 39 (by decide +kernel) rfl, in_tg 157 (by decide +kernel) rfl, by decide +kernel, by decide +kernel, by decide +kernel, rfl⟩
abbrev postX5 (G : Gd) (n : Nat) : Nat → (Nat → Nat) → va_W := fun h0 qs => (h0, .inr (5, [.ref (qs 0)])) :: ([((qs 0), .inl (G.cy 0, (n, .inl fun _ => 0)))])
theorem c_X5_init (l : Launch) (G : Gd) (n : Nat) (hn : n < 100000) : mN l yX5_init cX5_init 2 (rmv 1 12 1 (n)) G 5 ifs_X5 [iV n] false (postX5 G n) 1 (n) := by
  refine met_N (fun h0 => [(0, .ref h0), (1, iV n)]) (by decide) rfl (fun h0 => Nat.le_of_ble_eq_true rfl) (fun h0 => rfl) (fun h0 g C hS hR9 => ?_)
  obtain ⟨-, hR, hG, hA, hin, hAO⟩ := id hS
  refine x_aload_n C 0 dX5_init_0 rfl ?_
  refine x_nobj C hR ⟨Nat.le_of_ble_eq_true rfl, Nat.le_of_ble_eq_true rfl⟩ (in_tg 80 (by decide +kernel) rfl) dX5_init_1 ?_
  refine x_aload_n C 0 dX5_init_4 rfl ?_
  refine x_iload_n C 1 dX5_init_5 rfl ?_
  refine x_if_ge (P1 := none) (P2 := some 0) (z := (0 : Nat)) C dX5_init_6 rfl (by rw [if_neg (ltn0 hn)]) (fun _ => ?_) (fun h => nomatch h)
  refine x_iload_n C 1 dX5_init_13 rfl ?_
  refine x_nnewa (i := 0) (n := n) (d1 := dz 1 (0 + n)) C hA hR (by simp) (acl_int) (by omega) (by exact ⟨Nat.le_of_ble_eq_true rfl, Nat.le_of_eq (Nat.zero_add n)⟩) rfl dX5_init_14 (fun q14 => ?_)
  refine x_nputF (k := 0) (fs' := [.ref q14]) C hin icl_X5 (by decide) ⟨rfl, rfl, rfl, rfl⟩ rfl (Or.inl ifl_X5_7) ifl_X5_7 ⟨rfl, rfl⟩ (Nat.le_of_ble_eq_true rfl) rfl dX5_init_16 ?_
  exact hR9 (dz 1 (0 + n)) 19 _ _ ⟨fun i => [q14].getD i 0, by subst hG; rfl⟩ (Nat.le_refl _) (Nat.le_of_eq (Nat.zero_add n)) dX5_init_19
abbrev postX1 (G : Gd) : Nat → (Nat → Nat) → va_W := fun h0 qs => (h0, .inr (1, [iV 100, iV 10, iV 100, iV 0, iV 0])) :: ([])
theorem c_X1_init (l : Launch) (G : Gd) : mN l yX1_init cX1_init 1 (rmv 1 12 0 0) G 1 ifs_X1 [] false (postX1 G) 0 0 := by
  refine met_N (fun h0 => [(0, .ref h0)]) (by decide) rfl (fun h0 => Nat.le_of_ble_eq_true rfl) (fun h0 => rfl) (fun h0 g C hS hR9 => ?_)
  obtain ⟨-, hR, hG, hA, hin, hAO⟩ := id hS
  refine x_aload_n C 0 dX1_init_0 rfl ?_
  refine x_nobj C hR ⟨Nat.le_of_ble_eq_true rfl, Nat.le_of_ble_eq_true rfl⟩ (in_tg 166 (by decide +kernel) rfl) dX1_init_1 ?_
  refine x_aload_n C 0 dX1_init_4 rfl ?_
  refine x_bipush (v := 100) C dX1_init_5 (by decide +kernel) ?_
  refine x_nput (k := 0) (fs' := [iV 100, iV 0, iV 0, iV 0, iV 0]) C icl_X1 (by decide) ⟨rfl, rfl, rfl, rfl⟩ (Or.inl ifl_X1_9) ⟨rfl, rfl⟩ (Nat.le_of_ble_eq_true rfl) rfl dX1_init_7 ?_
  refine x_aload_n C 0 dX1_init_10 rfl ?_
  refine x_bipush (v := 10) C dX1_init_11 (by decide +kernel) ?_
  refine x_nput (k := 1) (fs' := [iV 100, iV 10, iV 0, iV 0, iV 0]) C icl_X1 (by decide) ⟨rfl, rfl, rfl, rfl⟩ (Or.inl ifl_X1_15) ⟨rfl, rfl⟩ (Nat.le_of_ble_eq_true rfl) rfl dX1_init_13 ?_
  refine x_aload_n C 0 dX1_init_16 rfl ?_
  refine x_bipush (v := 100) C dX1_init_17 (by decide +kernel) ?_
  refine x_nput (k := 2) (fs' := [iV 100, iV 10, iV 100, iV 0, iV 0]) C icl_X1 (by decide) ⟨rfl, rfl, rfl, rfl⟩ (Or.inl ifl_X1_18) ⟨rfl, rfl⟩ (Nat.le_of_ble_eq_true rfl) rfl dX1_init_19 ?_
  refine x_aload_n C 0 dX1_init_22 rfl ?_
  refine x_iconst C dX1_init_23 ?_
  refine x_nput (k := 3) (fs' := [iV 100, iV 10, iV 100, iV 0, iV 0]) C icl_X1 (by decide) ⟨rfl, rfl, rfl, rfl⟩ (Or.inl ifl_X1_21) ⟨rfl, rfl⟩ (Nat.le_of_ble_eq_true rfl) rfl dX1_init_24 ?_
  refine x_aload_n C 0 dX1_init_27 rfl ?_
  refine x_iconst C dX1_init_28 ?_
  refine x_nput (k := 4) (fs' := [iV 100, iV 10, iV 100, iV 0, iV 0]) C icl_X1 (by decide) ⟨rfl, rfl, rfl, rfl⟩ (Or.inl ifl_X1_24) ⟨rfl, rfl⟩ (Nat.le_of_ble_eq_true rfl) rfl dX1_init_29 ?_
  exact hR9 (dz 0 0) 32 _ _ ⟨fun _ => 0, by subst hG; rfl⟩ (Nat.le_refl _) (Nat.le_refl _) dX1_init_32
abbrev postX6 (G : Gd) : Nat → (Nat → Nat) → va_W := fun h0 qs => (h0, .inr (6, [iV 10, iV 4, iV 0, .ref (qs 0), iV 0, .ref (qs 2), .ref (qs 4), iV 0, .ref (qs 6), .ref (qs 8), .ref (qs 10), iV 0])) :: (postX5 G 12 (qs 0) (fun i => qs (1 + i)) ++ postX5 G 10 (qs 2) (fun i => qs (3 + i)) ++ postX5 G 10 (qs 4) (fun i => qs (5 + i)) ++ postX5 G 60 (qs 6) (fun i => qs (7 + i)) ++ postX5 G 720 (qs 8) (fun i => qs (9 + i)) ++ postX1 G (qs 10) (fun i => qs (11 + i)))
theorem c_X6_init (l : Launch) (G : Gd) : mN l yX6_init cX6_init 1 (rmv 2 33 11 822) G 6 ifs_X6 [] false (postX6 G) 11 822 := by
  refine met_N (fun h0 => [(0, .ref h0)]) (by decide) rfl (fun h0 => Nat.le_of_ble_eq_true rfl) (fun h0 => rfl) (fun h0 g C hS hR9 => ?_)
  obtain ⟨-, hR, hG, hA, hin, hAO⟩ := id hS
  refine x_aload_n C 0 dX6_init_0 rfl ?_
  refine x_nobj C hR ⟨Nat.le_of_ble_eq_true rfl, Nat.le_of_ble_eq_true rfl⟩ (in_tg 158 (by decide +kernel) rfl) dX6_init_1 ?_
  refine x_aload_n C 0 dX6_init_4 rfl ?_
  refine x_bipush (v := 10) C dX6_init_5 (by decide +kernel) ?_
  refine x_nput (k := 0) (fs' := [iV 10, iV 0, iV 0, .null, iV 0, .null, .null, iV 0, .null, .null, .null, iV 0]) C icl_X6 (by decide) ⟨rfl, rfl, rfl, rfl⟩ (Or.inl ifl_X6_9) ⟨rfl, rfl⟩ (Nat.le_of_ble_eq_true rfl) rfl dX6_init_7 ?_
  refine x_aload_n C 0 dX6_init_10 rfl ?_
  refine x_iconst C dX6_init_11 ?_
  refine x_nput (k := 1) (fs' := [iV 10, iV 4, iV 0, .null, iV 0, .null, .null, iV 0, .null, .null, .null, iV 0]) C icl_X6 (by decide) ⟨rfl, rfl, rfl, rfl⟩ (Or.inl ifl_X6_15) ⟨rfl, rfl⟩ (Nat.le_of_ble_eq_true rfl) rfl dX6_init_12 ?_
  refine x_aload_n C 0 dX6_init_15 rfl ?_
  refine x_iconst C dX6_init_16 ?_
  refine x_nput (k := 2) (fs' := [iV 10, iV 4, iV 0, .null, iV 0, .null, .null, iV 0, .null, .null, .null, iV 0]) C icl_X6 (by decide) ⟨rfl, rfl, rfl, rfl⟩ (Or.inl ifl_X6_18) ⟨rfl, rfl⟩ (Nat.le_of_ble_eq_true rfl) rfl dX6_init_17 ?_
  refine x_aload_n C 0 dX6_init_20 rfl ?_
  refine x_nnew (fs := ifs_X5) (d1 := dz 1 1) C hA hR icl_X5 icw_X6_21 idf_X5 (by decide) rfl dX6_init_21 (fun q21 => ?_)
  refine x_dup C rfl dX6_init_24 ?_
  refine x_bipush (v := 12) C dX6_init_25 (by decide +kernel) ?_
  refine x_ncall (As := [iV 12]) (d1 := dz 2 13) C hA hR imf_X5_init ilk_X6_23 ⟨rfl, rfl⟩ ⟨Nat.le_of_ble_eq_true rfl, Nat.le_of_ble_eq_true rfl⟩ (cN hS (c_X5_init l G 12 (by decide))) (fun h => nomatch h) rfl rfl (Nat.le_of_ble_eq_true rfl) (by decide) rfl dX6_init_27 (fun u27 => ?_)
  refine x_nputF (k := 3) (fs' := [iV 10, iV 4, iV 0, .ref q21, iV 0, .null, .null, iV 0, .null, .null, .null, iV 0]) C hin icl_X6 (by decide) ⟨rfl, rfl, rfl, rfl⟩ rfl (Or.inl ifl_X6_26) ifl_X6_26 ⟨rfl, rfl⟩ (Nat.le_of_ble_eq_true rfl) rfl dX6_init_30 ?_
  refine x_aload_n C 0 dX6_init_33 rfl ?_
  refine x_iconst C dX6_init_34 ?_
  refine x_nput (k := 4) (fs' := [iV 10, iV 4, iV 0, .ref q21, iV 0, .null, .null, iV 0, .null, .null, .null, iV 0]) C icl_X6 (by decide) ⟨rfl, rfl, rfl, rfl⟩ (Or.inl ifl_X6_30) ⟨rfl, rfl⟩ (Nat.le_of_ble_eq_true rfl) rfl dX6_init_35 ?_
  refine x_aload_n C 0 dX6_init_38 rfl ?_
  refine x_nnew (fs := ifs_X5) (d1 := dz 3 14) C hA hR icl_X5 icw_X6_21 idf_X5 (by decide) rfl dX6_init_39 (fun q39 => ?_)
  refine x_dup C rfl dX6_init_42 ?_
  refine x_bipush (v := 10) C dX6_init_43 (by decide +kernel) ?_
  refine x_ncall (As := [iV 10]) (d1 := dz 4 24) C hA hR imf_X5_init ilk_X6_23 ⟨rfl, rfl⟩ ⟨Nat.le_of_ble_eq_true rfl, Nat.le_of_ble_eq_true rfl⟩ (cN hS (c_X5_init l G 10 (by decide))) (fun h => nomatch h) rfl rfl (Nat.le_of_ble_eq_true rfl) (by decide) rfl dX6_init_45 (fun u45 => ?_)
  refine x_nputF (k := 5) (fs' := [iV 10, iV 4, iV 0, .ref q21, iV 0, .ref q39, .null, iV 0, .null, .null, .null, iV 0]) C hin icl_X6 (by decide) ⟨rfl, rfl, rfl, rfl⟩ rfl (Or.inl ifl_X6_33) ifl_X6_33 ⟨rfl, rfl⟩ (Nat.le_of_ble_eq_true rfl) rfl dX6_init_48 ?_
  refine x_aload_n C 0 dX6_init_51 rfl ?_
  refine x_nnew (fs := ifs_X5) (d1 := dz 5 25) C hA hR icl_X5 icw_X6_21 idf_X5 (by decide) rfl dX6_init_52 (fun q52 => ?_)
  refine x_dup C rfl dX6_init_55 ?_
  refine x_bipush (v := 10) C dX6_init_56 (by decide +kernel) ?_
  refine x_ncall (As := [iV 10]) (d1 := dz 6 35) C hA hR imf_X5_init ilk_X6_23 ⟨rfl, rfl⟩ ⟨Nat.le_of_ble_eq_true rfl, Nat.le_of_ble_eq_true rfl⟩ (cN hS (c_X5_init l G 10 (by decide))) (fun h => nomatch h) rfl rfl (Nat.le_of_ble_eq_true rfl) (by decide) rfl dX6_init_58 (fun u58 => ?_)
  refine x_nputF (k := 6) (fs' := [iV 10, iV 4, iV 0, .ref q21, iV 0, .ref q39, .ref q52, iV 0, .null, .null, .null, iV 0]) C hin icl_X6 (by decide) ⟨rfl, rfl, rfl, rfl⟩ rfl (Or.inl ifl_X6_36) ifl_X6_36 ⟨rfl, rfl⟩ (Nat.le_of_ble_eq_true rfl) rfl dX6_init_61 ?_
  refine x_aload_n C 0 dX6_init_64 rfl ?_
  refine x_iconst C dX6_init_65 ?_
  refine x_nput (k := 7) (fs' := [iV 10, iV 4, iV 0, .ref q21, iV 0, .ref q39, .ref q52, iV 0, .null, .null, .null, iV 0]) C icl_X6 (by decide) ⟨rfl, rfl, rfl, rfl⟩ (Or.inl ifl_X6_39) ⟨rfl, rfl⟩ (Nat.le_of_ble_eq_true rfl) rfl dX6_init_66 ?_
  refine x_aload_n C 0 dX6_init_69 rfl ?_
  refine x_nnew (fs := ifs_X5) (d1 := dz 7 36) C hA hR icl_X5 icw_X6_21 idf_X5 (by decide) rfl dX6_init_70 (fun q70 => ?_)
  refine x_dup C rfl dX6_init_73 ?_
  refine x_bipush (v := 60) C dX6_init_74 (by decide +kernel) ?_
  refine x_ncall (As := [iV 60]) (d1 := dz 8 96) C hA hR imf_X5_init ilk_X6_23 ⟨rfl, rfl⟩ ⟨Nat.le_of_ble_eq_true rfl, Nat.le_of_ble_eq_true rfl⟩ (cN hS (c_X5_init l G 60 (by decide))) (fun h => nomatch h) rfl rfl (Nat.le_of_ble_eq_true rfl) (by decide) rfl dX6_init_76 (fun u76 => ?_)
  refine x_nputF (k := 8) (fs' := [iV 10, iV 4, iV 0, .ref q21, iV 0, .ref q39, .ref q52, iV 0, .ref q70, .null, .null, iV 0]) C hin icl_X6 (by decide) ⟨rfl, rfl, rfl, rfl⟩ rfl (Or.inl ifl_X6_42) ifl_X6_42 ⟨rfl, rfl⟩ (Nat.le_of_ble_eq_true rfl) rfl dX6_init_79 ?_
  refine x_aload_n C 0 dX6_init_82 rfl ?_
  refine x_nnew (fs := ifs_X5) (d1 := dz 9 97) C hA hR icl_X5 icw_X6_21 idf_X5 (by decide) rfl dX6_init_83 (fun q83 => ?_)
  refine x_dup C rfl dX6_init_86 ?_
  refine x_sipush (v := 720) C dX6_init_87 (by decide +kernel) ?_
  refine x_ncall (As := [iV 720]) (d1 := dz 10 817) C hA hR imf_X5_init ilk_X6_23 ⟨rfl, rfl⟩ ⟨Nat.le_of_ble_eq_true rfl, Nat.le_of_ble_eq_true rfl⟩ (cN hS (c_X5_init l G 720 (by decide))) (fun h => nomatch h) rfl rfl (Nat.le_of_ble_eq_true rfl) (by decide) rfl dX6_init_90 (fun u90 => ?_)
  refine x_nputF (k := 9) (fs' := [iV 10, iV 4, iV 0, .ref q21, iV 0, .ref q39, .ref q52, iV 0, .ref q70, .ref q83, .null, iV 0]) C hin icl_X6 (by decide) ⟨rfl, rfl, rfl, rfl⟩ rfl (Or.inl ifl_X6_45) ifl_X6_45 ⟨rfl, rfl⟩ (Nat.le_of_ble_eq_true rfl) rfl dX6_init_93 ?_
  refine x_aload_n C 0 dX6_init_96 rfl ?_
  refine x_nnew (fs := ifs_X1) (d1 := dz 11 822) C hA hR icl_X1 icw_X6_48 idf_X1 (by decide) rfl dX6_init_97 (fun q97 => ?_)
  refine x_dup C rfl dX6_init_100 ?_
  refine x_ncall (As := []) (d1 := dz 11 822) C hA hR imf_X1_init ilk_X6_50 ⟨rfl, rfl⟩ ⟨Nat.le_of_ble_eq_true rfl, Nat.le_of_ble_eq_true rfl⟩ (cN hS (c_X1_init l G)) (fun h => nomatch h) rfl rfl (Nat.le_of_ble_eq_true rfl) (by decide) rfl dX6_init_101 (fun u101 => ?_)
  refine x_nputF (k := 10) (fs' := [iV 10, iV 4, iV 0, .ref q21, iV 0, .ref q39, .ref q52, iV 0, .ref q70, .ref q83, .ref q97, iV 0]) C hin icl_X6 (by decide) ⟨rfl, rfl, rfl, rfl⟩ rfl (Or.inl ifl_X6_51) ifl_X6_51 ⟨rfl, rfl⟩ (Nat.le_of_ble_eq_true rfl) rfl dX6_init_104 ?_
  refine x_aload_n C 0 dX6_init_107 rfl ?_
  refine x_iconst C dX6_init_108 ?_
  refine x_nput (k := 11) (fs' := [iV 10, iV 4, iV 0, .ref q21, iV 0, .ref q39, .ref q52, iV 0, .ref q70, .ref q83, .ref q97, iV 0]) C icl_X6 (by decide) ⟨rfl, rfl, rfl, rfl⟩ (Or.inl ifl_X6_55) ⟨rfl, rfl⟩ (Nat.le_of_ble_eq_true rfl) rfl dX6_init_109 ?_
  exact hR9 (dz 11 822) 112 _ _ ⟨fun i => [q21, u27 0, q39, u45 0, q52, u58 0, q70, u76 0, q83, u90 0, q97].getD i 0, by subst hG; rfl⟩ (Nat.le_refl _) (Nat.le_refl _) dX6_init_112
