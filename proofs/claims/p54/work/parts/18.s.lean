theorem ins_X0 : Cond.instantiable RX0 2 ∈ lw_tg := in_tg 70 (by decide +kernel) rfl
theorem ins_X1 : Cond.instantiable RX1 5 ∈ lw_tg := in_tg 162 (by decide +kernel) rfl
theorem ins_X2 : Cond.instantiable RX2 8 ∈ lw_tg := in_tg 251 (by decide +kernel) rfl
theorem ins_X3 : Cond.instantiable RX3 7 ∈ lw_tg := in_tg 125 (by decide +kernel) rfl
theorem ins_X4 : Cond.instantiable RX4 2 ∈ lw_tg := in_tg 292 (by decide +kernel) rfl
theorem ins_X5 : Cond.instantiable RX5 1 ∈ lw_tg := in_tg 76 (by decide +kernel) rfl
theorem ins_X6 : Cond.instantiable RX6 12 ∈ lw_tg := in_tg 154 (by decide +kernel) rfl
theorem ins_X7 : Cond.instantiable RX7 4 ∈ lw_tg := in_tg 99 (by decide +kernel) rfl
theorem ins_X8 : Cond.instantiable RX8 11 ∈ lw_tg := in_tg 62 (by decide +kernel) rfl
theorem ins_J0 : Cond.instantiable RJ0 4 ∈ lw_tg := in_tg 707 (by decide +kernel) rfl
theorem ins_J4 : Cond.instantiable RJ4 4 ∈ lw_tg := in_tg 488 (by decide +kernel) rfl
theorem aov_6 : Cond.arrayOver (.object RX6) ∈ lw_tbl := List.mem_of_getElem? (i := 298) (by decide +kernel)
def tmT : Nat → Term := fun i => if i = 0 then .string "SlabCutter$Parser" 53 else if i = 1 then .string "SlabCutter$Parser" 146 else if i = 2 then .string "SlabCutter$Parser" 80 else if i = 3 then .string "SlabCutter$Parser" 108 else if i = 4 then .string "SlabCutter$Parser" 85 else if i = 5 then .string "SlabCutter$Parser" 90 else if i = 6 then .string "SlabCutter$Parser" 95 else if i = 7 then .string "SlabCutter$Parser" 101 else if i = 8 then .string "SlabCutter$Parser" 103 else if i = 9 then .string "SlabCutterLaw" 54 else if i = 10 then .string "SlabCutterLaw" 40 else if i = 11 then .string "SlabCutterLaw" 64 else if i = 12 then .string "SlabCutterLaw" 66 else .string "SlabCutterLaw" 68
def flN : List Cond := flatC (Cond.and given_1 narrow_1)
def baseT : List Nat := [342, 359, 374, 393, 410, 430, 454, 477, 501, 234, 243, 256, 268, 280]
def pairT : List Nat := [0, 369, 387, 403, 422, 445, 467, 490, 515, 346, 347, 349, 350, 351, 369, 0, 388, 404, 423, 446, 468, 491, 516, 360, 361, 363, 364, 365, 387, 388, 0, 405, 424, 447, 469, 492, 517, 378, 379, 381, 382, 383, 403, 404, 405, 0, 425, 448, 470, 493, 518, 394, 395, 397, 398, 399, 422, 423, 424, 425, 0, 449, 471, 494, 519, 413, 414, 416, 417, 418, 445, 446, 447, 448, 449, 0, 472, 495, 520, 436, 437, 439, 440, 441, 467, 468, 469, 470, 471, 472, 0, 496, 521, 458, 459, 461, 462, 463, 490, 491, 492, 493, 494, 495, 496, 0, 522, 481, 482, 484, 485, 486, 515, 516, 517, 518, 519, 520, 521, 522, 0, 506, 507, 509, 510, 511, 346, 360, 378, 394, 413, 436, 458, 481, 506, 0, 244, 261, 272, 287, 347, 361, 379, 395, 414, 437, 459, 482, 507, 244, 0, 262, 273, 288, 349, 363, 381, 397, 416, 439, 461, 484, 509, 261, 262, 0, 275, 290, 350, 364, 382, 398, 417, 440, 462, 485, 510, 272, 273, 275, 0, 291, 351, 365, 383, 399, 418, 441, 463, 486, 511, 287, 288, 290, 291, 0]
theorem fN1 : ∀ i, i < 14 → Cond.exactly (tmT i) "java/lang/String" ∈ flN := by decide +kernel
theorem fN2 : ∀ i, i < 14 → Cond.eq (.field (tmT i) "java/lang/String" "coder" "B") (.int 0) ∈ flN := by decide +kernel
theorem fN3 : ∀ i, i < 14 → Cond.arrayOf (.field (tmT i) "java/lang/String" "value" "[B") .byte ∈ flN := by decide +kernel
theorem fN4 : ∀ i, i < 14 → Cond.eq (.length (.field (tmT i) "java/lang/String" "value" "[B")) (.int (Int32.ofNat (lenT.getD i 0))) ∈ flN := by decide +kernel
theorem fN5 : ∀ i, i < 14 → ∀ j, j < lenT.getD i 0 → Cond.eq (.elem (.field (tmT i) "java/lang/String" "value" "[B") (.int (Int32.ofNat j))) (.int ((bytT.getD i []).getD j 0)) ∈ flN := fun i hi j hj => List.mem_of_getElem? ((by decide +kernel : ∀ i, i < 14 → ∀ j, j < lenT.getD i 0 → flN[baseT.getD i 0 + j]? = some (Cond.eq (.elem (.field (tmT i) "java/lang/String" "value" "[B") (.int (Int32.ofNat j))) (.int ((bytT.getD i []).getD j 0)))) i hi j hj)
theorem fN6 : ∀ i, i < 14 → ∀ j, j < 14 → i ≠ j → Cond.not (Cond.eq (tmT i) (tmT j)) ∈ flN ∨ Cond.not (Cond.eq (tmT j) (tmT i)) ∈ flN := fun i hi j hj hij => ((by decide +kernel : ∀ i, i < 14 → ∀ j, j < 14 → i ≠ j → (flN[pairT.getD (14 * i + j) 0]? = some (Cond.not (Cond.eq (tmT i) (tmT j))) ∨ flN[pairT.getD (14 * i + j) 0]? = some (Cond.not (Cond.eq (tmT j) (tmT i))))) i hi j hj hij).imp (fun h => List.mem_of_getElem? h) (fun h => List.mem_of_getElem? h)
theorem fN7 : Cond.eq (.static "java/lang/String" "COMPACT_STRINGS" "Z") (.int 1) ∈ flN := by decide +kernel
theorem fN8 : Cond.isRef (.static "jdk/internal/util/Preconditions" "SIOOBE_FORMATTER" "Ljava/util/function/BiFunction;") ∈ flN := by decide +kernel
theorem fN9 : Cond.isRef (.static Bundle.tN "UNASSIGNED_STACK" Bundle.steD) ∈ flN := by decide +kernel
theorem fN10 : Cond.isRef (.static Bundle.tN "SUPPRESSED_SENTINEL" Bundle.listD) ∈ flN := by decide +kernel
theorem lenT_lt : ∀ i, i < 14 → lenT.getD i 0 < 2 ^ 31 := by decide +kernel
theorem fA_DigitOnes : Cond.arrayOf (.static "java/lang/Integer" "DigitOnes" "[B") .byte ∈ flN ∧ Cond.eq (.length (.static "java/lang/Integer" "DigitOnes" "[B")) (.int (Int32.ofNat 100)) ∈ flN := ⟨by decide +kernel, by decide +kernel⟩
theorem fE_DigitOnes : ∀ j : Nat, j < 100 → Cond.eq (.elem (.static "java/lang/Integer" "DigitOnes" "[B") (.int (Int32.ofNat j))) (.int (Int32.ofInt (48 + (j : Int) % 10))) ∈ flN := fun j hj => List.mem_of_getElem? ((by decide +kernel : ∀ j : Nat, j < 100 → flN[14 + j]? = some (Cond.eq (.elem (.static "java/lang/Integer" "DigitOnes" "[B") (.int (Int32.ofNat j))) (.int (Int32.ofInt (48 + (j : Int) % 10))))) j hj)
theorem fL_DigitOnes : Cond.laysStatic "java/lang/Integer" "DigitOnes" "[B" ∈ lw_tbl ∧ Cond.initialized "java/lang/Integer" ∈ lw_tbl := ⟨by decide +kernel, by decide +kernel⟩
theorem fA_DigitTens : Cond.arrayOf (.static "java/lang/Integer" "DigitTens" "[B") .byte ∈ flN ∧ Cond.eq (.length (.static "java/lang/Integer" "DigitTens" "[B")) (.int (Int32.ofNat 100)) ∈ flN := ⟨by decide +kernel, by decide +kernel⟩
theorem fE_DigitTens : ∀ j : Nat, j < 100 → Cond.eq (.elem (.static "java/lang/Integer" "DigitTens" "[B") (.int (Int32.ofNat j))) (.int (Int32.ofInt (48 + (j : Int) / 10))) ∈ flN := fun j hj => List.mem_of_getElem? ((by decide +kernel : ∀ j : Nat, j < 100 → flN[117 + j]? = some (Cond.eq (.elem (.static "java/lang/Integer" "DigitTens" "[B") (.int (Int32.ofNat j))) (.int (Int32.ofInt (48 + (j : Int) / 10))))) j hj)
theorem fL_DigitTens : Cond.laysStatic "java/lang/Integer" "DigitTens" "[B" ∈ lw_tbl ∧ Cond.initialized "java/lang/Integer" ∈ lw_tbl := ⟨by decide +kernel, by decide +kernel⟩
theorem fS_62 : Cond.eq (.string "SlabCutterLaw" 62) (tmT 1) ∈ flN ∨ Cond.eq (tmT 1) (.string "SlabCutterLaw" 62) ∈ flN := by decide +kernel
theorem fS_70 : Cond.eq (.string "SlabCutterLaw" 70) (tmT 6) ∈ flN ∨ Cond.eq (tmT 6) (.string "SlabCutterLaw" 70) ∈ flN := by decide +kernel
theorem fS_72 : Cond.eq (.string "SlabCutterLaw" 72) (tmT 7) ∈ flN ∨ Cond.eq (tmT 7) (.string "SlabCutterLaw" 72) ∈ flN := by decide +kernel
theorem fS_74 : Cond.eq (.string "SlabCutterLaw" 74) (tmT 8) ∈ flN ∨ Cond.eq (tmT 8) (.string "SlabCutterLaw" 74) ∈ flN := by decide +kernel
theorem fR_0 : Cond.stringRef "SlabCutter$Parser" 53 "slab" ∈ lw_tbl := by decide +kernel
theorem fR_1 : Cond.stringRef "SlabCutter$Parser" 146 ";" ∈ lw_tbl := by decide +kernel
theorem fR_2 : Cond.stringRef "SlabCutter$Parser" 80 "flaw" ∈ lw_tbl := by decide +kernel
theorem fR_3 : Cond.stringRef "SlabCutter$Parser" 108 "," ∈ lw_tbl := by decide +kernel
theorem fR_4 : Cond.stringRef "SlabCutter$Parser" 85 "gap" ∈ lw_tbl := by decide +kernel
theorem fR_5 : Cond.stringRef "SlabCutter$Parser" 90 "chisel" ∈ lw_tbl := by decide +kernel
theorem fR_6 : Cond.stringRef "SlabCutter$Parser" 95 "name" ∈ lw_tbl := by decide +kernel
theorem fR_7 : Cond.stringRef "SlabCutter$Parser" 101 "date" ∈ lw_tbl := by decide +kernel
theorem fR_8 : Cond.stringRef "SlabCutter$Parser" 103 "verse" ∈ lw_tbl := by decide +kernel
theorem fR_9 : Cond.stringRef "SlabCutterLaw" 54 "slab " ∈ lw_tbl := by decide +kernel
theorem fR_10 : Cond.stringRef "SlabCutterLaw" 40 " " ∈ lw_tbl := by decide +kernel
theorem fR_11 : Cond.stringRef "SlabCutterLaw" 64 "flaw " ∈ lw_tbl := by decide +kernel
theorem fR_12 : Cond.stringRef "SlabCutterLaw" 66 "gap " ∈ lw_tbl := by decide +kernel
theorem fR_13 : Cond.stringRef "SlabCutterLaw" 68 "chisel " ∈ lw_tbl := by decide +kernel
theorem fRl_62 : Cond.stringRef "SlabCutterLaw" 62 ";" ∈ lw_tbl := by decide +kernel
theorem fRl_70 : Cond.stringRef "SlabCutterLaw" 70 "name" ∈ lw_tbl := by decide +kernel
theorem fRl_72 : Cond.stringRef "SlabCutterLaw" 72 "date" ∈ lw_tbl := by decide +kernel
theorem fRl_74 : Cond.stringRef "SlabCutterLaw" 74 "verse" ∈ lw_tbl := by decide +kernel
theorem fL_1 : Cond.laysStatic "java/lang/String" "COMPACT_STRINGS" "Z" ∈ lw_tbl ∧ Cond.initialized "java/lang/String" ∈ lw_tbl := ⟨by decide +kernel, by decide +kernel⟩
theorem fL_2 : Cond.laysStatic "jdk/internal/util/Preconditions" "SIOOBE_FORMATTER" "Ljava/util/function/BiFunction;" ∈ lw_tbl ∧ Cond.initialized "jdk/internal/util/Preconditions" ∈ lw_tbl := ⟨by decide +kernel, by decide +kernel⟩
theorem fL_3 : Cond.laysStatic Bundle.tN "UNASSIGNED_STACK" Bundle.steD ∈ lw_tbl ∧ Cond.laysStatic Bundle.tN "SUPPRESSED_SENTINEL" Bundle.listD ∈ lw_tbl ∧ Cond.initialized Bundle.tN ∈ lw_tbl := ⟨by decide +kernel, by decide +kernel, by decide +kernel⟩
theorem law_vt {s : State} {b : Addr} {n : String} {f : Nat → Int32} (hl : (Cond.laysStatic "java/lang/Integer" n "[B").before #[Value.ref b] s = true) (hi : (Cond.initialized "java/lang/Integer").before #[Value.ref b] s = true) (ha : (Cond.arrayOf (.static "java/lang/Integer" n "[B") .byte).before #[Value.ref b] s = true) (hn : (Cond.eq (.length (.static "java/lang/Integer" n "[B")) (.int (Int32.ofNat 100))).before #[Value.ref b] s = true) (he : ∀ j : Nat, j < 100 → (Cond.eq (.elem (.static "java/lang/Integer" n "[B") (.int (Int32.ofNat j))) (.int (f j))).before #[Value.ref b] s = true) :
    vtab n (fun j => .int (f j)) (fun q : Nat => s.heap.size ≤ q) s s.heap := by
  have hA : ∀ a : Nat, a < s.heap.size → ¬ (fun q : Nat => s.heap.size ≤ q) a := fun a ha => Nat.not_le.mpr ha
  obtain ⟨t, h1, h2⟩ := va_Tof (args := #[Value.ref b]) (s := s) (N := 100) (f := fun j => .int (f j)) (by decide) ha (va_eqt hn) (fun j hj => va_eqt (he j hj)) hA
  exact ⟨t, va_Zof hl hi h1 hA, h2⟩
theorem law_G {s : State} {b : Addr} (hts : ∀ w ∈ lw_tbl, w.before #[Value.ref b] s = true) (hgv : (Cond.and given_1 narrow_1).before #[Value.ref b] s = true) :
    ∃ G : Gd, va_K G.1 vwCl (tysG G) s ∧ ES G (fun q : Nat => s.heap.size ≤ q) s s.heap := by
  have hfl : ∀ w ∈ flN, w.before #[Value.ref b] s = true := flat_of_before _ hgv
  have htg : ∀ w ∈ lw_tg, w.before #[Value.ref b] s = true := tg_ok hts
  have hA : ∀ a : Nat, a < s.heap.size → ¬ (fun q : Nat => s.heap.size ≤ q) a := fun a ha => Nat.not_le.mpr ha
  obtain ⟨c0, s0, k0⟩ := u_known (C := RX0) (T := TX0) (N := nf 0) htg cl_X0.2.1 (htg _ ins_X0)
  obtain ⟨c1, s1, k1⟩ := u_known (C := RX1) (T := TX1) (N := nf 1) htg cl_X1.2.1 (htg _ ins_X1)
  obtain ⟨c2, s2, k2⟩ := u_known (C := RX2) (T := TX2) (N := nf 2) htg cl_X2.2.1 (htg _ ins_X2)
  obtain ⟨c3, s3, k3⟩ := u_known (C := RX3) (T := TX3) (N := nf 3) htg cl_X3.2.1 (htg _ ins_X3)
  obtain ⟨c4, s4, k4⟩ := u_known (C := RX4) (T := TX4) (N := nf 4) htg cl_X4.2.1 (htg _ ins_X4)
  obtain ⟨c5, s5, k5⟩ := u_known (C := RX5) (T := TX5) (N := nf 5) htg cl_X5.2.1 (htg _ ins_X5)
  obtain ⟨c6, s6, k6⟩ := u_known (C := RX6) (T := TX6) (N := nf 6) htg cl_X6.2.1 (htg _ ins_X6)
  obtain ⟨c7, s7, k7⟩ := u_known (C := RX7) (T := TX7) (N := nf 7) htg cl_X7.2.1 (htg _ ins_X7)
  obtain ⟨c8, s8, k8⟩ := u_known (C := RX8) (T := TX8) (N := nf 8) htg cl_X8.2.1 (htg _ ins_X8)
  obtain ⟨c10, s10, k10⟩ := u_known (C := RJ0) (T := TJ0) (N := nf 10) htg cl_J0.2.1 (htg _ ins_J0)
  obtain ⟨c11, s11, k11⟩ := u_known (C := RJ4) (T := TJ4) (N := nf 11) htg cl_J4.2.1 (htg _ ins_J4)
  obtain ⟨a0, ka0, co0, x0, y0, z0⟩ := Cond.arrayClass_spec (htg _ acl_int)
  obtain ⟨a1, ka1, co1, x1, y1, z1⟩ := Cond.arrayClass_spec (htg _ acl_byte)
  obtain ⟨co3, a3, ka3, u3, v3, y3, z3, x3⟩ := Cond.arrayOver_spec (hts _ aov_6)
  obtain ⟨aK, aV, hS, hE⟩ := vk_Sof (args := #[Value.ref b]) (N := 14) (tm := tmT) (len := lenT) (byt := bytT) (A := fun q : Nat => s.heap.size ≤ q) lenT_lt (fun i hi => hfl _ (fN1 i hi)) (fun i hi => hfl _ (fN2 i hi)) (fun i hi => hfl _ (fN3 i hi)) (fun i hi => hfl _ (fN4 i hi)) (fun i hi j hj => hfl _ (fN5 i hi j hj)) (fun i j hi hj hij => (fN6 i hi j hj hij).imp (fun h => hfl _ h) (fun h => hfl _ h)) hA
  refine ⟨((fun k => if k = 0 then c0 else if k = 1 then c1 else if k = 2 then c2 else if k = 3 then c3 else if k = 4 then c4 else if k = 5 then c5 else if k = 6 then c6 else if k = 7 then c7 else if k = 8 then c8 else if k = 9 then c8 else if k = 10 then c10 else c11, fun k => if k = 0 then s0 else if k = 1 then s1 else if k = 2 then s2 else if k = 3 then s3 else if k = 4 then s4 else if k = 5 then s5 else if k = 6 then s6 else if k = 7 then s7 else if k = 8 then s8 else if k = 9 then s8 else if k = 10 then s10 else s11), (fun k => if k = 0 then a0 else if k = 1 then a1 else if k = 2 then a0 else if k = 3 then a3 else a0), aK, aV), ⟨?_, ?_⟩, hS, ?_, ?_, ?_, ?_, ?_, ?_, ?_⟩
  · intro k q hq
    match k, hq with
    | 0, hq => cases hq; exact k0
    | 1, hq => cases hq; exact k1
    | 2, hq => cases hq; exact k2
    | 3, hq => cases hq; exact k3
    | 4, hq => cases hq; exact k4
    | 5, hq => cases hq; exact k5
    | 6, hq => cases hq; exact k6
    | 7, hq => cases hq; exact k7
    | 8, hq => cases hq; exact k8
    | 9, hq => cases hq; exact k8
    | 10, hq => cases hq; exact k10
    | 11, hq => cases hq; exact k11
    | k + 12, hq => exact absurd hq (by simp [vwCl])
  · intro k q hq
    match k, hq with
    | 0, hq => cases hq; exact ⟨fun N z => ⟨(fun k h => by cases h), ka0, y0, co0, z0⟩, x0⟩
    | 1, hq => cases hq; exact ⟨fun N z => ⟨(fun k h => by cases h), ka1, y1, co1, z1⟩, x1⟩
    | 2, hq => cases hq; exact ⟨fun N z => ⟨(fun k h => by cases h), ka0, y0, co0, z0⟩, x0⟩
    | 3, hq => cases hq; exact ⟨fun N z => ⟨(fun k h => by cases h), ka3, y3, co3, z3⟩, ka3, co3, y3, z3, u3, x3⟩
    | 4, hq => cases hq; exact ⟨fun N z => ⟨(fun k h => by cases h), ka0, y0, co0, z0⟩, x0⟩
    | k + 5, hq => exact absurd hq (by simp [tysG])
  · intro q hq
    simp only [siteT, List.mem_cons, List.not_mem_nil, or_false] at hq
    rcases hq with rfl | rfl | rfl | rfl | rfl | rfl | rfl | rfl | rfl | rfl | rfl | rfl | rfl | rfl | rfl | rfl | rfl | rfl
    · exact vk_R.of (hts _ fR_0) (hE 0 (by decide))
    · exact vk_R.of (hts _ fR_1) (hE 1 (by decide))
    · exact vk_R.of (hts _ fR_2) (hE 2 (by decide))
    · exact vk_R.of (hts _ fR_3) (hE 3 (by decide))
    · exact vk_R.of (hts _ fR_4) (hE 4 (by decide))
    · exact vk_R.of (hts _ fR_5) (hE 5 (by decide))
    · exact vk_R.of (hts _ fR_6) (hE 6 (by decide))
    · exact vk_R.of (hts _ fR_7) (hE 7 (by decide))
    · exact vk_R.of (hts _ fR_8) (hE 8 (by decide))
    · exact vk_R.of (hts _ fR_9) (hE 9 (by decide))
    · exact vk_R.of (hts _ fR_10) (hE 10 (by decide))
    · exact vk_R.of (hts _ fRl_62) (fS_62.elim (fun h => va_eqv (hfl _ h) (hE 1 (by decide))) (fun h => va_eqR (hfl _ h) (hE 1 (by decide))))
    · exact vk_R.of (hts _ fR_11) (hE 11 (by decide))
    · exact vk_R.of (hts _ fR_12) (hE 12 (by decide))
    · exact vk_R.of (hts _ fR_13) (hE 13 (by decide))
    · exact vk_R.of (hts _ fRl_70) (fS_70.elim (fun h => va_eqv (hfl _ h) (hE 6 (by decide))) (fun h => va_eqR (hfl _ h) (hE 6 (by decide))))
    · exact vk_R.of (hts _ fRl_72) (fS_72.elim (fun h => va_eqv (hfl _ h) (hE 7 (by decide))) (fun h => va_eqR (hfl _ h) (hE 7 (by decide))))
    · exact vk_R.of (hts _ fRl_74) (fS_74.elim (fun h => va_eqv (hfl _ h) (hE 8 (by decide))) (fun h => va_eqR (hfl _ h) (hE 8 (by decide))))
  · exact va_Zof (hts _ fL_1.1) (hts _ fL_1.2) (va_eqi (hfl _ fN7)) hA
  · exact va_Zqof (hts _ fL_2.1) (hts _ fL_2.2) (hfl _ fN8) hA
  · exact vx_Zqof (hts _ fL_3.1) (hts _ fL_3.2.2) (hfl _ fN9) hA
  · exact vx_Zqof (hts _ fL_3.2.1) (hts _ fL_3.2.2) (hfl _ fN10) hA
  · exact law_vt (hts _ fL_DigitOnes.1) (hts _ fL_DigitOnes.2) (hfl _ fA_DigitOnes.1) (hfl _ fA_DigitOnes.2) (fun j hj => hfl _ (fE_DigitOnes j hj))
  · exact law_vt (hts _ fL_DigitTens.1) (hts _ fL_DigitTens.2) (hfl _ fA_DigitTens.1) (hfl _ fA_DigitTens.2) (fun j hj => hfl _ (fE_DigitTens j hj))
