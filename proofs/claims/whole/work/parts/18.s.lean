theorem ins_X0 : Cond.instantiable RX0 2 ∈ lw_tg := in_tg 155 (by decide +kernel) rfl
theorem ins_X1 : Cond.instantiable RX1 5 ∈ lw_tg := in_tg 248 (by decide +kernel) rfl
theorem ins_X2 : Cond.instantiable RX2 8 ∈ lw_tg := in_tg 340 (by decide +kernel) rfl
theorem ins_X3 : Cond.instantiable RX3 7 ∈ lw_tg := in_tg 210 (by decide +kernel) rfl
theorem ins_X4 : Cond.instantiable RX4 2 ∈ lw_tg := in_tg 381 (by decide +kernel) rfl
theorem ins_X5 : Cond.instantiable RX5 1 ∈ lw_tg := in_tg 161 (by decide +kernel) rfl
theorem ins_X6 : Cond.instantiable RX6 12 ∈ lw_tg := in_tg 240 (by decide +kernel) rfl
theorem ins_X7 : Cond.instantiable RX7 4 ∈ lw_tg := in_tg 184 (by decide +kernel) rfl
theorem ins_X8 : Cond.instantiable RX8 11 ∈ lw_tg := in_tg 147 (by decide +kernel) rfl
theorem ins_X9 : Cond.instantiable RX9 34 ∈ lw_tg := in_tg 1272 (by decide +kernel) rfl
theorem acl_long : Cond.arrayClass .long ∈ lw_tg := in_tg 1955 (by decide +kernel) rfl
theorem aov_6 : Cond.arrayOver (.object RX6) ∈ lw_tbl := List.mem_of_getElem? (i := 387) (by decide +kernel)
def tmT : Nat → Term := fun i => if i = 0 then .string "SlabCutter$Parser" 53 else if i = 1 then .string "SlabCutter$Parser" 146 else if i = 2 then .string "SlabCutter$Parser" 80 else if i = 3 then .string "SlabCutter$Parser" 108 else if i = 4 then .string "SlabCutter$Parser" 85 else if i = 5 then .string "SlabCutter$Parser" 90 else if i = 6 then .string "SlabCutter$Parser" 95 else if i = 7 then .string "SlabCutter$Parser" 101 else .string "SlabCutter$Parser" 103
def flN : List Cond := flatC (Cond.and given_1 narrow_1)
theorem fN1 : ∀ i, i < 9 → Cond.exactly (tmT i) "java/lang/String" ∈ flN := by decide +kernel
theorem fN2 : ∀ i, i < 9 → Cond.eq (.field (tmT i) "java/lang/String" "coder" "B") (.int 0) ∈ flN := by decide +kernel
theorem fN3 : ∀ i, i < 9 → Cond.arrayOf (.field (tmT i) "java/lang/String" "value" "[B") .byte ∈ flN := by decide +kernel
theorem fN4 : ∀ i, i < 9 → Cond.eq (.length (.field (tmT i) "java/lang/String" "value" "[B")) (.int (Int32.ofNat (lenT.getD i 0))) ∈ flN := by decide +kernel
theorem fN5 : ∀ i, i < 9 → ∀ j, j < lenT.getD i 0 → Cond.eq (.elem (.field (tmT i) "java/lang/String" "value" "[B") (.int (Int32.ofNat j))) (.int ((bytT.getD i []).getD j 0)) ∈ flN := by decide +kernel
theorem fN6 : ∀ i, i < 9 → ∀ j, j < 9 → i ≠ j → Cond.not (Cond.eq (tmT i) (tmT j)) ∈ flN ∨ Cond.not (Cond.eq (tmT j) (tmT i)) ∈ flN := by decide +kernel
theorem fN7 : Cond.eq (.static "java/lang/String" "COMPACT_STRINGS" "Z") (.int 1) ∈ flN := by decide +kernel
theorem fN8 : Cond.isRef (.static "jdk/internal/util/Preconditions" "SIOOBE_FORMATTER" "Ljava/util/function/BiFunction;") ∈ flN := by decide +kernel
theorem fN9 : Cond.isRef (.static Bundle.tN "UNASSIGNED_STACK" Bundle.steD) ∈ flN := by decide +kernel
theorem fN10 : Cond.isRef (.static Bundle.tN "SUPPRESSED_SENTINEL" Bundle.listD) ∈ flN := by decide +kernel
theorem fN11 : Cond.not (.castable (exn 2) (exn 3)) ∈ flN ∧ Cond.not (.castable (exn 1) (exn 2)) ∈ flN ∧ Cond.not (.castable (exn 1) (exn 3)) ∈ flN := by decide +kernel
theorem fS_259 : Cond.eq (tmT 0) (.string "SlabCutterModel" 259) ∈ flN := by decide +kernel
theorem fS_300 : Cond.eq (tmT 2) (.string "SlabCutterModel" 300) ∈ flN := by decide +kernel
theorem fS_305 : Cond.eq (tmT 4) (.string "SlabCutterModel" 305) ∈ flN := by decide +kernel
theorem fS_310 : Cond.eq (tmT 5) (.string "SlabCutterModel" 310) ∈ flN := by decide +kernel
theorem fS_315 : Cond.eq (tmT 6) (.string "SlabCutterModel" 315) ∈ flN := by decide +kernel
theorem fS_320 : Cond.eq (tmT 7) (.string "SlabCutterModel" 320) ∈ flN := by decide +kernel
theorem fS_322 : Cond.eq (tmT 8) (.string "SlabCutterModel" 322) ∈ flN := by decide +kernel
theorem fR_0 : Cond.stringRef "SlabCutter$Parser" 53 "slab" ∈ lw_tbl := by decide +kernel
theorem fR_1 : Cond.stringRef "SlabCutter$Parser" 146 ";" ∈ lw_tbl := by decide +kernel
theorem fR_2 : Cond.stringRef "SlabCutter$Parser" 80 "flaw" ∈ lw_tbl := by decide +kernel
theorem fR_3 : Cond.stringRef "SlabCutter$Parser" 108 "," ∈ lw_tbl := by decide +kernel
theorem fR_4 : Cond.stringRef "SlabCutter$Parser" 85 "gap" ∈ lw_tbl := by decide +kernel
theorem fR_5 : Cond.stringRef "SlabCutter$Parser" 90 "chisel" ∈ lw_tbl := by decide +kernel
theorem fR_6 : Cond.stringRef "SlabCutter$Parser" 95 "name" ∈ lw_tbl := by decide +kernel
theorem fR_7 : Cond.stringRef "SlabCutter$Parser" 101 "date" ∈ lw_tbl := by decide +kernel
theorem fR_8 : Cond.stringRef "SlabCutter$Parser" 103 "verse" ∈ lw_tbl := by decide +kernel
theorem fRm_259 : Cond.stringRef "SlabCutterModel" 259 "slab" ∈ lw_tbl := by decide +kernel
theorem fRm_300 : Cond.stringRef "SlabCutterModel" 300 "flaw" ∈ lw_tbl := by decide +kernel
theorem fRm_305 : Cond.stringRef "SlabCutterModel" 305 "gap" ∈ lw_tbl := by decide +kernel
theorem fRm_310 : Cond.stringRef "SlabCutterModel" 310 "chisel" ∈ lw_tbl := by decide +kernel
theorem fRm_315 : Cond.stringRef "SlabCutterModel" 315 "name" ∈ lw_tbl := by decide +kernel
theorem fRm_320 : Cond.stringRef "SlabCutterModel" 320 "date" ∈ lw_tbl := by decide +kernel
theorem fRm_322 : Cond.stringRef "SlabCutterModel" 322 "verse" ∈ lw_tbl := by decide +kernel
theorem fL_1 : Cond.laysStatic "java/lang/String" "COMPACT_STRINGS" "Z" ∈ lw_tbl ∧ Cond.initialized "java/lang/String" ∈ lw_tbl := ⟨by decide +kernel, by decide +kernel⟩
theorem fL_2 : Cond.laysStatic "jdk/internal/util/Preconditions" "SIOOBE_FORMATTER" "Ljava/util/function/BiFunction;" ∈ lw_tbl ∧ Cond.initialized "jdk/internal/util/Preconditions" ∈ lw_tbl := ⟨by decide +kernel, by decide +kernel⟩
theorem fL_3 : Cond.laysStatic Bundle.tN "UNASSIGNED_STACK" Bundle.steD ∈ lw_tbl ∧ Cond.laysStatic Bundle.tN "SUPPRESSED_SENTINEL" Bundle.listD ∈ lw_tbl ∧ Cond.initialized Bundle.tN ∈ lw_tbl := ⟨by decide +kernel, by decide +kernel, by decide +kernel⟩
theorem law_G {s : State} {b : Addr} (hts : ∀ w ∈ lw_tbl, w.before #[Value.ref b] s = true) (hgv : (Cond.and given_1 narrow_1).before #[Value.ref b] s = true) :
    ∃ G : Gd, va_K G.1 vwCl (tysG G) s ∧ ES G (fun q : Nat => s.heap.size ≤ q) s s.heap := by
  have hfl : ∀ w ∈ flN, w.before #[Value.ref b] s = true := flat_of_before _ hgv
  have htg : ∀ w ∈ lw_tg, w.before #[Value.ref b] s = true := fun w hw => hts w (List.mem_filter.mp hw).1
  have hA : ∀ a : Nat, a < s.heap.size → ¬ (fun q : Nat => s.heap.size ≤ q) a := fun a ha => Nat.not_le.mpr ha
  obtain ⟨c0, s0, k0⟩ := u_known (C := RX0) (T := TX0) (N := nf 0) htg cl_X0.2.1 (htg _ ins_X0)
  obtain ⟨c1, s1, k1⟩ := u_known (C := RX1) (T := TX1) (N := nf 1) htg cl_X1.2.1 (htg _ ins_X1)
  obtain ⟨c2, s2, k2⟩ := u_known (C := RX2) (T := TX2) (N := nf 2) htg cl_X2.2.1 (htg _ ins_X2)
  obtain ⟨c3, s3, k3⟩ := u_known (C := RX3) (T := TX3) (N := nf 3) htg cl_X3.2.1 (htg _ ins_X3)
  obtain ⟨c4, s4, k4⟩ := u_known (C := RX4) (T := TX4) (N := nf 4) htg cl_X4.2.1 (htg _ ins_X4)
  obtain ⟨c5, s5, k5⟩ := u_known (C := RX5) (T := TX5) (N := nf 5) htg cl_X5.2.1 (htg _ ins_X5)
  obtain ⟨c6, s6, k6⟩ := u_known (C := RX6) (T := TX6) (N := nf 6) htg cl_X6.2.1 (htg _ ins_X6)
  obtain ⟨c7, s7, k7⟩ := u_known (C := RX7) (T := TX7) (N := nf 7) htg cl_X7.2.1 (htg _ ins_X7)
  obtain ⟨c8, s8, k8⟩ := u_known (C := RX8) (T := TX8) (N := nf 8) htg cl_X8.2.1 (htg _ ins_X8)
  obtain ⟨c9, s9, k9⟩ := u_known (C := RX9) (T := TX9) (N := nf 9) htg cl_X9.2.1 (htg _ ins_X9)
  obtain ⟨a0, ka0, co0, x0, y0, z0⟩ := Cond.arrayClass_spec (htg _ acl_int)
  obtain ⟨a1, ka1, co1, x1, y1, z1⟩ := Cond.arrayClass_spec (htg _ acl_byte)
  obtain ⟨a2, ka2, co2, x2, y2, z2⟩ := Cond.arrayClass_spec (htg _ acl_boolean)
  obtain ⟨co3, a3, ka3, u3, v3, y3, z3, x3⟩ := Cond.arrayOver_spec (hts _ aov_6)
  obtain ⟨a4, ka4, co4, x4, y4, z4⟩ := Cond.arrayClass_spec (htg _ acl_long)
  obtain ⟨aK, aV, hS, hE⟩ := vk_Sof (args := #[Value.ref b]) (N := 9) (tm := tmT) (len := lenT) (byt := bytT) (A := fun q : Nat => s.heap.size ≤ q) (by decide) (fun i hi => hfl _ (fN1 i hi)) (fun i hi => hfl _ (fN2 i hi)) (fun i hi => hfl _ (fN3 i hi)) (fun i hi => hfl _ (fN4 i hi)) (fun i hi j hj => hfl _ (fN5 i hi j hj)) (fun i j hi hj hij => (fN6 i hi j hj hij).imp (fun h => hfl _ h) (fun h => hfl _ h)) hA
  refine ⟨((fun k => if k = 0 then c0 else if k = 1 then c1 else if k = 2 then c2 else if k = 3 then c3 else if k = 4 then c4 else if k = 5 then c5 else if k = 6 then c6 else if k = 7 then c7 else if k = 8 then c8 else c9, fun k => if k = 0 then s0 else if k = 1 then s1 else if k = 2 then s2 else if k = 3 then s3 else if k = 4 then s4 else if k = 5 then s5 else if k = 6 then s6 else if k = 7 then s7 else if k = 8 then s8 else s9), (fun k => if k = 0 then a0 else if k = 1 then a1 else if k = 2 then a2 else if k = 3 then a3 else a4), aK, aV), ⟨?_, ?_⟩, hS, ?_, ?_, ?_, ?_, ?_⟩
  · intro k q hq
    match k, hq with
    | 0, hq => cases hq; exact k0
    | 1, hq => cases hq; exact k1
    | 2, hq => cases hq; exact k2
    | 3, hq => cases hq; exact k3
    | 4, hq => cases hq; exact k4
    | 5, hq => cases hq; exact k5
    | 6, hq => cases hq; exact k6
    | 7, hq => cases hq; exact k7
    | 8, hq => cases hq; exact k8
    | 9, hq => cases hq; exact k9
    | k + 10, hq => exact absurd hq (by simp [vwCl])
  · intro k q hq
    match k, hq with
    | 0, hq => cases hq; exact ⟨fun N z => ⟨(fun k h => by cases h), ka0, y0, co0, z0⟩, x0⟩
    | 1, hq => cases hq; exact ⟨fun N z => ⟨(fun k h => by cases h), ka1, y1, co1, z1⟩, x1⟩
    | 2, hq => cases hq; exact ⟨fun N z => ⟨(fun k h => by cases h), ka2, y2, co2, z2⟩, x2⟩
    | 3, hq => cases hq; exact ⟨fun N z => ⟨(fun k h => by cases h), ka3, y3, co3, z3⟩, ka3, co3, y3, z3, u3, x3⟩
    | 4, hq => cases hq; exact ⟨fun N z => ⟨(fun k h => by cases h), ka4, y4, co4, z4⟩, x4⟩
    | k + 5, hq => exact absurd hq (by simp [tysG])
  · intro q hq
    simp only [siteT, List.mem_cons, List.not_mem_nil, or_false] at hq
    rcases hq with rfl | rfl | rfl | rfl | rfl | rfl | rfl | rfl | rfl | rfl | rfl | rfl | rfl | rfl | rfl | rfl
    · exact vk_R.of (hts _ fR_0) (hE 0 (by decide))
    · exact vk_R.of (hts _ fR_1) (hE 1 (by decide))
    · exact vk_R.of (hts _ fR_2) (hE 2 (by decide))
    · exact vk_R.of (hts _ fR_3) (hE 3 (by decide))
    · exact vk_R.of (hts _ fR_4) (hE 4 (by decide))
    · exact vk_R.of (hts _ fR_5) (hE 5 (by decide))
    · exact vk_R.of (hts _ fR_6) (hE 6 (by decide))
    · exact vk_R.of (hts _ fR_7) (hE 7 (by decide))
    · exact vk_R.of (hts _ fR_8) (hE 8 (by decide))
    · exact vk_R.of (hts _ fRm_259) (va_eqR (hfl _ fS_259) (hE 0 (by decide)))
    · exact vk_R.of (hts _ fRm_300) (va_eqR (hfl _ fS_300) (hE 2 (by decide)))
    · exact vk_R.of (hts _ fRm_305) (va_eqR (hfl _ fS_305) (hE 4 (by decide)))
    · exact vk_R.of (hts _ fRm_310) (va_eqR (hfl _ fS_310) (hE 5 (by decide)))
    · exact vk_R.of (hts _ fRm_315) (va_eqR (hfl _ fS_315) (hE 6 (by decide)))
    · exact vk_R.of (hts _ fRm_320) (va_eqR (hfl _ fS_320) (hE 7 (by decide)))
    · exact vk_R.of (hts _ fRm_322) (va_eqR (hfl _ fS_322) (hE 8 (by decide)))
  · exact va_Zof (hts _ fL_1.1) (hts _ fL_1.2) (va_eqi (hfl _ fN7)) hA
  · exact va_Zqof (hts _ fL_2.1) (hts _ fL_2.2) (hfl _ fN8) hA
  · exact vx_Zqof (hts _ fL_3.1) (hts _ fL_3.2.2) (hfl _ fN9) hA
  · exact vx_Zqof (hts _ fL_3.2.1) (hts _ fL_3.2.2) (hfl _ fN10) hA
