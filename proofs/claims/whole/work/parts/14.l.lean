theorem mf_X8_append : mfV yX8_append cX8_append 6 (some .int) 5 := ⟨in_tg 817 (by decide +kernel) rfl, in_tg 818 (by decide +kernel) rfl, in_tg 123 (by decide +kernel) rfl, in_tg 819 (by decide +kernel) rfl, by decide +kernel, by decide +kernel, by decide +kernel⟩
theorem lk_L_7 : Cond.methodLink RL 7 yX8_append ∈ lw_tg := in_tg 816 (by decide +kernel) rfl
theorem mf_X8_truncate : mfV yX8_truncate cX8_truncate 2 none 1 := ⟨in_tg 898 (by decide +kernel) rfl, in_tg 899 (by decide +kernel) rfl, in_tg 123 (by decide +kernel) rfl, in_tg 900 (by decide +kernel) rfl, by decide +kernel, by decide +kernel, by decide +kernel⟩
theorem lk_L_15 : Cond.methodLink RL 15 yX8_truncate ∈ lw_tg := in_tg 897 (by decide +kernel) rfl
theorem mf_X8_property : mfV yX8_property cX8_property 2 (some .int) 1 := ⟨in_tg 920 (by decide +kernel) rfl, in_tg 921 (by decide +kernel) rfl, in_tg 123 (by decide +kernel) rfl, in_tg 922 (by decide +kernel) rfl, by decide +kernel, by decide +kernel, by decide +kernel⟩
theorem lk_L_21 : Cond.methodLink RL 21 yX8_property ∈ lw_tg := in_tg 919 (by decide +kernel) rfl
theorem mf_X8_part : mfV yX8_part cX8_part 6 (some .int) 2 := ⟨in_tg 928 (by decide +kernel) rfl, in_tg 929 (by decide +kernel) rfl, in_tg 123 (by decide +kernel) rfl, in_tg 930 (by decide +kernel) rfl, by decide +kernel, by decide +kernel, by decide +kernel⟩
theorem lk_L_25 : Cond.methodLink RL 25 yX8_part ∈ lw_tg := in_tg 927 (by decide +kernel) rfl
theorem mf_X8_word : mfV yX8_word cX8_word 3 (some .int) 2 := ⟨in_tg 959 (by decide +kernel) rfl, in_tg 960 (by decide +kernel) rfl, in_tg 123 (by decide +kernel) rfl, in_tg 961 (by decide +kernel) rfl, by decide +kernel, by decide +kernel, by decide +kernel⟩
theorem lk_L_31 : Cond.methodLink RL 31 yX8_word ∈ lw_tg := in_tg 958 (by decide +kernel) rfl
theorem mf_X8_letter : mfV yX8_letter cX8_letter 3 (some .int) 2 := ⟨in_tg 986 (by decide +kernel) rfl, in_tg 987 (by decide +kernel) rfl, in_tg 123 (by decide +kernel) rfl, in_tg 988 (by decide +kernel) rfl, by decide +kernel, by decide +kernel, by decide +kernel⟩
theorem lk_L_34 : Cond.methodLink RL 34 yX8_letter ∈ lw_tg := in_tg 985 (by decide +kernel) rfl
theorem mf_X8_cell : mfV yX8_cell cX8_cell 4 (some .int) 2 := ⟨in_tg 994 (by decide +kernel) rfl, in_tg 995 (by decide +kernel) rfl, in_tg 123 (by decide +kernel) rfl, in_tg 996 (by decide +kernel) rfl, by decide +kernel, by decide +kernel, by decide +kernel⟩
theorem lk_L_37 : Cond.methodLink RL 37 yX8_cell ∈ lw_tg := in_tg 993 (by decide +kernel) rfl
theorem mf_X8_wordAt : mfV yX8_wordAt cX8_wordAt 3 (some .int) 2 := ⟨in_tg 1009 (by decide +kernel) rfl, in_tg 1010 (by decide +kernel) rfl, in_tg 123 (by decide +kernel) rfl, in_tg 1011 (by decide +kernel) rfl, by decide +kernel, by decide +kernel, by decide +kernel⟩
theorem lk_L_40 : Cond.methodLink RL 40 yX8_wordAt ∈ lw_tg := in_tg 1008 (by decide +kernel) rfl
theorem mf_X8_freeIn : mfV yX8_freeIn cX8_freeIn 4 (some .int) 1 := ⟨in_tg 1016 (by decide +kernel) rfl, in_tg 1017 (by decide +kernel) rfl, in_tg 123 (by decide +kernel) rfl, in_tg 1018 (by decide +kernel) rfl, by decide +kernel, by decide +kernel, by decide +kernel⟩
theorem lk_L_43 : Cond.methodLink RL 43 yX8_freeIn ∈ lw_tg := in_tg 1015 (by decide +kernel) rfl
theorem mf_X8_longestRun : mfV yX8_longestRun cX8_longestRun 5 (some .int) 1 := ⟨in_tg 1023 (by decide +kernel) rfl, in_tg 1024 (by decide +kernel) rfl, in_tg 123 (by decide +kernel) rfl, in_tg 1025 (by decide +kernel) rfl, by decide +kernel, by decide +kernel, by decide +kernel⟩
theorem lk_L_46 : Cond.methodLink RL 46 yX8_longestRun ∈ lw_tg := in_tg 1022 (by decide +kernel) rfl
theorem mf_X8_timeFor : mfV yX8_timeFor cX8_timeFor 3 (some .int) 1 := ⟨in_tg 1030 (by decide +kernel) rfl, in_tg 1031 (by decide +kernel) rfl, in_tg 123 (by decide +kernel) rfl, in_tg 1032 (by decide +kernel) rfl, by decide +kernel, by decide +kernel, by decide +kernel⟩
theorem lk_L_49 : Cond.methodLink RL 49 yX8_timeFor ∈ lw_tg := in_tg 1029 (by decide +kernel) rfl
theorem mf_X8_lettersIn : mfV yX8_lettersIn cX8_lettersIn 4 (some .int) 1 := ⟨in_tg 1037 (by decide +kernel) rfl, in_tg 1038 (by decide +kernel) rfl, in_tg 123 (by decide +kernel) rfl, in_tg 1039 (by decide +kernel) rfl, by decide +kernel, by decide +kernel, by decide +kernel⟩
theorem lk_L_52 : Cond.methodLink RL 52 yX8_lettersIn ∈ lw_tg := in_tg 1036 (by decide +kernel) rfl
theorem mf_X8_timeWith : mfV yX8_timeWith cX8_timeWith 2 (some .int) 1 := ⟨in_tg 1044 (by decide +kernel) rfl, in_tg 1045 (by decide +kernel) rfl, in_tg 123 (by decide +kernel) rfl, in_tg 1046 (by decide +kernel) rfl, by decide +kernel, by decide +kernel, by decide +kernel⟩
theorem lk_L_55 : Cond.methodLink RL 55 yX8_timeWith ∈ lw_tg := in_tg 1043 (by decide +kernel) rfl
theorem mf_X8_laidIf : mfV yX8_laidIf cX8_laidIf 3 (some .int) 2 := ⟨in_tg 1052 (by decide +kernel) rfl, in_tg 1053 (by decide +kernel) rfl, in_tg 123 (by decide +kernel) rfl, in_tg 1054 (by decide +kernel) rfl, by decide +kernel, by decide +kernel, by decide +kernel⟩
theorem lk_L_58 : Cond.methodLink RL 58 yX8_laidIf ∈ lw_tg := in_tg 1051 (by decide +kernel) rfl
theorem mf_X8_laidWith : mfV yX8_laidWith cX8_laidWith 2 (some .int) 1 := ⟨in_tg 1059 (by decide +kernel) rfl, in_tg 1060 (by decide +kernel) rfl, in_tg 123 (by decide +kernel) rfl, in_tg 1061 (by decide +kernel) rfl, by decide +kernel, by decide +kernel, by decide +kernel⟩
theorem lk_L_61 : Cond.methodLink RL 61 yX8_laidWith ∈ lw_tg := in_tg 1058 (by decide +kernel) rfl
theorem mf_X8_laidBut : mfV yX8_laidBut cX8_laidBut 2 (some .int) 1 := ⟨in_tg 1070 (by decide +kernel) rfl, in_tg 1071 (by decide +kernel) rfl, in_tg 123 (by decide +kernel) rfl, in_tg 1072 (by decide +kernel) rfl, by decide +kernel, by decide +kernel, by decide +kernel⟩
theorem lk_L_64 : Cond.methodLink RL 64 yX8_laidBut ∈ lw_tg := in_tg 1069 (by decide +kernel) rfl
theorem mf_X8_bestPlace : mfV yX8_bestPlace cX8_bestPlace 6 (some .int) 1 := ⟨in_tg 1089 (by decide +kernel) rfl, in_tg 1090 (by decide +kernel) rfl, in_tg 123 (by decide +kernel) rfl, in_tg 1091 (by decide +kernel) rfl, by decide +kernel, by decide +kernel, by decide +kernel⟩
theorem lk_L_67 : Cond.methodLink RL 67 yX8_bestPlace ∈ lw_tg := in_tg 1088 (by decide +kernel) rfl
theorem mf_X8_addPart : mfV yX8_addPart cX8_addPart 3 (some .int) 1 := ⟨in_tg 1103 (by decide +kernel) rfl, in_tg 1104 (by decide +kernel) rfl, in_tg 123 (by decide +kernel) rfl, in_tg 1105 (by decide +kernel) rfl, by decide +kernel, by decide +kernel, by decide +kernel⟩
theorem lk_L_70 : Cond.methodLink RL 70 yX8_addPart ∈ lw_tg := in_tg 1102 (by decide +kernel) rfl
theorem mf_X8_dropPart : mfV yX8_dropPart cX8_dropPart 2 (some .int) 1 := ⟨in_tg 1119 (by decide +kernel) rfl, in_tg 1120 (by decide +kernel) rfl, in_tg 123 (by decide +kernel) rfl, in_tg 1121 (by decide +kernel) rfl, by decide +kernel, by decide +kernel, by decide +kernel⟩
theorem lk_L_73 : Cond.methodLink RL 73 yX8_dropPart ∈ lw_tg := in_tg 1118 (by decide +kernel) rfl
theorem mf_X8_movePart : mfV yX8_movePart cX8_movePart 3 (some .int) 2 := ⟨in_tg 1143 (by decide +kernel) rfl, in_tg 1144 (by decide +kernel) rfl, in_tg 123 (by decide +kernel) rfl, in_tg 1145 (by decide +kernel) rfl, by decide +kernel, by decide +kernel, by decide +kernel⟩
theorem lk_L_76 : Cond.methodLink RL 76 yX8_movePart ∈ lw_tg := in_tg 1142 (by decide +kernel) rfl
theorem mf_X8_setFlaw : mfV yX8_setFlaw cX8_setFlaw 5 (some .boolean) 3 := ⟨in_tg 1150 (by decide +kernel) rfl, in_tg 1151 (by decide +kernel) rfl, in_tg 123 (by decide +kernel) rfl, in_tg 1152 (by decide +kernel) rfl, by decide +kernel, by decide +kernel, by decide +kernel⟩
theorem lk_L_79 : Cond.methodLink RL 79 yX8_setFlaw ∈ lw_tg := in_tg 1149 (by decide +kernel) rfl
theorem mf_X8_setGap : mfV yX8_setGap cX8_setGap 3 (some .int) 1 := ⟨in_tg 1157 (by decide +kernel) rfl, in_tg 1158 (by decide +kernel) rfl, in_tg 123 (by decide +kernel) rfl, in_tg 1159 (by decide +kernel) rfl, by decide +kernel, by decide +kernel, by decide +kernel⟩
theorem lk_L_83 : Cond.methodLink RL 83 yX8_setGap ∈ lw_tg := in_tg 1156 (by decide +kernel) rfl
theorem mf_X8_turnSlab : mfV yX8_turnSlab cX8_turnSlab 1 (some .int) 0 := ⟨in_tg 1164 (by decide +kernel) rfl, in_tg 1165 (by decide +kernel) rfl, in_tg 123 (by decide +kernel) rfl, in_tg 1166 (by decide +kernel) rfl, by decide +kernel, by decide +kernel, by decide +kernel⟩
theorem lk_L_86 : Cond.methodLink RL 86 yX8_turnSlab ∈ lw_tg := in_tg 1163 (by decide +kernel) rfl
theorem mf_X8_cutRows : mfV yX8_cutRows cX8_cutRows 3 (some .int) 2 := ⟨in_tg 1171 (by decide +kernel) rfl, in_tg 1172 (by decide +kernel) rfl, in_tg 123 (by decide +kernel) rfl, in_tg 1173 (by decide +kernel) rfl, by decide +kernel, by decide +kernel, by decide +kernel⟩
theorem lk_L_90 : Cond.methodLink RL 90 yX8_cutRows ∈ lw_tg := in_tg 1170 (by decide +kernel) rfl
theorem mf_X8_carve : mfV yX8_carve cX8_carve 5 (some .int) 1 := ⟨in_tg 1182 (by decide +kernel) rfl, in_tg 1183 (by decide +kernel) rfl, in_tg 123 (by decide +kernel) rfl, in_tg 1184 (by decide +kernel) rfl, by decide +kernel, by decide +kernel, by decide +kernel⟩
theorem lk_L_94 : Cond.methodLink RL 94 yX8_carve ∈ lw_tg := in_tg 1181 (by decide +kernel) rfl
theorem mf_X8_setChisel : mfV yX8_setChisel cX8_setChisel 4 (some .int) 2 := ⟨in_tg 1189 (by decide +kernel) rfl, in_tg 1190 (by decide +kernel) rfl, in_tg 123 (by decide +kernel) rfl, in_tg 1191 (by decide +kernel) rfl, by decide +kernel, by decide +kernel, by decide +kernel⟩
theorem lk_L_97 : Cond.methodLink RL 97 yX8_setChisel ∈ lw_tg := in_tg 1188 (by decide +kernel) rfl
theorem mf_X8_keep : mfV yX8_keep cX8_keep 3 (some .int) 1 := ⟨in_tg 1196 (by decide +kernel) rfl, in_tg 1197 (by decide +kernel) rfl, in_tg 123 (by decide +kernel) rfl, in_tg 1198 (by decide +kernel) rfl, by decide +kernel, by decide +kernel, by decide +kernel⟩
theorem lk_L_100 : Cond.methodLink RL 100 yX8_keep ∈ lw_tg := in_tg 1195 (by decide +kernel) rfl
theorem mf_X8_restore : mfV yX8_restore cX8_restore 3 (some .int) 1 := ⟨in_tg 1207 (by decide +kernel) rfl, in_tg 1208 (by decide +kernel) rfl, in_tg 123 (by decide +kernel) rfl, in_tg 1209 (by decide +kernel) rfl, by decide +kernel, by decide +kernel, by decide +kernel⟩
theorem lk_L_103 : Cond.methodLink RL 103 yX8_restore ∈ lw_tg := in_tg 1206 (by decide +kernel) rfl
theorem mf_X8_undo : mfV yX8_undo cX8_undo 1 (some .int) 0 := ⟨in_tg 1214 (by decide +kernel) rfl, in_tg 1215 (by decide +kernel) rfl, in_tg 123 (by decide +kernel) rfl, in_tg 1216 (by decide +kernel) rfl, by decide +kernel, by decide +kernel, by decide +kernel⟩
theorem lk_L_106 : Cond.methodLink RL 106 yX8_undo ∈ lw_tg := in_tg 1213 (by decide +kernel) rfl
theorem mf_X8_writeRow : mfV yX8_writeRow cX8_writeRow 3 (some .int) 1 := ⟨in_tg 1225 (by decide +kernel) rfl, in_tg 1226 (by decide +kernel) rfl, in_tg 123 (by decide +kernel) rfl, in_tg 1227 (by decide +kernel) rfl, by decide +kernel, by decide +kernel, by decide +kernel⟩
theorem lk_L_109 : Cond.methodLink RL 109 yX8_writeRow ∈ lw_tg := in_tg 1224 (by decide +kernel) rfl
theorem mf_X8_writePart : mfV yX8_writePart cX8_writePart 5 (some .int) 1 := ⟨in_tg 1237 (by decide +kernel) rfl, in_tg 1238 (by decide +kernel) rfl, in_tg 123 (by decide +kernel) rfl, in_tg 1239 (by decide +kernel) rfl, by decide +kernel, by decide +kernel, by decide +kernel⟩
theorem lk_L_112 : Cond.methodLink RL 112 yX8_writePart ∈ lw_tg := in_tg 1236 (by decide +kernel) rfl
theorem mf_X8_outputByte : mfV yX8_outputByte cX8_outputByte 2 (some .int) 1 := ⟨in_tg 1249 (by decide +kernel) rfl, in_tg 1250 (by decide +kernel) rfl, in_tg 123 (by decide +kernel) rfl, in_tg 1251 (by decide +kernel) rfl, by decide +kernel, by decide +kernel, by decide +kernel⟩
theorem lk_L_115 : Cond.methodLink RL 115 yX8_outputByte ∈ lw_tg := in_tg 1248 (by decide +kernel) rfl
def hnd1 (k1 : Nat) (k : Nat) : Option Int := if k = k1 then some 1 else none
def hnd2 (k1 k2 : Nat) (k : Nat) : Option Int := if k = k1 then some 1 else if k = k2 then some 2 else none
theorem hnd1_some {k1 k : Nat} {c : Int} (h : hnd1 k1 k = some c) : k = k1 ∧ c = 1 := by
  unfold hnd1 at h; split at h
  · rename_i e; exact ⟨e, (Option.some.inj h).symm⟩
  · cases h
theorem hnd2_some {k1 k2 k : Nat} {c : Int} (h : hnd2 k1 k2 k = some c) : (k = k1 ∧ c = 1) ∨ (k = k2 ∧ c = 2) := by
  unfold hnd2 at h; split at h
  · rename_i e; exact Or.inl ⟨e, (Option.some.inj h).symm⟩
  · split at h
    · rename_i e; exact Or.inr ⟨e, (Option.some.inj h).symm⟩
    · cases h
def wrL (h : Nat → Option Int) (f : Int → Wd → Wd) (z : Rz) : Option (Int × Nat × Wd) := match z.1 with
  | .inl r => some (0, z.2.1, f r z.2.2)
  | .inr k => (h k).map fun c => (c, z.2)
theorem wrL_l {h : Nat → Option Int} {f : Int → Wd → Wd} {z : Rz} {r : Int} {res : Int × Nat × Wd} (hq : wrL h f z = some res) (hr : z.1 = .inl r) : (0, z.2.1, f r z.2.2) = res := by
  unfold wrL at hq; rw [hr] at hq; exact Option.some.inj hq
theorem wrL_r {h : Nat → Option Int} {f : Int → Wd → Wd} {z : Rz} {k : Nat} {res : Int × Nat × Wd} (hq : wrL h f z = some res) (hr : z.1 = .inr k) : ∃ c, h k = some c ∧ (c, z.2) = res := by
  unfold wrL at hq; rw [hr] at hq
  obtain ⟨c, h1, h2⟩ := Option.map_eq_some_iff.mp hq
  exact ⟨c, h1, h2⟩
def p_L_append (x1 : Int) (x2 : Int) (x3 : Int) (x4 : Int) (x5 : Int) (na : Nat) (w : Wd) : Option (Int × Nat × Wd) := (p_X8_append x1 x2 x3 x4 x5 na w).bind (wrL (hnd1 1) (fun r w => sA w 34 0 (w32 r)))
theorem c_L_append (l : Launch) (G : Gd) (hfl : l.stackTraces = false) {na : Nat} {ad : Nat → Nat} {x1 : Int} {x2 : Int} {x3 : Int} {x4 : Int} {x5 : Int} {w : Wd} {res : Int × Nat × Wd} (hq : p_L_append x1 x2 x3 x4 x5 na w = some res) : mL l yL_append cL_append 8 [(0, 16, 19, 13)] (rmv 7 114 1 6) G na ad [.ref (ad (1)), iV x1, iV x2, iV x3, iV x4, iV x5, .ref (ad (34))] w res 1 6 := by
  refine met_L [(0, .ref (ad (1))), (1, iV x1), (2, iV x2), (3, iV x3), (4, iV x4), (5, iV x5), (6, .ref (ad (34)))] (by decide) (Nat.le_of_ble_eq_true rfl) rfl (fun g d C S hR => ?_)
  obtain ⟨rfl, hR0, rfl, hdm, rfl, hA, hT, hNC⟩ := S
  obtain ⟨z, hz, hq⟩ := Option.bind_eq_some_iff.mp hq
  refine x_aload C 6 dL_append_0 rfl ?_
  refine x_iconst C dL_append_2 ?_
  refine x_aload_n C 0 dL_append_3 rfl ?_
  refine x_iload_n C 1 dL_append_4 rfl ?_
  refine x_iload_n C 2 dL_append_5 rfl ?_
  refine x_iload_n C 3 dL_append_6 rfl ?_
  refine x_iload C 4 dL_append_7 rfl ?_
  refine x_iload C 5 dL_append_9 rfl ?_
  refine x_lcallI (mc' := 1) (ms' := 6) (rm := rmv 6 89 1 6) (K := 9) (o := 1) (As := [iV x1, iV x2, iV x3, iV x4, iV x5]) (rest := [iV 0, .ref (ad (34))]) (z := z) C hA hR0 mf_X8_append lk_L_7 rfl (isK_lit hdm rfl rfl) (by decide) ⟨rfl, rfl⟩ ⟨Nat.le_of_ble_eq_true rfl, Nat.le_of_ble_eq_true rfl⟩ rfl rfl (Nat.le_of_ble_eq_true rfl) ⟨by show 0 + 1 ≤ 1; omega, by show 0 + 6 ≤ 6; omega⟩ dL_append_11 (c_X8_append g.l g.G hfl hdm hz) (fun k d1 hk hag hn hc1 hc2 => ?_) (fun r d1 hr hag hn hc1 hc2 => ?_)
  · obtain ⟨c, hc, hres⟩ := wrL_r hq hk
    obtain ⟨rfl, rfl⟩ := hnd1_some hc
    refine ⟨19, cat1 C hT exL1 (by decide), fun q => ?_⟩
    refine x_astore C dL_append_19 (by decide) rfl ?_
    refine x_iconst C dL_append_21 ?_
    exact hR d1 _ _ 1 z.2.2 hag ⟨by rw [hc1]; show 0 + 1 ≤ 1; omega, by rw [hc2]; show 0 + 6 ≤ 6; omega⟩ (by rw [hn]; exact hres) dL_append_22
  · have hres := wrL_l hq hr
    refine x_i2l C dL_append_14 ?_
    rw [show ad 34 = d1.ad 34 from agr hag (isK_lit (g := g) (na := na) hdm rfl rfl : isK na g.dm 15 34) (by decide)]
    refine x_last C (isK_lit hdm rfl rfl) (by decide) dL_append_15 ?_
    refine x_goto (tgt := 23) C dL_append_16 (by decide) ?_
    refine x_iconst C dL_append_23 ?_
    exact hR d1 _ _ 0 (sA z.2.2 34 0 (w32 r)) hag ⟨by rw [hc1]; show 0 + 1 ≤ 1; omega, by rw [hc2]; show 0 + 6 ≤ 6; omega⟩ (by rw [hn]; exact hres) dL_append_24
def p_L_truncate (x1 : Int) (na : Nat) (w : Wd) : Option (Int × Nat × Wd) := (p_X8_truncate x1 na w).bind (wrL (hnd1 2) (fun _ w => w))
theorem c_L_truncate (l : Launch) (G : Gd) (hfl : l.stackTraces = false) {na : Nat} {ad : Nat → Nat} {x1 : Int} {w : Wd} {res : Int × Nat × Wd} (hq : p_L_truncate x1 na w = some res) : mL l yL_truncate cL_truncate 3 [(0, 5, 8, 19)] (rmv 7 110 1 6) G na ad [.ref (ad (1)), iV x1] w res 1 6 := by
  refine met_L [(0, .ref (ad (1))), (1, iV x1)] (by decide) (Nat.le_of_ble_eq_true rfl) rfl (fun g d C S hR => ?_)
  obtain ⟨rfl, hR0, rfl, hdm, rfl, hA, hT, hNC⟩ := S
  obtain ⟨z, hz, hq⟩ := Option.bind_eq_some_iff.mp hq
  refine x_aload_n C 0 dL_truncate_0 rfl ?_
  refine x_iload_n C 1 dL_truncate_1 rfl ?_
  refine x_lcallV (mc' := 1) (ms' := 6) (rm := rmv 6 89 1 6) (K := 9) (o := 1) (As := [iV x1]) (rest := []) (z := z) C hA hR0 mf_X8_truncate lk_L_15 rfl (isK_lit hdm rfl rfl) (by decide) ⟨rfl, rfl⟩ ⟨Nat.le_of_ble_eq_true rfl, Nat.le_of_ble_eq_true rfl⟩ rfl rfl (Nat.le_of_ble_eq_true rfl) ⟨by show 0 + 1 ≤ 1; omega, by show 0 + 6 ≤ 6; omega⟩ dL_truncate_2 (c_X8_truncate g.l g.G hfl hdm hz) (fun k d1 hk hag hn hc1 hc2 => ?_) (fun r d1 hr hag hn hc1 hc2 => ?_)
  · obtain ⟨c, hc, hres⟩ := wrL_r hq hk
    obtain ⟨rfl, rfl⟩ := hnd1_some hc
    refine ⟨8, cat1 C hT exL2 (by decide), fun q => ?_⟩
    refine x_astore_n C dL_truncate_8 (by decide) rfl ?_
    refine x_iconst C dL_truncate_9 ?_
    exact hR d1 _ _ 1 z.2.2 hag ⟨by rw [hc1]; show 0 + 1 ≤ 1; omega, by rw [hc2]; show 0 + 6 ≤ 6; omega⟩ (by rw [hn]; exact hres) dL_truncate_10
  · have hres := wrL_l hq hr
    refine x_goto (tgt := 11) C dL_truncate_5 (by decide) ?_
    refine x_iconst C dL_truncate_11 ?_
    exact hR d1 _ _ 0 (z.2.2) hag ⟨by rw [hc1]; show 0 + 1 ≤ 1; omega, by rw [hc2]; show 0 + 6 ≤ 6; omega⟩ (by rw [hn]; exact hres) dL_truncate_12
def p_L_property (x1 : Int) (na : Nat) (w : Wd) : Option (Int × Nat × Wd) := (p_X8_property x1 na w).bind (wrL (hnd1 2) (fun r w => sA w 34 0 (w32 r)))
theorem c_L_property (l : Launch) (G : Gd) (hfl : l.stackTraces = false) {na : Nat} {ad : Nat → Nat} {x1 : Int} {w : Wd} {res : Int × Nat × Wd} (hq : p_L_property x1 na w = some res) : mL l yL_property cL_property 4 [(0, 9, 12, 19)] (rmv 7 110 1 6) G na ad [.ref (ad (1)), iV x1, .ref (ad (34))] w res 1 6 := by
  refine met_L [(0, .ref (ad (1))), (1, iV x1), (2, .ref (ad (34)))] (by decide) (Nat.le_of_ble_eq_true rfl) rfl (fun g d C S hR => ?_)
  obtain ⟨rfl, hR0, rfl, hdm, rfl, hA, hT, hNC⟩ := S
  obtain ⟨z, hz, hq⟩ := Option.bind_eq_some_iff.mp hq
  refine x_aload_n C 2 dL_property_0 rfl ?_
  refine x_iconst C dL_property_1 ?_
  refine x_aload_n C 0 dL_property_2 rfl ?_
  refine x_iload_n C 1 dL_property_3 rfl ?_
  refine x_lcallI (mc' := 1) (ms' := 6) (rm := rmv 6 89 1 6) (K := 9) (o := 1) (As := [iV x1]) (rest := [iV 0, .ref (ad (34))]) (z := z) C hA hR0 mf_X8_property lk_L_21 rfl (isK_lit hdm rfl rfl) (by decide) ⟨rfl, rfl⟩ ⟨Nat.le_of_ble_eq_true rfl, Nat.le_of_ble_eq_true rfl⟩ rfl rfl (Nat.le_of_ble_eq_true rfl) ⟨by show 0 + 1 ≤ 1; omega, by show 0 + 6 ≤ 6; omega⟩ dL_property_4 (c_X8_property g.l g.G hfl hdm hz) (fun k d1 hk hag hn hc1 hc2 => ?_) (fun r d1 hr hag hn hc1 hc2 => ?_)
  · obtain ⟨c, hc, hres⟩ := wrL_r hq hk
    obtain ⟨rfl, rfl⟩ := hnd1_some hc
    refine ⟨12, cat1 C hT exL2 (by decide), fun q => ?_⟩
    refine x_astore_n C dL_property_12 (by decide) rfl ?_
    refine x_iconst C dL_property_13 ?_
    exact hR d1 _ _ 1 z.2.2 hag ⟨by rw [hc1]; show 0 + 1 ≤ 1; omega, by rw [hc2]; show 0 + 6 ≤ 6; omega⟩ (by rw [hn]; exact hres) dL_property_14
  · have hres := wrL_l hq hr
    refine x_i2l C dL_property_7 ?_
    rw [show ad 34 = d1.ad 34 from agr hag (isK_lit (g := g) (na := na) hdm rfl rfl : isK na g.dm 15 34) (by decide)]
    refine x_last C (isK_lit hdm rfl rfl) (by decide) dL_property_8 ?_
    refine x_goto (tgt := 15) C dL_property_9 (by decide) ?_
    refine x_iconst C dL_property_15 ?_
    exact hR d1 _ _ 0 (sA z.2.2 34 0 (w32 r)) hag ⟨by rw [hc1]; show 0 + 1 ≤ 1; omega, by rw [hc2]; show 0 + 6 ≤ 6; omega⟩ (by rw [hn]; exact hres) dL_property_16
def p_L_part (x1 : Int) (x2 : Int) (na : Nat) (w : Wd) : Option (Int × Nat × Wd) := (p_X8_part x1 x2 na w).bind (wrL (hnd2 3 2) (fun r w => sA w 34 0 (w32 r)))
theorem c_L_part (l : Launch) (G : Gd) (hfl : l.stackTraces = false) {na : Nat} {ad : Nat → Nat} {x1 : Int} {x2 : Int} {w : Wd} {res : Int × Nat × Wd} (hq : p_L_part x1 x2 na w = some res) : mL l yL_part cL_part 5 [(0, 10, 13, 29), (0, 10, 17, 19)] (rmv 8 135 2 12) G na ad [.ref (ad (1)), iV x1, iV x2, .ref (ad (34))] w res 2 12 := by
  refine met_L [(0, .ref (ad (1))), (1, iV x1), (2, iV x2), (3, .ref (ad (34)))] (by decide) (Nat.le_of_ble_eq_true rfl) rfl (fun g d C S hR => ?_)
  obtain ⟨rfl, hR0, rfl, hdm, rfl, hA, hT, hNC⟩ := S
  obtain ⟨z, hz, hq⟩ := Option.bind_eq_some_iff.mp hq
  refine x_aload_n C 3 dL_part_0 rfl ?_
  refine x_iconst C dL_part_1 ?_
  refine x_aload_n C 0 dL_part_2 rfl ?_
  refine x_iload_n C 1 dL_part_3 rfl ?_
  refine x_iload_n C 2 dL_part_4 rfl ?_
  refine x_lcallI (mc' := 2) (ms' := 12) (rm := rmv 7 110 2 12) (K := 9) (o := 1) (As := [iV x1, iV x2]) (rest := [iV 0, .ref (ad (34))]) (z := z) C hA hR0 mf_X8_part lk_L_25 rfl (isK_lit hdm rfl rfl) (by decide) ⟨rfl, rfl⟩ ⟨Nat.le_of_ble_eq_true rfl, Nat.le_of_ble_eq_true rfl⟩ rfl rfl (Nat.le_of_ble_eq_true rfl) ⟨by show 0 + 2 ≤ 2; omega, by show 0 + 12 ≤ 12; omega⟩ dL_part_5 (c_X8_part g.l g.G hfl hdm hz) (fun k d1 hk hag hn hc1 hc2 => ?_) (fun r d1 hr hag hn hc1 hc2 => ?_)
  · obtain ⟨c, hc, hres⟩ := wrL_r hq hk
    rcases hnd2_some hc with ⟨rfl, rfl⟩ | ⟨rfl, rfl⟩
    · refine ⟨13, cat1 C hT exL3 (by decide), fun q => ?_⟩
      refine x_astore C dL_part_13 (by decide) rfl ?_
      refine x_iconst C dL_part_15 ?_
      exact hR d1 _ _ 1 z.2.2 hag ⟨by rw [hc1]; show 0 + 2 ≤ 2; omega, by rw [hc2]; show 0 + 12 ≤ 12; omega⟩ (by rw [hn]; exact hres) dL_part_16
    · refine ⟨17, cat2 C hT exL3 exL2 hNC.1 (by decide), fun q => ?_⟩
      refine x_astore C dL_part_17 (by decide) rfl ?_
      refine x_iconst C dL_part_19 ?_
      exact hR d1 _ _ 2 z.2.2 hag ⟨by rw [hc1]; show 0 + 2 ≤ 2; omega, by rw [hc2]; show 0 + 12 ≤ 12; omega⟩ (by rw [hn]; exact hres) dL_part_20
  · have hres := wrL_l hq hr
    refine x_i2l C dL_part_8 ?_
    rw [show ad 34 = d1.ad 34 from agr hag (isK_lit (g := g) (na := na) hdm rfl rfl : isK na g.dm 15 34) (by decide)]
    refine x_last C (isK_lit hdm rfl rfl) (by decide) dL_part_9 ?_
    refine x_goto (tgt := 21) C dL_part_10 (by decide) ?_
    refine x_iconst C dL_part_21 ?_
    exact hR d1 _ _ 0 (sA z.2.2 34 0 (w32 r)) hag ⟨by rw [hc1]; show 0 + 2 ≤ 2; omega, by rw [hc2]; show 0 + 12 ≤ 12; omega⟩ (by rw [hn]; exact hres) dL_part_22
def p_L_word (x1 : Int) (x2 : Int) (na : Nat) (w : Wd) : Option (Int × Nat × Wd) := (p_X8_word x1 x2 na w).bind (wrL (hnd2 3 2) (fun r w => sA w 34 0 (w32 r)))
theorem c_L_word (l : Launch) (G : Gd) (hfl : l.stackTraces = false) {na : Nat} {ad : Nat → Nat} {x1 : Int} {x2 : Int} {w : Wd} {res : Int × Nat × Wd} (hq : p_L_word x1 x2 na w = some res) : mL l yL_word cL_word 5 [(0, 10, 13, 29), (0, 10, 17, 19)] (rmv 8 132 2 12) G na ad [.ref (ad (1)), iV x1, iV x2, .ref (ad (34))] w res 2 12 := by
  refine met_L [(0, .ref (ad (1))), (1, iV x1), (2, iV x2), (3, .ref (ad (34)))] (by decide) (Nat.le_of_ble_eq_true rfl) rfl (fun g d C S hR => ?_)
  obtain ⟨rfl, hR0, rfl, hdm, rfl, hA, hT, hNC⟩ := S
  obtain ⟨z, hz, hq⟩ := Option.bind_eq_some_iff.mp hq
  refine x_aload_n C 3 dL_word_0 rfl ?_
  refine x_iconst C dL_word_1 ?_
  refine x_aload_n C 0 dL_word_2 rfl ?_
  refine x_iload_n C 1 dL_word_3 rfl ?_
  refine x_iload_n C 2 dL_word_4 rfl ?_
  refine x_lcallI (mc' := 2) (ms' := 12) (rm := rmv 7 110 2 12) (K := 9) (o := 1) (As := [iV x1, iV x2]) (rest := [iV 0, .ref (ad (34))]) (z := z) C hA hR0 mf_X8_word lk_L_31 rfl (isK_lit hdm rfl rfl) (by decide) ⟨rfl, rfl⟩ ⟨Nat.le_of_ble_eq_true rfl, Nat.le_of_ble_eq_true rfl⟩ rfl rfl (Nat.le_of_ble_eq_true rfl) ⟨by show 0 + 2 ≤ 2; omega, by show 0 + 12 ≤ 12; omega⟩ dL_word_5 (c_X8_word g.l g.G hfl hdm hz) (fun k d1 hk hag hn hc1 hc2 => ?_) (fun r d1 hr hag hn hc1 hc2 => ?_)
  · obtain ⟨c, hc, hres⟩ := wrL_r hq hk
    rcases hnd2_some hc with ⟨rfl, rfl⟩ | ⟨rfl, rfl⟩
    · refine ⟨13, cat1 C hT exL3 (by decide), fun q => ?_⟩
      refine x_astore C dL_word_13 (by decide) rfl ?_
      refine x_iconst C dL_word_15 ?_
      exact hR d1 _ _ 1 z.2.2 hag ⟨by rw [hc1]; show 0 + 2 ≤ 2; omega, by rw [hc2]; show 0 + 12 ≤ 12; omega⟩ (by rw [hn]; exact hres) dL_word_16
    · refine ⟨17, cat2 C hT exL3 exL2 hNC.1 (by decide), fun q => ?_⟩
      refine x_astore C dL_word_17 (by decide) rfl ?_
      refine x_iconst C dL_word_19 ?_
      exact hR d1 _ _ 2 z.2.2 hag ⟨by rw [hc1]; show 0 + 2 ≤ 2; omega, by rw [hc2]; show 0 + 12 ≤ 12; omega⟩ (by rw [hn]; exact hres) dL_word_20
  · have hres := wrL_l hq hr
    refine x_i2l C dL_word_8 ?_
    rw [show ad 34 = d1.ad 34 from agr hag (isK_lit (g := g) (na := na) hdm rfl rfl : isK na g.dm 15 34) (by decide)]
    refine x_last C (isK_lit hdm rfl rfl) (by decide) dL_word_9 ?_
    refine x_goto (tgt := 21) C dL_word_10 (by decide) ?_
    refine x_iconst C dL_word_21 ?_
    exact hR d1 _ _ 0 (sA z.2.2 34 0 (w32 r)) hag ⟨by rw [hc1]; show 0 + 2 ≤ 2; omega, by rw [hc2]; show 0 + 12 ≤ 12; omega⟩ (by rw [hn]; exact hres) dL_word_22
def p_L_letter (x1 : Int) (x2 : Int) (na : Nat) (w : Wd) : Option (Int × Nat × Wd) := (p_X8_letter x1 x2 na w).bind (wrL (hnd1 3) (fun r w => sA w 34 0 (w32 r)))
theorem c_L_letter (l : Launch) (G : Gd) (hfl : l.stackTraces = false) {na : Nat} {ad : Nat → Nat} {x1 : Int} {x2 : Int} {w : Wd} {res : Int × Nat × Wd} (hq : p_L_letter x1 x2 na w = some res) : mL l yL_letter cL_letter 5 [(0, 10, 13, 29)] (rmv 8 132 2 12) G na ad [.ref (ad (1)), iV x1, iV x2, .ref (ad (34))] w res 2 12 := by
  refine met_L [(0, .ref (ad (1))), (1, iV x1), (2, iV x2), (3, .ref (ad (34)))] (by decide) (Nat.le_of_ble_eq_true rfl) rfl (fun g d C S hR => ?_)
  obtain ⟨rfl, hR0, rfl, hdm, rfl, hA, hT, hNC⟩ := S
  obtain ⟨z, hz, hq⟩ := Option.bind_eq_some_iff.mp hq
  refine x_aload_n C 3 dL_letter_0 rfl ?_
  refine x_iconst C dL_letter_1 ?_
  refine x_aload_n C 0 dL_letter_2 rfl ?_
  refine x_iload_n C 1 dL_letter_3 rfl ?_
  refine x_iload_n C 2 dL_letter_4 rfl ?_
  refine x_lcallI (mc' := 2) (ms' := 12) (rm := rmv 7 110 2 12) (K := 9) (o := 1) (As := [iV x1, iV x2]) (rest := [iV 0, .ref (ad (34))]) (z := z) C hA hR0 mf_X8_letter lk_L_34 rfl (isK_lit hdm rfl rfl) (by decide) ⟨rfl, rfl⟩ ⟨Nat.le_of_ble_eq_true rfl, Nat.le_of_ble_eq_true rfl⟩ rfl rfl (Nat.le_of_ble_eq_true rfl) ⟨by show 0 + 2 ≤ 2; omega, by show 0 + 12 ≤ 12; omega⟩ dL_letter_5 (c_X8_letter g.l g.G hfl hdm hz) (fun k d1 hk hag hn hc1 hc2 => ?_) (fun r d1 hr hag hn hc1 hc2 => ?_)
  · obtain ⟨c, hc, hres⟩ := wrL_r hq hk
    obtain ⟨rfl, rfl⟩ := hnd1_some hc
    refine ⟨13, cat1 C hT exL3 (by decide), fun q => ?_⟩
    refine x_astore C dL_letter_13 (by decide) rfl ?_
    refine x_iconst C dL_letter_15 ?_
    exact hR d1 _ _ 1 z.2.2 hag ⟨by rw [hc1]; show 0 + 2 ≤ 2; omega, by rw [hc2]; show 0 + 12 ≤ 12; omega⟩ (by rw [hn]; exact hres) dL_letter_16
  · have hres := wrL_l hq hr
    refine x_i2l C dL_letter_8 ?_
    rw [show ad 34 = d1.ad 34 from agr hag (isK_lit (g := g) (na := na) hdm rfl rfl : isK na g.dm 15 34) (by decide)]
    refine x_last C (isK_lit hdm rfl rfl) (by decide) dL_letter_9 ?_
    refine x_goto (tgt := 17) C dL_letter_10 (by decide) ?_
    refine x_iconst C dL_letter_17 ?_
    exact hR d1 _ _ 0 (sA z.2.2 34 0 (w32 r)) hag ⟨by rw [hc1]; show 0 + 2 ≤ 2; omega, by rw [hc2]; show 0 + 12 ≤ 12; omega⟩ (by rw [hn]; exact hres) dL_letter_18
def p_L_cell (x1 : Int) (x2 : Int) (na : Nat) (w : Wd) : Option (Int × Nat × Wd) := (p_X8_cell x1 x2 na w).bind (wrL (hnd1 3) (fun r w => sA w 34 0 (w32 r)))
theorem c_L_cell (l : Launch) (G : Gd) (hfl : l.stackTraces = false) {na : Nat} {ad : Nat → Nat} {x1 : Int} {x2 : Int} {w : Wd} {res : Int × Nat × Wd} (hq : p_L_cell x1 x2 na w = some res) : mL l yL_cell cL_cell 5 [(0, 10, 13, 29)] (rmv 9 155 2 12) G na ad [.ref (ad (1)), iV x1, iV x2, .ref (ad (34))] w res 2 12 := by
  refine met_L [(0, .ref (ad (1))), (1, iV x1), (2, iV x2), (3, .ref (ad (34)))] (by decide) (Nat.le_of_ble_eq_true rfl) rfl (fun g d C S hR => ?_)
  obtain ⟨rfl, hR0, rfl, hdm, rfl, hA, hT, hNC⟩ := S
  obtain ⟨z, hz, hq⟩ := Option.bind_eq_some_iff.mp hq
  refine x_aload_n C 3 dL_cell_0 rfl ?_
  refine x_iconst C dL_cell_1 ?_
  refine x_aload_n C 0 dL_cell_2 rfl ?_
  refine x_iload_n C 1 dL_cell_3 rfl ?_
  refine x_iload_n C 2 dL_cell_4 rfl ?_
  refine x_lcallI (mc' := 2) (ms' := 12) (rm := rmv 8 132 2 12) (K := 9) (o := 1) (As := [iV x1, iV x2]) (rest := [iV 0, .ref (ad (34))]) (z := z) C hA hR0 mf_X8_cell lk_L_37 rfl (isK_lit hdm rfl rfl) (by decide) ⟨rfl, rfl⟩ ⟨Nat.le_of_ble_eq_true rfl, Nat.le_of_ble_eq_true rfl⟩ rfl rfl (Nat.le_of_ble_eq_true rfl) ⟨by show 0 + 2 ≤ 2; omega, by show 0 + 12 ≤ 12; omega⟩ dL_cell_5 (c_X8_cell g.l g.G hfl hdm hz) (fun k d1 hk hag hn hc1 hc2 => ?_) (fun r d1 hr hag hn hc1 hc2 => ?_)
  · obtain ⟨c, hc, hres⟩ := wrL_r hq hk
    obtain ⟨rfl, rfl⟩ := hnd1_some hc
    refine ⟨13, cat1 C hT exL3 (by decide), fun q => ?_⟩
    refine x_astore C dL_cell_13 (by decide) rfl ?_
    refine x_iconst C dL_cell_15 ?_
    exact hR d1 _ _ 1 z.2.2 hag ⟨by rw [hc1]; show 0 + 2 ≤ 2; omega, by rw [hc2]; show 0 + 12 ≤ 12; omega⟩ (by rw [hn]; exact hres) dL_cell_16
  · have hres := wrL_l hq hr
    refine x_i2l C dL_cell_8 ?_
    rw [show ad 34 = d1.ad 34 from agr hag (isK_lit (g := g) (na := na) hdm rfl rfl : isK na g.dm 15 34) (by decide)]
    refine x_last C (isK_lit hdm rfl rfl) (by decide) dL_cell_9 ?_
    refine x_goto (tgt := 17) C dL_cell_10 (by decide) ?_
    refine x_iconst C dL_cell_17 ?_
    exact hR d1 _ _ 0 (sA z.2.2 34 0 (w32 r)) hag ⟨by rw [hc1]; show 0 + 2 ≤ 2; omega, by rw [hc2]; show 0 + 12 ≤ 12; omega⟩ (by rw [hn]; exact hres) dL_cell_18
def p_L_wordAt (x1 : Int) (x2 : Int) (na : Nat) (w : Wd) : Option (Int × Nat × Wd) := (p_X8_wordAt x1 x2 na w).bind (wrL (hnd1 3) (fun r w => sA w 34 0 (w32 r)))
theorem c_L_wordAt (l : Launch) (G : Gd) (hfl : l.stackTraces = false) {na : Nat} {ad : Nat → Nat} {x1 : Int} {x2 : Int} {w : Wd} {res : Int × Nat × Wd} (hq : p_L_wordAt x1 x2 na w = some res) : mL l yL_wordAt cL_wordAt 5 [(0, 10, 13, 29)] (rmv 9 154 2 12) G na ad [.ref (ad (1)), iV x1, iV x2, .ref (ad (34))] w res 2 12 := by
  refine met_L [(0, .ref (ad (1))), (1, iV x1), (2, iV x2), (3, .ref (ad (34)))] (by decide) (Nat.le_of_ble_eq_true rfl) rfl (fun g d C S hR => ?_)
  obtain ⟨rfl, hR0, rfl, hdm, rfl, hA, hT, hNC⟩ := S
  obtain ⟨z, hz, hq⟩ := Option.bind_eq_some_iff.mp hq
  refine x_aload_n C 3 dL_wordAt_0 rfl ?_
  refine x_iconst C dL_wordAt_1 ?_
  refine x_aload_n C 0 dL_wordAt_2 rfl ?_
  refine x_iload_n C 1 dL_wordAt_3 rfl ?_
  refine x_iload_n C 2 dL_wordAt_4 rfl ?_
  refine x_lcallI (mc' := 2) (ms' := 12) (rm := rmv 8 132 2 12) (K := 9) (o := 1) (As := [iV x1, iV x2]) (rest := [iV 0, .ref (ad (34))]) (z := z) C hA hR0 mf_X8_wordAt lk_L_40 rfl (isK_lit hdm rfl rfl) (by decide) ⟨rfl, rfl⟩ ⟨Nat.le_of_ble_eq_true rfl, Nat.le_of_ble_eq_true rfl⟩ rfl rfl (Nat.le_of_ble_eq_true rfl) ⟨by show 0 + 2 ≤ 2; omega, by show 0 + 12 ≤ 12; omega⟩ dL_wordAt_5 (c_X8_wordAt g.l g.G hfl hdm hz) (fun k d1 hk hag hn hc1 hc2 => ?_) (fun r d1 hr hag hn hc1 hc2 => ?_)
  · obtain ⟨c, hc, hres⟩ := wrL_r hq hk
    obtain ⟨rfl, rfl⟩ := hnd1_some hc
    refine ⟨13, cat1 C hT exL3 (by decide), fun q => ?_⟩
    refine x_astore C dL_wordAt_13 (by decide) rfl ?_
    refine x_iconst C dL_wordAt_15 ?_
    exact hR d1 _ _ 1 z.2.2 hag ⟨by rw [hc1]; show 0 + 2 ≤ 2; omega, by rw [hc2]; show 0 + 12 ≤ 12; omega⟩ (by rw [hn]; exact hres) dL_wordAt_16
  · have hres := wrL_l hq hr
    refine x_i2l C dL_wordAt_8 ?_
    rw [show ad 34 = d1.ad 34 from agr hag (isK_lit (g := g) (na := na) hdm rfl rfl : isK na g.dm 15 34) (by decide)]
    refine x_last C (isK_lit hdm rfl rfl) (by decide) dL_wordAt_9 ?_
    refine x_goto (tgt := 17) C dL_wordAt_10 (by decide) ?_
    refine x_iconst C dL_wordAt_17 ?_
    exact hR d1 _ _ 0 (sA z.2.2 34 0 (w32 r)) hag ⟨by rw [hc1]; show 0 + 2 ≤ 2; omega, by rw [hc2]; show 0 + 12 ≤ 12; omega⟩ (by rw [hn]; exact hres) dL_wordAt_18
def p_L_freeIn (x1 : Int) (na : Nat) (w : Wd) : Option (Int × Nat × Wd) := (p_X8_freeIn x1 na w).bind (wrL (hnd1 3) (fun r w => sA w 34 0 (w32 r)))
theorem c_L_freeIn (l : Launch) (G : Gd) (hfl : l.stackTraces = false) {na : Nat} {ad : Nat → Nat} {x1 : Int} {w : Wd} {res : Int × Nat × Wd} (hq : p_L_freeIn x1 na w = some res) : mL l yL_freeIn cL_freeIn 4 [(0, 9, 12, 29)] (rmv 8 133 1 6) G na ad [.ref (ad (1)), iV x1, .ref (ad (34))] w res 1 6 := by
  refine met_L [(0, .ref (ad (1))), (1, iV x1), (2, .ref (ad (34)))] (by decide) (Nat.le_of_ble_eq_true rfl) rfl (fun g d C S hR => ?_)
  obtain ⟨rfl, hR0, rfl, hdm, rfl, hA, hT, hNC⟩ := S
  obtain ⟨z, hz, hq⟩ := Option.bind_eq_some_iff.mp hq
  refine x_aload_n C 2 dL_freeIn_0 rfl ?_
  refine x_iconst C dL_freeIn_1 ?_
  refine x_aload_n C 0 dL_freeIn_2 rfl ?_
  refine x_iload_n C 1 dL_freeIn_3 rfl ?_
  refine x_lcallI (mc' := 1) (ms' := 6) (rm := rmv 7 110 1 6) (K := 9) (o := 1) (As := [iV x1]) (rest := [iV 0, .ref (ad (34))]) (z := z) C hA hR0 mf_X8_freeIn lk_L_43 rfl (isK_lit hdm rfl rfl) (by decide) ⟨rfl, rfl⟩ ⟨Nat.le_of_ble_eq_true rfl, Nat.le_of_ble_eq_true rfl⟩ rfl rfl (Nat.le_of_ble_eq_true rfl) ⟨by show 0 + 1 ≤ 1; omega, by show 0 + 6 ≤ 6; omega⟩ dL_freeIn_4 (c_X8_freeIn g.l g.G hfl hdm hz) (fun k d1 hk hag hn hc1 hc2 => ?_) (fun r d1 hr hag hn hc1 hc2 => ?_)
  · obtain ⟨c, hc, hres⟩ := wrL_r hq hk
    obtain ⟨rfl, rfl⟩ := hnd1_some hc
    refine ⟨12, cat1 C hT exL3 (by decide), fun q => ?_⟩
    refine x_astore_n C dL_freeIn_12 (by decide) rfl ?_
    refine x_iconst C dL_freeIn_13 ?_
    exact hR d1 _ _ 1 z.2.2 hag ⟨by rw [hc1]; show 0 + 1 ≤ 1; omega, by rw [hc2]; show 0 + 6 ≤ 6; omega⟩ (by rw [hn]; exact hres) dL_freeIn_14
  · have hres := wrL_l hq hr
    refine x_i2l C dL_freeIn_7 ?_
    rw [show ad 34 = d1.ad 34 from agr hag (isK_lit (g := g) (na := na) hdm rfl rfl : isK na g.dm 15 34) (by decide)]
    refine x_last C (isK_lit hdm rfl rfl) (by decide) dL_freeIn_8 ?_
    refine x_goto (tgt := 15) C dL_freeIn_9 (by decide) ?_
    refine x_iconst C dL_freeIn_15 ?_
    exact hR d1 _ _ 0 (sA z.2.2 34 0 (w32 r)) hag ⟨by rw [hc1]; show 0 + 1 ≤ 1; omega, by rw [hc2]; show 0 + 6 ≤ 6; omega⟩ (by rw [hn]; exact hres) dL_freeIn_16
def p_L_longestRun (x1 : Int) (na : Nat) (w : Wd) : Option (Int × Nat × Wd) := (p_X8_longestRun x1 na w).bind (wrL (hnd1 3) (fun r w => sA w 34 0 (w32 r)))
theorem c_L_longestRun (l : Launch) (G : Gd) (hfl : l.stackTraces = false) {na : Nat} {ad : Nat → Nat} {x1 : Int} {w : Wd} {res : Int × Nat × Wd} (hq : p_L_longestRun x1 na w = some res) : mL l yL_longestRun cL_longestRun 4 [(0, 9, 12, 29)] (rmv 8 134 1 6) G na ad [.ref (ad (1)), iV x1, .ref (ad (34))] w res 1 6 := by
  refine met_L [(0, .ref (ad (1))), (1, iV x1), (2, .ref (ad (34)))] (by decide) (Nat.le_of_ble_eq_true rfl) rfl (fun g d C S hR => ?_)
  obtain ⟨rfl, hR0, rfl, hdm, rfl, hA, hT, hNC⟩ := S
  obtain ⟨z, hz, hq⟩ := Option.bind_eq_some_iff.mp hq
  refine x_aload_n C 2 dL_longestRun_0 rfl ?_
  refine x_iconst C dL_longestRun_1 ?_
  refine x_aload_n C 0 dL_longestRun_2 rfl ?_
  refine x_iload_n C 1 dL_longestRun_3 rfl ?_
  refine x_lcallI (mc' := 1) (ms' := 6) (rm := rmv 7 110 1 6) (K := 9) (o := 1) (As := [iV x1]) (rest := [iV 0, .ref (ad (34))]) (z := z) C hA hR0 mf_X8_longestRun lk_L_46 rfl (isK_lit hdm rfl rfl) (by decide) ⟨rfl, rfl⟩ ⟨Nat.le_of_ble_eq_true rfl, Nat.le_of_ble_eq_true rfl⟩ rfl rfl (Nat.le_of_ble_eq_true rfl) ⟨by show 0 + 1 ≤ 1; omega, by show 0 + 6 ≤ 6; omega⟩ dL_longestRun_4 (c_X8_longestRun g.l g.G hfl hdm hz) (fun k d1 hk hag hn hc1 hc2 => ?_) (fun r d1 hr hag hn hc1 hc2 => ?_)
  · obtain ⟨c, hc, hres⟩ := wrL_r hq hk
    obtain ⟨rfl, rfl⟩ := hnd1_some hc
    refine ⟨12, cat1 C hT exL3 (by decide), fun q => ?_⟩
    refine x_astore_n C dL_longestRun_12 (by decide) rfl ?_
    refine x_iconst C dL_longestRun_13 ?_
    exact hR d1 _ _ 1 z.2.2 hag ⟨by rw [hc1]; show 0 + 1 ≤ 1; omega, by rw [hc2]; show 0 + 6 ≤ 6; omega⟩ (by rw [hn]; exact hres) dL_longestRun_14
  · have hres := wrL_l hq hr
    refine x_i2l C dL_longestRun_7 ?_
    rw [show ad 34 = d1.ad 34 from agr hag (isK_lit (g := g) (na := na) hdm rfl rfl : isK na g.dm 15 34) (by decide)]
    refine x_last C (isK_lit hdm rfl rfl) (by decide) dL_longestRun_8 ?_
    refine x_goto (tgt := 15) C dL_longestRun_9 (by decide) ?_
    refine x_iconst C dL_longestRun_15 ?_
    exact hR d1 _ _ 0 (sA z.2.2 34 0 (w32 r)) hag ⟨by rw [hc1]; show 0 + 1 ≤ 1; omega, by rw [hc2]; show 0 + 6 ≤ 6; omega⟩ (by rw [hn]; exact hres) dL_longestRun_16
def p_L_timeFor (x1 : Int) (na : Nat) (w : Wd) : Option (Int × Nat × Wd) := (p_X8_timeFor x1 na w).bind (wrL (hnd1 2) (fun r w => sA w 34 0 (w32 r)))
theorem c_L_timeFor (l : Launch) (G : Gd) (hfl : l.stackTraces = false) {na : Nat} {ad : Nat → Nat} {x1 : Int} {w : Wd} {res : Int × Nat × Wd} (hq : p_L_timeFor x1 na w = some res) : mL l yL_timeFor cL_timeFor 4 [(0, 9, 12, 19)] (rmv 7 111 1 6) G na ad [.ref (ad (1)), iV x1, .ref (ad (34))] w res 1 6 := by
  refine met_L [(0, .ref (ad (1))), (1, iV x1), (2, .ref (ad (34)))] (by decide) (Nat.le_of_ble_eq_true rfl) rfl (fun g d C S hR => ?_)
  obtain ⟨rfl, hR0, rfl, hdm, rfl, hA, hT, hNC⟩ := S
  obtain ⟨z, hz, hq⟩ := Option.bind_eq_some_iff.mp hq
  refine x_aload_n C 2 dL_timeFor_0 rfl ?_
  refine x_iconst C dL_timeFor_1 ?_
  refine x_aload_n C 0 dL_timeFor_2 rfl ?_
  refine x_iload_n C 1 dL_timeFor_3 rfl ?_
  refine x_lcallI (mc' := 1) (ms' := 6) (rm := rmv 6 89 1 6) (K := 9) (o := 1) (As := [iV x1]) (rest := [iV 0, .ref (ad (34))]) (z := z) C hA hR0 mf_X8_timeFor lk_L_49 rfl (isK_lit hdm rfl rfl) (by decide) ⟨rfl, rfl⟩ ⟨Nat.le_of_ble_eq_true rfl, Nat.le_of_ble_eq_true rfl⟩ rfl rfl (Nat.le_of_ble_eq_true rfl) ⟨by show 0 + 1 ≤ 1; omega, by show 0 + 6 ≤ 6; omega⟩ dL_timeFor_4 (c_X8_timeFor g.l g.G hfl hdm hz) (fun k d1 hk hag hn hc1 hc2 => ?_) (fun r d1 hr hag hn hc1 hc2 => ?_)
  · obtain ⟨c, hc, hres⟩ := wrL_r hq hk
    obtain ⟨rfl, rfl⟩ := hnd1_some hc
    refine ⟨12, cat1 C hT exL2 (by decide), fun q => ?_⟩
    refine x_astore_n C dL_timeFor_12 (by decide) rfl ?_
    refine x_iconst C dL_timeFor_13 ?_
    exact hR d1 _ _ 1 z.2.2 hag ⟨by rw [hc1]; show 0 + 1 ≤ 1; omega, by rw [hc2]; show 0 + 6 ≤ 6; omega⟩ (by rw [hn]; exact hres) dL_timeFor_14
  · have hres := wrL_l hq hr
    refine x_i2l C dL_timeFor_7 ?_
    rw [show ad 34 = d1.ad 34 from agr hag (isK_lit (g := g) (na := na) hdm rfl rfl : isK na g.dm 15 34) (by decide)]
    refine x_last C (isK_lit hdm rfl rfl) (by decide) dL_timeFor_8 ?_
    refine x_goto (tgt := 15) C dL_timeFor_9 (by decide) ?_
    refine x_iconst C dL_timeFor_15 ?_
    exact hR d1 _ _ 0 (sA z.2.2 34 0 (w32 r)) hag ⟨by rw [hc1]; show 0 + 1 ≤ 1; omega, by rw [hc2]; show 0 + 6 ≤ 6; omega⟩ (by rw [hn]; exact hres) dL_timeFor_16
def p_L_lettersIn (x1 : Int) (na : Nat) (w : Wd) : Option (Int × Nat × Wd) := (p_X8_lettersIn x1 na w).bind (wrL (hnd1 2) (fun r w => sA w 34 0 (w32 r)))
theorem c_L_lettersIn (l : Launch) (G : Gd) (hfl : l.stackTraces = false) {na : Nat} {ad : Nat → Nat} {x1 : Int} {w : Wd} {res : Int × Nat × Wd} (hq : p_L_lettersIn x1 na w = some res) : mL l yL_lettersIn cL_lettersIn 4 [(0, 9, 12, 19)] (rmv 7 112 1 6) G na ad [.ref (ad (1)), iV x1, .ref (ad (34))] w res 1 6 := by
  refine met_L [(0, .ref (ad (1))), (1, iV x1), (2, .ref (ad (34)))] (by decide) (Nat.le_of_ble_eq_true rfl) rfl (fun g d C S hR => ?_)
  obtain ⟨rfl, hR0, rfl, hdm, rfl, hA, hT, hNC⟩ := S
  obtain ⟨z, hz, hq⟩ := Option.bind_eq_some_iff.mp hq
  refine x_aload_n C 2 dL_lettersIn_0 rfl ?_
  refine x_iconst C dL_lettersIn_1 ?_
  refine x_aload_n C 0 dL_lettersIn_2 rfl ?_
  refine x_iload_n C 1 dL_lettersIn_3 rfl ?_
  refine x_lcallI (mc' := 1) (ms' := 6) (rm := rmv 6 89 1 6) (K := 9) (o := 1) (As := [iV x1]) (rest := [iV 0, .ref (ad (34))]) (z := z) C hA hR0 mf_X8_lettersIn lk_L_52 rfl (isK_lit hdm rfl rfl) (by decide) ⟨rfl, rfl⟩ ⟨Nat.le_of_ble_eq_true rfl, Nat.le_of_ble_eq_true rfl⟩ rfl rfl (Nat.le_of_ble_eq_true rfl) ⟨by show 0 + 1 ≤ 1; omega, by show 0 + 6 ≤ 6; omega⟩ dL_lettersIn_4 (c_X8_lettersIn g.l g.G hfl hdm hz) (fun k d1 hk hag hn hc1 hc2 => ?_) (fun r d1 hr hag hn hc1 hc2 => ?_)
  · obtain ⟨c, hc, hres⟩ := wrL_r hq hk
    obtain ⟨rfl, rfl⟩ := hnd1_some hc
    refine ⟨12, cat1 C hT exL2 (by decide), fun q => ?_⟩
    refine x_astore_n C dL_lettersIn_12 (by decide) rfl ?_
    refine x_iconst C dL_lettersIn_13 ?_
    exact hR d1 _ _ 1 z.2.2 hag ⟨by rw [hc1]; show 0 + 1 ≤ 1; omega, by rw [hc2]; show 0 + 6 ≤ 6; omega⟩ (by rw [hn]; exact hres) dL_lettersIn_14
  · have hres := wrL_l hq hr
    refine x_i2l C dL_lettersIn_7 ?_
    rw [show ad 34 = d1.ad 34 from agr hag (isK_lit (g := g) (na := na) hdm rfl rfl : isK na g.dm 15 34) (by decide)]
    refine x_last C (isK_lit hdm rfl rfl) (by decide) dL_lettersIn_8 ?_
    refine x_goto (tgt := 15) C dL_lettersIn_9 (by decide) ?_
    refine x_iconst C dL_lettersIn_15 ?_
    exact hR d1 _ _ 0 (sA z.2.2 34 0 (w32 r)) hag ⟨by rw [hc1]; show 0 + 1 ≤ 1; omega, by rw [hc2]; show 0 + 6 ≤ 6; omega⟩ (by rw [hn]; exact hres) dL_lettersIn_16
def p_L_timeWith (x1 : Int) (na : Nat) (w : Wd) : Option (Int × Nat × Wd) := (p_X8_timeWith x1 na w).bind (wrL (hnd1 2) (fun r w => sA w 34 0 (w32 r)))
theorem c_L_timeWith (l : Launch) (G : Gd) (hfl : l.stackTraces = false) {na : Nat} {ad : Nat → Nat} {x1 : Int} {w : Wd} {res : Int × Nat × Wd} (hq : p_L_timeWith x1 na w = some res) : mL l yL_timeWith cL_timeWith 4 [(0, 9, 12, 19)] (rmv 7 110 1 6) G na ad [.ref (ad (1)), iV x1, .ref (ad (34))] w res 1 6 := by
  refine met_L [(0, .ref (ad (1))), (1, iV x1), (2, .ref (ad (34)))] (by decide) (Nat.le_of_ble_eq_true rfl) rfl (fun g d C S hR => ?_)
  obtain ⟨rfl, hR0, rfl, hdm, rfl, hA, hT, hNC⟩ := S
  obtain ⟨z, hz, hq⟩ := Option.bind_eq_some_iff.mp hq
  refine x_aload_n C 2 dL_timeWith_0 rfl ?_
  refine x_iconst C dL_timeWith_1 ?_
  refine x_aload_n C 0 dL_timeWith_2 rfl ?_
  refine x_iload_n C 1 dL_timeWith_3 rfl ?_
  refine x_lcallI (mc' := 1) (ms' := 6) (rm := rmv 6 89 1 6) (K := 9) (o := 1) (As := [iV x1]) (rest := [iV 0, .ref (ad (34))]) (z := z) C hA hR0 mf_X8_timeWith lk_L_55 rfl (isK_lit hdm rfl rfl) (by decide) ⟨rfl, rfl⟩ ⟨Nat.le_of_ble_eq_true rfl, Nat.le_of_ble_eq_true rfl⟩ rfl rfl (Nat.le_of_ble_eq_true rfl) ⟨by show 0 + 1 ≤ 1; omega, by show 0 + 6 ≤ 6; omega⟩ dL_timeWith_4 (c_X8_timeWith g.l g.G hfl hdm hz) (fun k d1 hk hag hn hc1 hc2 => ?_) (fun r d1 hr hag hn hc1 hc2 => ?_)
  · obtain ⟨c, hc, hres⟩ := wrL_r hq hk
    obtain ⟨rfl, rfl⟩ := hnd1_some hc
    refine ⟨12, cat1 C hT exL2 (by decide), fun q => ?_⟩
    refine x_astore_n C dL_timeWith_12 (by decide) rfl ?_
    refine x_iconst C dL_timeWith_13 ?_
    exact hR d1 _ _ 1 z.2.2 hag ⟨by rw [hc1]; show 0 + 1 ≤ 1; omega, by rw [hc2]; show 0 + 6 ≤ 6; omega⟩ (by rw [hn]; exact hres) dL_timeWith_14
  · have hres := wrL_l hq hr
    refine x_i2l C dL_timeWith_7 ?_
    rw [show ad 34 = d1.ad 34 from agr hag (isK_lit (g := g) (na := na) hdm rfl rfl : isK na g.dm 15 34) (by decide)]
    refine x_last C (isK_lit hdm rfl rfl) (by decide) dL_timeWith_8 ?_
    refine x_goto (tgt := 15) C dL_timeWith_9 (by decide) ?_
    refine x_iconst C dL_timeWith_15 ?_
    exact hR d1 _ _ 0 (sA z.2.2 34 0 (w32 r)) hag ⟨by rw [hc1]; show 0 + 1 ≤ 1; omega, by rw [hc2]; show 0 + 6 ≤ 6; omega⟩ (by rw [hn]; exact hres) dL_timeWith_16
def p_L_laidIf (x1 : Int) (x2 : Int) (na : Nat) (w : Wd) : Option (Int × Nat × Wd) := (p_X8_laidIf x1 x2 na w).bind (wrL (hnd1 3) (fun r w => sA w 34 0 (w32 r)))
theorem c_L_laidIf (l : Launch) (G : Gd) (hfl : l.stackTraces = false) {na : Nat} {ad : Nat → Nat} {x1 : Int} {x2 : Int} {w : Wd} {res : Int × Nat × Wd} (hq : p_L_laidIf x1 x2 na w = some res) : mL l yL_laidIf cL_laidIf 5 [(0, 10, 13, 29)] (rmv 9 154 2 12) G na ad [.ref (ad (1)), iV x1, iV x2, .ref (ad (34))] w res 2 12 := by
  refine met_L [(0, .ref (ad (1))), (1, iV x1), (2, iV x2), (3, .ref (ad (34)))] (by decide) (Nat.le_of_ble_eq_true rfl) rfl (fun g d C S hR => ?_)
  obtain ⟨rfl, hR0, rfl, hdm, rfl, hA, hT, hNC⟩ := S
  obtain ⟨z, hz, hq⟩ := Option.bind_eq_some_iff.mp hq
  refine x_aload_n C 3 dL_laidIf_0 rfl ?_
  refine x_iconst C dL_laidIf_1 ?_
  refine x_aload_n C 0 dL_laidIf_2 rfl ?_
  refine x_iload_n C 1 dL_laidIf_3 rfl ?_
  refine x_iload_n C 2 dL_laidIf_4 rfl ?_
  refine x_lcallI (mc' := 2) (ms' := 12) (rm := rmv 8 132 2 12) (K := 9) (o := 1) (As := [iV x1, iV x2]) (rest := [iV 0, .ref (ad (34))]) (z := z) C hA hR0 mf_X8_laidIf lk_L_58 rfl (isK_lit hdm rfl rfl) (by decide) ⟨rfl, rfl⟩ ⟨Nat.le_of_ble_eq_true rfl, Nat.le_of_ble_eq_true rfl⟩ rfl rfl (Nat.le_of_ble_eq_true rfl) ⟨by show 0 + 2 ≤ 2; omega, by show 0 + 12 ≤ 12; omega⟩ dL_laidIf_5 (c_X8_laidIf g.l g.G hfl hdm hz) (fun k d1 hk hag hn hc1 hc2 => ?_) (fun r d1 hr hag hn hc1 hc2 => ?_)
  · obtain ⟨c, hc, hres⟩ := wrL_r hq hk
    obtain ⟨rfl, rfl⟩ := hnd1_some hc
    refine ⟨13, cat1 C hT exL3 (by decide), fun q => ?_⟩
    refine x_astore C dL_laidIf_13 (by decide) rfl ?_
    refine x_iconst C dL_laidIf_15 ?_
    exact hR d1 _ _ 1 z.2.2 hag ⟨by rw [hc1]; show 0 + 2 ≤ 2; omega, by rw [hc2]; show 0 + 12 ≤ 12; omega⟩ (by rw [hn]; exact hres) dL_laidIf_16
  · have hres := wrL_l hq hr
    refine x_i2l C dL_laidIf_8 ?_
    rw [show ad 34 = d1.ad 34 from agr hag (isK_lit (g := g) (na := na) hdm rfl rfl : isK na g.dm 15 34) (by decide)]
    refine x_last C (isK_lit hdm rfl rfl) (by decide) dL_laidIf_9 ?_
    refine x_goto (tgt := 17) C dL_laidIf_10 (by decide) ?_
    refine x_iconst C dL_laidIf_17 ?_
    exact hR d1 _ _ 0 (sA z.2.2 34 0 (w32 r)) hag ⟨by rw [hc1]; show 0 + 2 ≤ 2; omega, by rw [hc2]; show 0 + 12 ≤ 12; omega⟩ (by rw [hn]; exact hres) dL_laidIf_18
def p_L_laidWith (x1 : Int) (na : Nat) (w : Wd) : Option (Int × Nat × Wd) := (p_X8_laidWith x1 na w).bind (wrL (hnd1 2) (fun r w => sA w 34 0 (w32 r)))
theorem c_L_laidWith (l : Launch) (G : Gd) (hfl : l.stackTraces = false) {na : Nat} {ad : Nat → Nat} {x1 : Int} {w : Wd} {res : Int × Nat × Wd} (hq : p_L_laidWith x1 na w = some res) : mL l yL_laidWith cL_laidWith 4 [(0, 9, 12, 19)] (rmv 8 140 1 6) G na ad [.ref (ad (1)), iV x1, .ref (ad (34))] w res 1 6 := by
  refine met_L [(0, .ref (ad (1))), (1, iV x1), (2, .ref (ad (34)))] (by decide) (Nat.le_of_ble_eq_true rfl) rfl (fun g d C S hR => ?_)
  obtain ⟨rfl, hR0, rfl, hdm, rfl, hA, hT, hNC⟩ := S
  obtain ⟨z, hz, hq⟩ := Option.bind_eq_some_iff.mp hq
  refine x_aload_n C 2 dL_laidWith_0 rfl ?_
  refine x_iconst C dL_laidWith_1 ?_
  refine x_aload_n C 0 dL_laidWith_2 rfl ?_
  refine x_iload_n C 1 dL_laidWith_3 rfl ?_
  refine x_lcallI (mc' := 1) (ms' := 6) (rm := rmv 7 119 1 6) (K := 9) (o := 1) (As := [iV x1]) (rest := [iV 0, .ref (ad (34))]) (z := z) C hA hR0 mf_X8_laidWith lk_L_61 rfl (isK_lit hdm rfl rfl) (by decide) ⟨rfl, rfl⟩ ⟨Nat.le_of_ble_eq_true rfl, Nat.le_of_ble_eq_true rfl⟩ rfl rfl (Nat.le_of_ble_eq_true rfl) ⟨by show 0 + 1 ≤ 1; omega, by show 0 + 6 ≤ 6; omega⟩ dL_laidWith_4 (c_X8_laidWith g.l g.G hfl hdm hz) (fun k d1 hk hag hn hc1 hc2 => ?_) (fun r d1 hr hag hn hc1 hc2 => ?_)
  · obtain ⟨c, hc, hres⟩ := wrL_r hq hk
    obtain ⟨rfl, rfl⟩ := hnd1_some hc
    refine ⟨12, cat1 C hT exL2 (by decide), fun q => ?_⟩
    refine x_astore_n C dL_laidWith_12 (by decide) rfl ?_
    refine x_iconst C dL_laidWith_13 ?_
    exact hR d1 _ _ 1 z.2.2 hag ⟨by rw [hc1]; show 0 + 1 ≤ 1; omega, by rw [hc2]; show 0 + 6 ≤ 6; omega⟩ (by rw [hn]; exact hres) dL_laidWith_14
  · have hres := wrL_l hq hr
    refine x_i2l C dL_laidWith_7 ?_
    rw [show ad 34 = d1.ad 34 from agr hag (isK_lit (g := g) (na := na) hdm rfl rfl : isK na g.dm 15 34) (by decide)]
    refine x_last C (isK_lit hdm rfl rfl) (by decide) dL_laidWith_8 ?_
    refine x_goto (tgt := 15) C dL_laidWith_9 (by decide) ?_
    refine x_iconst C dL_laidWith_15 ?_
    exact hR d1 _ _ 0 (sA z.2.2 34 0 (w32 r)) hag ⟨by rw [hc1]; show 0 + 1 ≤ 1; omega, by rw [hc2]; show 0 + 6 ≤ 6; omega⟩ (by rw [hn]; exact hres) dL_laidWith_16
def p_L_laidBut (x1 : Int) (na : Nat) (w : Wd) : Option (Int × Nat × Wd) := (p_X8_laidBut x1 na w).bind (wrL (hnd1 3) (fun r w => sA w 34 0 (w32 r)))
theorem c_L_laidBut (l : Launch) (G : Gd) (hfl : l.stackTraces = false) {na : Nat} {ad : Nat → Nat} {x1 : Int} {w : Wd} {res : Int × Nat × Wd} (hq : p_L_laidBut x1 na w = some res) : mL l yL_laidBut cL_laidBut 4 [(0, 9, 12, 29)] (rmv 8 140 1 6) G na ad [.ref (ad (1)), iV x1, .ref (ad (34))] w res 1 6 := by
  refine met_L [(0, .ref (ad (1))), (1, iV x1), (2, .ref (ad (34)))] (by decide) (Nat.le_of_ble_eq_true rfl) rfl (fun g d C S hR => ?_)
  obtain ⟨rfl, hR0, rfl, hdm, rfl, hA, hT, hNC⟩ := S
  obtain ⟨z, hz, hq⟩ := Option.bind_eq_some_iff.mp hq
  refine x_aload_n C 2 dL_laidBut_0 rfl ?_
  refine x_iconst C dL_laidBut_1 ?_
  refine x_aload_n C 0 dL_laidBut_2 rfl ?_
  refine x_iload_n C 1 dL_laidBut_3 rfl ?_
  refine x_lcallI (mc' := 1) (ms' := 6) (rm := rmv 7 119 1 6) (K := 9) (o := 1) (As := [iV x1]) (rest := [iV 0, .ref (ad (34))]) (z := z) C hA hR0 mf_X8_laidBut lk_L_64 rfl (isK_lit hdm rfl rfl) (by decide) ⟨rfl, rfl⟩ ⟨Nat.le_of_ble_eq_true rfl, Nat.le_of_ble_eq_true rfl⟩ rfl rfl (Nat.le_of_ble_eq_true rfl) ⟨by show 0 + 1 ≤ 1; omega, by show 0 + 6 ≤ 6; omega⟩ dL_laidBut_4 (c_X8_laidBut g.l g.G hfl hdm hz) (fun k d1 hk hag hn hc1 hc2 => ?_) (fun r d1 hr hag hn hc1 hc2 => ?_)
  · obtain ⟨c, hc, hres⟩ := wrL_r hq hk
    obtain ⟨rfl, rfl⟩ := hnd1_some hc
    refine ⟨12, cat1 C hT exL3 (by decide), fun q => ?_⟩
    refine x_astore_n C dL_laidBut_12 (by decide) rfl ?_
    refine x_iconst C dL_laidBut_13 ?_
    exact hR d1 _ _ 1 z.2.2 hag ⟨by rw [hc1]; show 0 + 1 ≤ 1; omega, by rw [hc2]; show 0 + 6 ≤ 6; omega⟩ (by rw [hn]; exact hres) dL_laidBut_14
  · have hres := wrL_l hq hr
    refine x_i2l C dL_laidBut_7 ?_
    rw [show ad 34 = d1.ad 34 from agr hag (isK_lit (g := g) (na := na) hdm rfl rfl : isK na g.dm 15 34) (by decide)]
    refine x_last C (isK_lit hdm rfl rfl) (by decide) dL_laidBut_8 ?_
    refine x_goto (tgt := 15) C dL_laidBut_9 (by decide) ?_
    refine x_iconst C dL_laidBut_15 ?_
    exact hR d1 _ _ 0 (sA z.2.2 34 0 (w32 r)) hag ⟨by rw [hc1]; show 0 + 1 ≤ 1; omega, by rw [hc2]; show 0 + 6 ≤ 6; omega⟩ (by rw [hn]; exact hres) dL_laidBut_16
def p_L_bestPlace (x1 : Int) (na : Nat) (w : Wd) : Option (Int × Nat × Wd) := (p_X8_bestPlace x1 na w).bind (wrL (hnd1 3) (fun r w => sA w 34 0 (w32 r)))
theorem c_L_bestPlace (l : Launch) (G : Gd) (hfl : l.stackTraces = false) {na : Nat} {ad : Nat → Nat} {x1 : Int} {w : Wd} {res : Int × Nat × Wd} (hq : p_L_bestPlace x1 na w = some res) : mL l yL_bestPlace cL_bestPlace 4 [(0, 9, 12, 29)] (rmv 8 144 1 6) G na ad [.ref (ad (1)), iV x1, .ref (ad (34))] w res 1 6 := by
  refine met_L [(0, .ref (ad (1))), (1, iV x1), (2, .ref (ad (34)))] (by decide) (Nat.le_of_ble_eq_true rfl) rfl (fun g d C S hR => ?_)
  obtain ⟨rfl, hR0, rfl, hdm, rfl, hA, hT, hNC⟩ := S
  obtain ⟨z, hz, hq⟩ := Option.bind_eq_some_iff.mp hq
  refine x_aload_n C 2 dL_bestPlace_0 rfl ?_
  refine x_iconst C dL_bestPlace_1 ?_
  refine x_aload_n C 0 dL_bestPlace_2 rfl ?_
  refine x_iload_n C 1 dL_bestPlace_3 rfl ?_
  refine x_lcallI (mc' := 1) (ms' := 6) (rm := rmv 7 119 1 6) (K := 9) (o := 1) (As := [iV x1]) (rest := [iV 0, .ref (ad (34))]) (z := z) C hA hR0 mf_X8_bestPlace lk_L_67 rfl (isK_lit hdm rfl rfl) (by decide) ⟨rfl, rfl⟩ ⟨Nat.le_of_ble_eq_true rfl, Nat.le_of_ble_eq_true rfl⟩ rfl rfl (Nat.le_of_ble_eq_true rfl) ⟨by show 0 + 1 ≤ 1; omega, by show 0 + 6 ≤ 6; omega⟩ dL_bestPlace_4 (c_X8_bestPlace g.l g.G hfl hdm hz) (fun k d1 hk hag hn hc1 hc2 => ?_) (fun r d1 hr hag hn hc1 hc2 => ?_)
  · obtain ⟨c, hc, hres⟩ := wrL_r hq hk
    obtain ⟨rfl, rfl⟩ := hnd1_some hc
    refine ⟨12, cat1 C hT exL3 (by decide), fun q => ?_⟩
    refine x_astore_n C dL_bestPlace_12 (by decide) rfl ?_
    refine x_iconst C dL_bestPlace_13 ?_
    exact hR d1 _ _ 1 z.2.2 hag ⟨by rw [hc1]; show 0 + 1 ≤ 1; omega, by rw [hc2]; show 0 + 6 ≤ 6; omega⟩ (by rw [hn]; exact hres) dL_bestPlace_14
  · have hres := wrL_l hq hr
    refine x_i2l C dL_bestPlace_7 ?_
    rw [show ad 34 = d1.ad 34 from agr hag (isK_lit (g := g) (na := na) hdm rfl rfl : isK na g.dm 15 34) (by decide)]
    refine x_last C (isK_lit hdm rfl rfl) (by decide) dL_bestPlace_8 ?_
    refine x_goto (tgt := 15) C dL_bestPlace_9 (by decide) ?_
    refine x_iconst C dL_bestPlace_15 ?_
    exact hR d1 _ _ 0 (sA z.2.2 34 0 (w32 r)) hag ⟨by rw [hc1]; show 0 + 1 ≤ 1; omega, by rw [hc2]; show 0 + 6 ≤ 6; omega⟩ (by rw [hn]; exact hres) dL_bestPlace_16
def p_L_addPart (x1 : Int) (na : Nat) (w : Wd) : Option (Int × Nat × Wd) := (p_X8_addPart x1 na w).bind (wrL (hnd2 2 1) (fun r w => sA w 34 0 (w32 r)))
theorem c_L_addPart (l : Launch) (G : Gd) (hfl : l.stackTraces = false) {na : Nat} {ad : Nat → Nat} {x1 : Int} {w : Wd} {res : Int × Nat × Wd} (hq : p_L_addPart x1 na w = some res) : mL l yL_addPart cL_addPart 4 [(0, 9, 12, 19), (0, 9, 15, 13)] (rmv 7 161 12 834) G na ad [.ref (ad (1)), iV x1, .ref (ad (34))] w res 12 834 := by
  refine met_L [(0, .ref (ad (1))), (1, iV x1), (2, .ref (ad (34)))] (by decide) (Nat.le_of_ble_eq_true rfl) rfl (fun g d C S hR => ?_)
  obtain ⟨rfl, hR0, rfl, hdm, rfl, hA, hT, hNC⟩ := S
  obtain ⟨z, hz, hq⟩ := Option.bind_eq_some_iff.mp hq
  refine x_aload_n C 2 dL_addPart_0 rfl ?_
  refine x_iconst C dL_addPart_1 ?_
  refine x_aload_n C 0 dL_addPart_2 rfl ?_
  refine x_iload_n C 1 dL_addPart_3 rfl ?_
  refine x_lcallI (mc' := 12) (ms' := 834) (rm := rmv 6 139 12 834) (K := 9) (o := 1) (As := [iV x1]) (rest := [iV 0, .ref (ad (34))]) (z := z) C hA hR0 mf_X8_addPart lk_L_70 rfl (isK_lit hdm rfl rfl) (by decide) ⟨rfl, rfl⟩ ⟨Nat.le_of_ble_eq_true rfl, Nat.le_of_ble_eq_true rfl⟩ rfl rfl (Nat.le_of_ble_eq_true rfl) ⟨by show 0 + 12 ≤ 12; omega, by show 0 + 834 ≤ 834; omega⟩ dL_addPart_4 (c_X8_addPart g.l g.G hfl hdm hz) (fun k d1 hk hag hn hc1 hc2 => ?_) (fun r d1 hr hag hn hc1 hc2 => ?_)
  · obtain ⟨c, hc, hres⟩ := wrL_r hq hk
    rcases hnd2_some hc with ⟨rfl, rfl⟩ | ⟨rfl, rfl⟩
    · refine ⟨12, cat1 C hT exL2 (by decide), fun q => ?_⟩
      refine x_astore_n C dL_addPart_12 (by decide) rfl ?_
      refine x_iconst C dL_addPart_13 ?_
      exact hR d1 _ _ 1 z.2.2 hag ⟨by rw [hc1]; show 0 + 12 ≤ 12; omega, by rw [hc2]; show 0 + 834 ≤ 834; omega⟩ (by rw [hn]; exact hres) dL_addPart_14
    · refine ⟨15, cat2 C hT exL2 exL1 hNC.2.1 (by decide), fun q => ?_⟩
      refine x_astore_n C dL_addPart_15 (by decide) rfl ?_
      refine x_iconst C dL_addPart_16 ?_
      exact hR d1 _ _ 2 z.2.2 hag ⟨by rw [hc1]; show 0 + 12 ≤ 12; omega, by rw [hc2]; show 0 + 834 ≤ 834; omega⟩ (by rw [hn]; exact hres) dL_addPart_17
  · have hres := wrL_l hq hr
    refine x_i2l C dL_addPart_7 ?_
    rw [show ad 34 = d1.ad 34 from agr hag (isK_lit (g := g) (na := na) hdm rfl rfl : isK na g.dm 15 34) (by decide)]
    refine x_last C (isK_lit hdm rfl rfl) (by decide) dL_addPart_8 ?_
    refine x_goto (tgt := 18) C dL_addPart_9 (by decide) ?_
    refine x_iconst C dL_addPart_18 ?_
    exact hR d1 _ _ 0 (sA z.2.2 34 0 (w32 r)) hag ⟨by rw [hc1]; show 0 + 12 ≤ 12; omega, by rw [hc2]; show 0 + 834 ≤ 834; omega⟩ (by rw [hn]; exact hres) dL_addPart_19
def p_L_dropPart (x1 : Int) (na : Nat) (w : Wd) : Option (Int × Nat × Wd) := (p_X8_dropPart x1 na w).bind (wrL (hnd2 3 1) (fun r w => sA w 34 0 (w32 r)))
theorem c_L_dropPart (l : Launch) (G : Gd) (hfl : l.stackTraces = false) {na : Nat} {ad : Nat → Nat} {x1 : Int} {w : Wd} {res : Int × Nat × Wd} (hq : p_L_dropPart x1 na w = some res) : mL l yL_dropPart cL_dropPart 4 [(0, 9, 12, 29), (0, 9, 15, 13)] (rmv 8 160 14 846) G na ad [.ref (ad (1)), iV x1, .ref (ad (34))] w res 14 846 := by
  refine met_L [(0, .ref (ad (1))), (1, iV x1), (2, .ref (ad (34)))] (by decide) (Nat.le_of_ble_eq_true rfl) rfl (fun g d C S hR => ?_)
  obtain ⟨rfl, hR0, rfl, hdm, rfl, hA, hT, hNC⟩ := S
  obtain ⟨z, hz, hq⟩ := Option.bind_eq_some_iff.mp hq
  refine x_aload_n C 2 dL_dropPart_0 rfl ?_
  refine x_iconst C dL_dropPart_1 ?_
  refine x_aload_n C 0 dL_dropPart_2 rfl ?_
  refine x_iload_n C 1 dL_dropPart_3 rfl ?_
  refine x_lcallI (mc' := 14) (ms' := 846) (rm := rmv 7 139 14 846) (K := 9) (o := 1) (As := [iV x1]) (rest := [iV 0, .ref (ad (34))]) (z := z) C hA hR0 mf_X8_dropPart lk_L_73 rfl (isK_lit hdm rfl rfl) (by decide) ⟨rfl, rfl⟩ ⟨Nat.le_of_ble_eq_true rfl, Nat.le_of_ble_eq_true rfl⟩ rfl rfl (Nat.le_of_ble_eq_true rfl) ⟨by show 0 + 14 ≤ 14; omega, by show 0 + 846 ≤ 846; omega⟩ dL_dropPart_4 (c_X8_dropPart g.l g.G hfl hdm hz) (fun k d1 hk hag hn hc1 hc2 => ?_) (fun r d1 hr hag hn hc1 hc2 => ?_)
  · obtain ⟨c, hc, hres⟩ := wrL_r hq hk
    rcases hnd2_some hc with ⟨rfl, rfl⟩ | ⟨rfl, rfl⟩
    · refine ⟨12, cat1 C hT exL3 (by decide), fun q => ?_⟩
      refine x_astore_n C dL_dropPart_12 (by decide) rfl ?_
      refine x_iconst C dL_dropPart_13 ?_
      exact hR d1 _ _ 1 z.2.2 hag ⟨by rw [hc1]; show 0 + 14 ≤ 14; omega, by rw [hc2]; show 0 + 846 ≤ 846; omega⟩ (by rw [hn]; exact hres) dL_dropPart_14
    · refine ⟨15, cat2 C hT exL3 exL1 hNC.2.2 (by decide), fun q => ?_⟩
      refine x_astore_n C dL_dropPart_15 (by decide) rfl ?_
      refine x_iconst C dL_dropPart_16 ?_
      exact hR d1 _ _ 2 z.2.2 hag ⟨by rw [hc1]; show 0 + 14 ≤ 14; omega, by rw [hc2]; show 0 + 846 ≤ 846; omega⟩ (by rw [hn]; exact hres) dL_dropPart_17
  · have hres := wrL_l hq hr
    refine x_i2l C dL_dropPart_7 ?_
    rw [show ad 34 = d1.ad 34 from agr hag (isK_lit (g := g) (na := na) hdm rfl rfl : isK na g.dm 15 34) (by decide)]
    refine x_last C (isK_lit hdm rfl rfl) (by decide) dL_dropPart_8 ?_
    refine x_goto (tgt := 18) C dL_dropPart_9 (by decide) ?_
    refine x_iconst C dL_dropPart_18 ?_
    exact hR d1 _ _ 0 (sA z.2.2 34 0 (w32 r)) hag ⟨by rw [hc1]; show 0 + 14 ≤ 14; omega, by rw [hc2]; show 0 + 846 ≤ 846; omega⟩ (by rw [hn]; exact hres) dL_dropPart_19
def p_L_movePart (x1 : Int) (x2 : Int) (na : Nat) (w : Wd) : Option (Int × Nat × Wd) := (p_X8_movePart x1 x2 na w).bind (wrL (hnd2 3 1) (fun r w => sA w 34 0 (w32 r)))
theorem c_L_movePart (l : Launch) (G : Gd) (hfl : l.stackTraces = false) {na : Nat} {ad : Nat → Nat} {x1 : Int} {x2 : Int} {w : Wd} {res : Int × Nat × Wd} (hq : p_L_movePart x1 x2 na w = some res) : mL l yL_movePart cL_movePart 5 [(0, 10, 13, 29), (0, 10, 17, 13)] (rmv 8 161 15 852) G na ad [.ref (ad (1)), iV x1, iV x2, .ref (ad (34))] w res 15 852 := by
  refine met_L [(0, .ref (ad (1))), (1, iV x1), (2, iV x2), (3, .ref (ad (34)))] (by decide) (Nat.le_of_ble_eq_true rfl) rfl (fun g d C S hR => ?_)
  obtain ⟨rfl, hR0, rfl, hdm, rfl, hA, hT, hNC⟩ := S
  obtain ⟨z, hz, hq⟩ := Option.bind_eq_some_iff.mp hq
  refine x_aload_n C 3 dL_movePart_0 rfl ?_
  refine x_iconst C dL_movePart_1 ?_
  refine x_aload_n C 0 dL_movePart_2 rfl ?_
  refine x_iload_n C 1 dL_movePart_3 rfl ?_
  refine x_iload_n C 2 dL_movePart_4 rfl ?_
  refine x_lcallI (mc' := 15) (ms' := 852) (rm := rmv 7 139 15 852) (K := 9) (o := 1) (As := [iV x1, iV x2]) (rest := [iV 0, .ref (ad (34))]) (z := z) C hA hR0 mf_X8_movePart lk_L_76 rfl (isK_lit hdm rfl rfl) (by decide) ⟨rfl, rfl⟩ ⟨Nat.le_of_ble_eq_true rfl, Nat.le_of_ble_eq_true rfl⟩ rfl rfl (Nat.le_of_ble_eq_true rfl) ⟨by show 0 + 15 ≤ 15; omega, by show 0 + 852 ≤ 852; omega⟩ dL_movePart_5 (c_X8_movePart g.l g.G hfl hdm hz) (fun k d1 hk hag hn hc1 hc2 => ?_) (fun r d1 hr hag hn hc1 hc2 => ?_)
  · obtain ⟨c, hc, hres⟩ := wrL_r hq hk
    rcases hnd2_some hc with ⟨rfl, rfl⟩ | ⟨rfl, rfl⟩
    · refine ⟨13, cat1 C hT exL3 (by decide), fun q => ?_⟩
      refine x_astore C dL_movePart_13 (by decide) rfl ?_
      refine x_iconst C dL_movePart_15 ?_
      exact hR d1 _ _ 1 z.2.2 hag ⟨by rw [hc1]; show 0 + 15 ≤ 15; omega, by rw [hc2]; show 0 + 852 ≤ 852; omega⟩ (by rw [hn]; exact hres) dL_movePart_16
    · refine ⟨17, cat2 C hT exL3 exL1 hNC.2.2 (by decide), fun q => ?_⟩
      refine x_astore C dL_movePart_17 (by decide) rfl ?_
      refine x_iconst C dL_movePart_19 ?_
      exact hR d1 _ _ 2 z.2.2 hag ⟨by rw [hc1]; show 0 + 15 ≤ 15; omega, by rw [hc2]; show 0 + 852 ≤ 852; omega⟩ (by rw [hn]; exact hres) dL_movePart_20
  · have hres := wrL_l hq hr
    refine x_i2l C dL_movePart_8 ?_
    rw [show ad 34 = d1.ad 34 from agr hag (isK_lit (g := g) (na := na) hdm rfl rfl : isK na g.dm 15 34) (by decide)]
    refine x_last C (isK_lit hdm rfl rfl) (by decide) dL_movePart_9 ?_
    refine x_goto (tgt := 21) C dL_movePart_10 (by decide) ?_
    refine x_iconst C dL_movePart_21 ?_
    exact hR d1 _ _ 0 (sA z.2.2 34 0 (w32 r)) hag ⟨by rw [hc1]; show 0 + 15 ≤ 15; omega, by rw [hc2]; show 0 + 852 ≤ 852; omega⟩ (by rw [hn]; exact hres) dL_movePart_22
def p_L_setFlaw (x1 : Int) (x2 : Int) (x3 : Int) (na : Nat) (w : Wd) : Option (Int × Nat × Wd) := (p_X8_setFlaw x1 x2 x3 na w).bind (wrL (hnd2 3 1) (fun r w => if eq32 r 0 = true then sA w 34 0 0 else sA w 34 0 1))
theorem c_L_setFlaw (l : Launch) (G : Gd) (hfl : l.stackTraces = false) {na : Nat} {ad : Nat → Nat} {x1 : Int} {x2 : Int} {x3 : Int} {w : Wd} {res : Int × Nat × Wd} (hq : p_L_setFlaw x1 x2 x3 na w = some res) : mL l yL_setFlaw cL_setFlaw 6 [(0, 19, 22, 29), (0, 19, 26, 13)] (rmv 9 163 15 852) G na ad [.ref (ad (1)), iV x1, iV x2, iV x3, .ref (ad (34))] w res 15 852 := by
  refine met_L [(0, .ref (ad (1))), (1, iV x1), (2, iV x2), (3, iV x3), (4, .ref (ad (34)))] (by decide) (Nat.le_of_ble_eq_true rfl) rfl (fun g d C S hR => ?_)
  obtain ⟨rfl, hR0, rfl, hdm, rfl, hA, hT, hNC⟩ := S
  obtain ⟨z, hz, hq⟩ := Option.bind_eq_some_iff.mp hq
  refine x_aload C 4 dL_setFlaw_0 rfl ?_
  refine x_iconst C dL_setFlaw_2 ?_
  refine x_aload_n C 0 dL_setFlaw_3 rfl ?_
  refine x_iload_n C 1 dL_setFlaw_4 rfl ?_
  refine x_iload_n C 2 dL_setFlaw_5 rfl ?_
  refine x_iload_n C 3 dL_setFlaw_6 rfl ?_
  refine x_lcallI (mc' := 15) (ms' := 852) (rm := rmv 8 139 15 852) (K := 9) (o := 1) (As := [iV x1, iV x2, iV x3]) (rest := [iV 0, .ref (ad (34))]) (z := z) C hA hR0 mf_X8_setFlaw lk_L_79 rfl (isK_lit hdm rfl rfl) (by decide) ⟨rfl, rfl⟩ ⟨Nat.le_of_ble_eq_true rfl, Nat.le_of_ble_eq_true rfl⟩ rfl rfl (Nat.le_of_ble_eq_true rfl) ⟨by show 0 + 15 ≤ 15; omega, by show 0 + 852 ≤ 852; omega⟩ dL_setFlaw_7 (c_X8_setFlaw g.l g.G hfl hdm hz) (fun k d1 hk hag hn hc1 hc2 => ?_) (fun r d1 hr hag hn hc1 hc2 => ?_)
  · obtain ⟨c, hc, hres⟩ := wrL_r hq hk
    rcases hnd2_some hc with ⟨rfl, rfl⟩ | ⟨rfl, rfl⟩
    · refine ⟨22, cat1 C hT exL3 (by decide), fun q => ?_⟩
      refine x_astore C dL_setFlaw_22 (by decide) rfl ?_
      refine x_iconst C dL_setFlaw_24 ?_
      exact hR d1 _ _ 1 z.2.2 hag ⟨by rw [hc1]; show 0 + 15 ≤ 15; omega, by rw [hc2]; show 0 + 852 ≤ 852; omega⟩ (by rw [hn]; exact hres) dL_setFlaw_25
    · refine ⟨26, cat2 C hT exL3 exL1 hNC.2.2 (by decide), fun q => ?_⟩
      refine x_astore C dL_setFlaw_26 (by decide) rfl ?_
      refine x_iconst C dL_setFlaw_28 ?_
      exact hR d1 _ _ 2 z.2.2 hag ⟨by rw [hc1]; show 0 + 15 ≤ 15; omega, by rw [hc2]; show 0 + 852 ≤ 852; omega⟩ (by rw [hn]; exact hres) dL_setFlaw_29
  · have hres := wrL_l hq hr
    rw [show ad 34 = d1.ad 34 from agr hag (isK_lit (g := g) (na := na) hdm rfl rfl : isK na g.dm 15 34) (by decide)]
    refine x_if_eq (tgt := 17) (P1 := some (0, z.2.1, sA z.2.2 34 0 0)) (P2 := some (0, z.2.1, sA z.2.2 34 0 1)) (z := res) C dL_setFlaw_10 (by decide) (by rw [← hres]; split <;> rfl) (fun h => ?_) (fun h => ?_)
    · have hres := Option.some.inj h
      refine x_lconst C dL_setFlaw_17 ?_
      refine x_last C (isK_lit hdm rfl rfl) (by decide) dL_setFlaw_18 ?_
      refine x_goto (tgt := 30) C dL_setFlaw_19 (by decide) ?_
      refine x_iconst C dL_setFlaw_30 ?_
      exact hR d1 _ _ 0 (sA z.2.2 34 0 0) hag ⟨by rw [hc1]; show 0 + 15 ≤ 15; omega, by rw [hc2]; show 0 + 852 ≤ 852; omega⟩ (by rw [hn]; exact hres) dL_setFlaw_31
    · have hres := Option.some.inj h
      refine x_lconst C dL_setFlaw_13 ?_
      refine x_goto (tgt := 18) C dL_setFlaw_14 (by decide) ?_
      refine x_last C (isK_lit hdm rfl rfl) (by decide) dL_setFlaw_18 ?_
      refine x_goto (tgt := 30) C dL_setFlaw_19 (by decide) ?_
      refine x_iconst C dL_setFlaw_30 ?_
      exact hR d1 _ _ 0 (sA z.2.2 34 0 1) hag ⟨by rw [hc1]; show 0 + 15 ≤ 15; omega, by rw [hc2]; show 0 + 852 ≤ 852; omega⟩ (by rw [hn]; exact hres) dL_setFlaw_31
def p_L_setGap (x1 : Int) (na : Nat) (w : Wd) : Option (Int × Nat × Wd) := (p_X8_setGap x1 na w).bind (wrL (hnd2 2 1) (fun r w => sA w 34 0 (w32 r)))
theorem c_L_setGap (l : Launch) (G : Gd) (hfl : l.stackTraces = false) {na : Nat} {ad : Nat → Nat} {x1 : Int} {w : Wd} {res : Int × Nat × Wd} (hq : p_L_setGap x1 na w = some res) : mL l yL_setGap cL_setGap 4 [(0, 9, 12, 19), (0, 9, 15, 13)] (rmv 8 161 14 846) G na ad [.ref (ad (1)), iV x1, .ref (ad (34))] w res 14 846 := by
  refine met_L [(0, .ref (ad (1))), (1, iV x1), (2, .ref (ad (34)))] (by decide) (Nat.le_of_ble_eq_true rfl) rfl (fun g d C S hR => ?_)
  obtain ⟨rfl, hR0, rfl, hdm, rfl, hA, hT, hNC⟩ := S
  obtain ⟨z, hz, hq⟩ := Option.bind_eq_some_iff.mp hq
  refine x_aload_n C 2 dL_setGap_0 rfl ?_
  refine x_iconst C dL_setGap_1 ?_
  refine x_aload_n C 0 dL_setGap_2 rfl ?_
  refine x_iload_n C 1 dL_setGap_3 rfl ?_
  refine x_lcallI (mc' := 14) (ms' := 846) (rm := rmv 7 139 14 846) (K := 9) (o := 1) (As := [iV x1]) (rest := [iV 0, .ref (ad (34))]) (z := z) C hA hR0 mf_X8_setGap lk_L_83 rfl (isK_lit hdm rfl rfl) (by decide) ⟨rfl, rfl⟩ ⟨Nat.le_of_ble_eq_true rfl, Nat.le_of_ble_eq_true rfl⟩ rfl rfl (Nat.le_of_ble_eq_true rfl) ⟨by show 0 + 14 ≤ 14; omega, by show 0 + 846 ≤ 846; omega⟩ dL_setGap_4 (c_X8_setGap g.l g.G hfl hdm hz) (fun k d1 hk hag hn hc1 hc2 => ?_) (fun r d1 hr hag hn hc1 hc2 => ?_)
  · obtain ⟨c, hc, hres⟩ := wrL_r hq hk
    rcases hnd2_some hc with ⟨rfl, rfl⟩ | ⟨rfl, rfl⟩
    · refine ⟨12, cat1 C hT exL2 (by decide), fun q => ?_⟩
      refine x_astore_n C dL_setGap_12 (by decide) rfl ?_
      refine x_iconst C dL_setGap_13 ?_
      exact hR d1 _ _ 1 z.2.2 hag ⟨by rw [hc1]; show 0 + 14 ≤ 14; omega, by rw [hc2]; show 0 + 846 ≤ 846; omega⟩ (by rw [hn]; exact hres) dL_setGap_14
    · refine ⟨15, cat2 C hT exL2 exL1 hNC.2.1 (by decide), fun q => ?_⟩
      refine x_astore_n C dL_setGap_15 (by decide) rfl ?_
      refine x_iconst C dL_setGap_16 ?_
      exact hR d1 _ _ 2 z.2.2 hag ⟨by rw [hc1]; show 0 + 14 ≤ 14; omega, by rw [hc2]; show 0 + 846 ≤ 846; omega⟩ (by rw [hn]; exact hres) dL_setGap_17
  · have hres := wrL_l hq hr
    refine x_i2l C dL_setGap_7 ?_
    rw [show ad 34 = d1.ad 34 from agr hag (isK_lit (g := g) (na := na) hdm rfl rfl : isK na g.dm 15 34) (by decide)]
    refine x_last C (isK_lit hdm rfl rfl) (by decide) dL_setGap_8 ?_
    refine x_goto (tgt := 18) C dL_setGap_9 (by decide) ?_
    refine x_iconst C dL_setGap_18 ?_
    exact hR d1 _ _ 0 (sA z.2.2 34 0 (w32 r)) hag ⟨by rw [hc1]; show 0 + 14 ≤ 14; omega, by rw [hc2]; show 0 + 846 ≤ 846; omega⟩ (by rw [hn]; exact hres) dL_setGap_19
def p_L_turnSlab  (na : Nat) (w : Wd) : Option (Int × Nat × Wd) := (p_X8_turnSlab  na w).bind (wrL (hnd1 1) (fun r w => sA w 34 0 (w32 r)))
theorem c_L_turnSlab (l : Launch) (G : Gd) (hfl : l.stackTraces = false) {na : Nat} {ad : Nat → Nat}  {w : Wd} {res : Int × Nat × Wd} (hq : p_L_turnSlab  na w = some res) : mL l yL_turnSlab cL_turnSlab 3 [(0, 8, 11, 13)] (rmv 7 159 12 834) G na ad [.ref (ad (1)), .ref (ad (34))] w res 12 834 := by
  refine met_L [(0, .ref (ad (1))), (1, .ref (ad (34)))] (by decide) (Nat.le_of_ble_eq_true rfl) rfl (fun g d C S hR => ?_)
  obtain ⟨rfl, hR0, rfl, hdm, rfl, hA, hT, hNC⟩ := S
  obtain ⟨z, hz, hq⟩ := Option.bind_eq_some_iff.mp hq
  refine x_aload_n C 1 dL_turnSlab_0 rfl ?_
  refine x_iconst C dL_turnSlab_1 ?_
  refine x_aload_n C 0 dL_turnSlab_2 rfl ?_
  refine x_lcallI (mc' := 12) (ms' := 834) (rm := rmv 6 139 12 834) (K := 9) (o := 1) (As := []) (rest := [iV 0, .ref (ad (34))]) (z := z) C hA hR0 mf_X8_turnSlab lk_L_86 rfl (isK_lit hdm rfl rfl) (by decide) ⟨rfl, rfl⟩ ⟨Nat.le_of_ble_eq_true rfl, Nat.le_of_ble_eq_true rfl⟩ rfl rfl (Nat.le_of_ble_eq_true rfl) ⟨by show 0 + 12 ≤ 12; omega, by show 0 + 834 ≤ 834; omega⟩ dL_turnSlab_3 (c_X8_turnSlab g.l g.G hfl hdm hz) (fun k d1 hk hag hn hc1 hc2 => ?_) (fun r d1 hr hag hn hc1 hc2 => ?_)
  · obtain ⟨c, hc, hres⟩ := wrL_r hq hk
    obtain ⟨rfl, rfl⟩ := hnd1_some hc
    refine ⟨11, cat1 C hT exL1 (by decide), fun q => ?_⟩
    refine x_astore_n C dL_turnSlab_11 (by decide) rfl ?_
    refine x_iconst C dL_turnSlab_12 ?_
    exact hR d1 _ _ 1 z.2.2 hag ⟨by rw [hc1]; show 0 + 12 ≤ 12; omega, by rw [hc2]; show 0 + 834 ≤ 834; omega⟩ (by rw [hn]; exact hres) dL_turnSlab_13
  · have hres := wrL_l hq hr
    refine x_i2l C dL_turnSlab_6 ?_
    rw [show ad 34 = d1.ad 34 from agr hag (isK_lit (g := g) (na := na) hdm rfl rfl : isK na g.dm 15 34) (by decide)]
    refine x_last C (isK_lit hdm rfl rfl) (by decide) dL_turnSlab_7 ?_
    refine x_goto (tgt := 14) C dL_turnSlab_8 (by decide) ?_
    refine x_iconst C dL_turnSlab_14 ?_
    exact hR d1 _ _ 0 (sA z.2.2 34 0 (w32 r)) hag ⟨by rw [hc1]; show 0 + 12 ≤ 12; omega, by rw [hc2]; show 0 + 834 ≤ 834; omega⟩ (by rw [hn]; exact hres) dL_turnSlab_15
def p_L_cutRows (x1 : Int) (x2 : Int) (na : Nat) (w : Wd) : Option (Int × Nat × Wd) := (p_X8_cutRows x1 x2 na w).bind (wrL (hnd2 2 1) (fun r w => sA w 34 0 (w32 r)))
theorem c_L_cutRows (l : Launch) (G : Gd) (hfl : l.stackTraces = false) {na : Nat} {ad : Nat → Nat} {x1 : Int} {x2 : Int} {w : Wd} {res : Int × Nat × Wd} (hq : p_L_cutRows x1 x2 na w = some res) : mL l yL_cutRows cL_cutRows 5 [(0, 10, 13, 19), (0, 10, 17, 13)] (rmv 8 161 13 840) G na ad [.ref (ad (1)), iV x1, iV x2, .ref (ad (34))] w res 13 840 := by
  refine met_L [(0, .ref (ad (1))), (1, iV x1), (2, iV x2), (3, .ref (ad (34)))] (by decide) (Nat.le_of_ble_eq_true rfl) rfl (fun g d C S hR => ?_)
  obtain ⟨rfl, hR0, rfl, hdm, rfl, hA, hT, hNC⟩ := S
  obtain ⟨z, hz, hq⟩ := Option.bind_eq_some_iff.mp hq
  refine x_aload_n C 3 dL_cutRows_0 rfl ?_
  refine x_iconst C dL_cutRows_1 ?_
  refine x_aload_n C 0 dL_cutRows_2 rfl ?_
  refine x_iload_n C 1 dL_cutRows_3 rfl ?_
  refine x_iload_n C 2 dL_cutRows_4 rfl ?_
  refine x_lcallI (mc' := 13) (ms' := 840) (rm := rmv 7 139 13 840) (K := 9) (o := 1) (As := [iV x1, iV x2]) (rest := [iV 0, .ref (ad (34))]) (z := z) C hA hR0 mf_X8_cutRows lk_L_90 rfl (isK_lit hdm rfl rfl) (by decide) ⟨rfl, rfl⟩ ⟨Nat.le_of_ble_eq_true rfl, Nat.le_of_ble_eq_true rfl⟩ rfl rfl (Nat.le_of_ble_eq_true rfl) ⟨by show 0 + 13 ≤ 13; omega, by show 0 + 840 ≤ 840; omega⟩ dL_cutRows_5 (c_X8_cutRows g.l g.G hfl hdm hz) (fun k d1 hk hag hn hc1 hc2 => ?_) (fun r d1 hr hag hn hc1 hc2 => ?_)
  · obtain ⟨c, hc, hres⟩ := wrL_r hq hk
    rcases hnd2_some hc with ⟨rfl, rfl⟩ | ⟨rfl, rfl⟩
    · refine ⟨13, cat1 C hT exL2 (by decide), fun q => ?_⟩
      refine x_astore C dL_cutRows_13 (by decide) rfl ?_
      refine x_iconst C dL_cutRows_15 ?_
      exact hR d1 _ _ 1 z.2.2 hag ⟨by rw [hc1]; show 0 + 13 ≤ 13; omega, by rw [hc2]; show 0 + 840 ≤ 840; omega⟩ (by rw [hn]; exact hres) dL_cutRows_16
    · refine ⟨17, cat2 C hT exL2 exL1 hNC.2.1 (by decide), fun q => ?_⟩
      refine x_astore C dL_cutRows_17 (by decide) rfl ?_
      refine x_iconst C dL_cutRows_19 ?_
      exact hR d1 _ _ 2 z.2.2 hag ⟨by rw [hc1]; show 0 + 13 ≤ 13; omega, by rw [hc2]; show 0 + 840 ≤ 840; omega⟩ (by rw [hn]; exact hres) dL_cutRows_20
  · have hres := wrL_l hq hr
    refine x_i2l C dL_cutRows_8 ?_
    rw [show ad 34 = d1.ad 34 from agr hag (isK_lit (g := g) (na := na) hdm rfl rfl : isK na g.dm 15 34) (by decide)]
    refine x_last C (isK_lit hdm rfl rfl) (by decide) dL_cutRows_9 ?_
    refine x_goto (tgt := 21) C dL_cutRows_10 (by decide) ?_
    refine x_iconst C dL_cutRows_21 ?_
    exact hR d1 _ _ 0 (sA z.2.2 34 0 (w32 r)) hag ⟨by rw [hc1]; show 0 + 13 ≤ 13; omega, by rw [hc2]; show 0 + 840 ≤ 840; omega⟩ (by rw [hn]; exact hres) dL_cutRows_22
def p_L_carve (x1 : Int) (na : Nat) (w : Wd) : Option (Int × Nat × Wd) := (p_X8_carve x1 na w).bind (wrL (hnd1 2) (fun r w => sA w 34 0 (w32 r)))
theorem c_L_carve (l : Launch) (G : Gd) (hfl : l.stackTraces = false) {na : Nat} {ad : Nat → Nat} {x1 : Int} {w : Wd} {res : Int × Nat × Wd} (hq : p_L_carve x1 na w = some res) : mL l yL_carve cL_carve 4 [(0, 9, 12, 19)] (rmv 7 163 12 834) G na ad [.ref (ad (1)), iV x1, .ref (ad (34))] w res 12 834 := by
  refine met_L [(0, .ref (ad (1))), (1, iV x1), (2, .ref (ad (34)))] (by decide) (Nat.le_of_ble_eq_true rfl) rfl (fun g d C S hR => ?_)
  obtain ⟨rfl, hR0, rfl, hdm, rfl, hA, hT, hNC⟩ := S
  obtain ⟨z, hz, hq⟩ := Option.bind_eq_some_iff.mp hq
  refine x_aload_n C 2 dL_carve_0 rfl ?_
  refine x_iconst C dL_carve_1 ?_
  refine x_aload_n C 0 dL_carve_2 rfl ?_
  refine x_iload_n C 1 dL_carve_3 rfl ?_
  refine x_lcallI (mc' := 12) (ms' := 834) (rm := rmv 6 139 12 834) (K := 9) (o := 1) (As := [iV x1]) (rest := [iV 0, .ref (ad (34))]) (z := z) C hA hR0 mf_X8_carve lk_L_94 rfl (isK_lit hdm rfl rfl) (by decide) ⟨rfl, rfl⟩ ⟨Nat.le_of_ble_eq_true rfl, Nat.le_of_ble_eq_true rfl⟩ rfl rfl (Nat.le_of_ble_eq_true rfl) ⟨by show 0 + 12 ≤ 12; omega, by show 0 + 834 ≤ 834; omega⟩ dL_carve_4 (c_X8_carve g.l g.G hfl hdm hz) (fun k d1 hk hag hn hc1 hc2 => ?_) (fun r d1 hr hag hn hc1 hc2 => ?_)
  · obtain ⟨c, hc, hres⟩ := wrL_r hq hk
    obtain ⟨rfl, rfl⟩ := hnd1_some hc
    refine ⟨12, cat1 C hT exL2 (by decide), fun q => ?_⟩
    refine x_astore_n C dL_carve_12 (by decide) rfl ?_
    refine x_iconst C dL_carve_13 ?_
    exact hR d1 _ _ 1 z.2.2 hag ⟨by rw [hc1]; show 0 + 12 ≤ 12; omega, by rw [hc2]; show 0 + 834 ≤ 834; omega⟩ (by rw [hn]; exact hres) dL_carve_14
  · have hres := wrL_l hq hr
    refine x_i2l C dL_carve_7 ?_
    rw [show ad 34 = d1.ad 34 from agr hag (isK_lit (g := g) (na := na) hdm rfl rfl : isK na g.dm 15 34) (by decide)]
    refine x_last C (isK_lit hdm rfl rfl) (by decide) dL_carve_8 ?_
    refine x_goto (tgt := 15) C dL_carve_9 (by decide) ?_
    refine x_iconst C dL_carve_15 ?_
    exact hR d1 _ _ 0 (sA z.2.2 34 0 (w32 r)) hag ⟨by rw [hc1]; show 0 + 12 ≤ 12; omega, by rw [hc2]; show 0 + 834 ≤ 834; omega⟩ (by rw [hn]; exact hres) dL_carve_16
def p_L_setChisel (x1 : Int) (x2 : Int) (na : Nat) (w : Wd) : Option (Int × Nat × Wd) := (p_X8_setChisel x1 x2 na w).bind (wrL (hnd1 2) (fun r w => sA w 34 0 (w32 r)))
theorem c_L_setChisel (l : Launch) (G : Gd) (hfl : l.stackTraces = false) {na : Nat} {ad : Nat → Nat} {x1 : Int} {x2 : Int} {w : Wd} {res : Int × Nat × Wd} (hq : p_L_setChisel x1 x2 na w = some res) : mL l yL_setChisel cL_setChisel 5 [(0, 10, 13, 19)] (rmv 7 162 12 834) G na ad [.ref (ad (1)), iV x1, iV x2, .ref (ad (34))] w res 12 834 := by
  refine met_L [(0, .ref (ad (1))), (1, iV x1), (2, iV x2), (3, .ref (ad (34)))] (by decide) (Nat.le_of_ble_eq_true rfl) rfl (fun g d C S hR => ?_)
  obtain ⟨rfl, hR0, rfl, hdm, rfl, hA, hT, hNC⟩ := S
  obtain ⟨z, hz, hq⟩ := Option.bind_eq_some_iff.mp hq
  refine x_aload_n C 3 dL_setChisel_0 rfl ?_
  refine x_iconst C dL_setChisel_1 ?_
  refine x_aload_n C 0 dL_setChisel_2 rfl ?_
  refine x_iload_n C 1 dL_setChisel_3 rfl ?_
  refine x_iload_n C 2 dL_setChisel_4 rfl ?_
  refine x_lcallI (mc' := 12) (ms' := 834) (rm := rmv 6 139 12 834) (K := 9) (o := 1) (As := [iV x1, iV x2]) (rest := [iV 0, .ref (ad (34))]) (z := z) C hA hR0 mf_X8_setChisel lk_L_97 rfl (isK_lit hdm rfl rfl) (by decide) ⟨rfl, rfl⟩ ⟨Nat.le_of_ble_eq_true rfl, Nat.le_of_ble_eq_true rfl⟩ rfl rfl (Nat.le_of_ble_eq_true rfl) ⟨by show 0 + 12 ≤ 12; omega, by show 0 + 834 ≤ 834; omega⟩ dL_setChisel_5 (c_X8_setChisel g.l g.G hfl hdm hz) (fun k d1 hk hag hn hc1 hc2 => ?_) (fun r d1 hr hag hn hc1 hc2 => ?_)
  · obtain ⟨c, hc, hres⟩ := wrL_r hq hk
    obtain ⟨rfl, rfl⟩ := hnd1_some hc
    refine ⟨13, cat1 C hT exL2 (by decide), fun q => ?_⟩
    refine x_astore C dL_setChisel_13 (by decide) rfl ?_
    refine x_iconst C dL_setChisel_15 ?_
    exact hR d1 _ _ 1 z.2.2 hag ⟨by rw [hc1]; show 0 + 12 ≤ 12; omega, by rw [hc2]; show 0 + 834 ≤ 834; omega⟩ (by rw [hn]; exact hres) dL_setChisel_16
  · have hres := wrL_l hq hr
    refine x_i2l C dL_setChisel_8 ?_
    rw [show ad 34 = d1.ad 34 from agr hag (isK_lit (g := g) (na := na) hdm rfl rfl : isK na g.dm 15 34) (by decide)]
    refine x_last C (isK_lit hdm rfl rfl) (by decide) dL_setChisel_9 ?_
    refine x_goto (tgt := 17) C dL_setChisel_10 (by decide) ?_
    refine x_iconst C dL_setChisel_17 ?_
    exact hR d1 _ _ 0 (sA z.2.2 34 0 (w32 r)) hag ⟨by rw [hc1]; show 0 + 12 ≤ 12; omega, by rw [hc2]; show 0 + 834 ≤ 834; omega⟩ (by rw [hn]; exact hres) dL_setChisel_18
def p_L_keep (x1 : Int) (na : Nat) (w : Wd) : Option (Int × Nat × Wd) := (p_X8_keep x1 na w).bind (wrL (hnd1 3) (fun r w => sA w 34 0 (w32 r)))
theorem c_L_keep (l : Launch) (G : Gd) (hfl : l.stackTraces = false) {na : Nat} {ad : Nat → Nat} {x1 : Int} {w : Wd} {res : Int × Nat × Wd} (hq : p_L_keep x1 na w = some res) : mL l yL_keep cL_keep 4 [(0, 9, 12, 29)] (rmv 8 132 13 840) G na ad [.ref (ad (1)), iV x1, .ref (ad (34))] w res 13 840 := by
  refine met_L [(0, .ref (ad (1))), (1, iV x1), (2, .ref (ad (34)))] (by decide) (Nat.le_of_ble_eq_true rfl) rfl (fun g d C S hR => ?_)
  obtain ⟨rfl, hR0, rfl, hdm, rfl, hA, hT, hNC⟩ := S
  obtain ⟨z, hz, hq⟩ := Option.bind_eq_some_iff.mp hq
  refine x_aload_n C 2 dL_keep_0 rfl ?_
  refine x_iconst C dL_keep_1 ?_
  refine x_aload_n C 0 dL_keep_2 rfl ?_
  refine x_iload_n C 1 dL_keep_3 rfl ?_
  refine x_lcallI (mc' := 13) (ms' := 840) (rm := rmv 7 110 13 840) (K := 9) (o := 1) (As := [iV x1]) (rest := [iV 0, .ref (ad (34))]) (z := z) C hA hR0 mf_X8_keep lk_L_100 rfl (isK_lit hdm rfl rfl) (by decide) ⟨rfl, rfl⟩ ⟨Nat.le_of_ble_eq_true rfl, Nat.le_of_ble_eq_true rfl⟩ rfl rfl (Nat.le_of_ble_eq_true rfl) ⟨by show 0 + 13 ≤ 13; omega, by show 0 + 840 ≤ 840; omega⟩ dL_keep_4 (c_X8_keep g.l g.G hfl hdm hz) (fun k d1 hk hag hn hc1 hc2 => ?_) (fun r d1 hr hag hn hc1 hc2 => ?_)
  · obtain ⟨c, hc, hres⟩ := wrL_r hq hk
    obtain ⟨rfl, rfl⟩ := hnd1_some hc
    refine ⟨12, cat1 C hT exL3 (by decide), fun q => ?_⟩
    refine x_astore_n C dL_keep_12 (by decide) rfl ?_
    refine x_iconst C dL_keep_13 ?_
    exact hR d1 _ _ 1 z.2.2 hag ⟨by rw [hc1]; show 0 + 13 ≤ 13; omega, by rw [hc2]; show 0 + 840 ≤ 840; omega⟩ (by rw [hn]; exact hres) dL_keep_14
  · have hres := wrL_l hq hr
    refine x_i2l C dL_keep_7 ?_
    rw [show ad 34 = d1.ad 34 from agr hag (isK_lit (g := g) (na := na) hdm rfl rfl : isK na g.dm 15 34) (by decide)]
    refine x_last C (isK_lit hdm rfl rfl) (by decide) dL_keep_8 ?_
    refine x_goto (tgt := 15) C dL_keep_9 (by decide) ?_
    refine x_iconst C dL_keep_15 ?_
    exact hR d1 _ _ 0 (sA z.2.2 34 0 (w32 r)) hag ⟨by rw [hc1]; show 0 + 13 ≤ 13; omega, by rw [hc2]; show 0 + 840 ≤ 840; omega⟩ (by rw [hn]; exact hres) dL_keep_16
def p_L_restore (x1 : Int) (na : Nat) (w : Wd) : Option (Int × Nat × Wd) := (p_X8_restore x1 na w).bind (wrL (hnd2 3 1) (fun r w => sA w 34 0 (w32 r)))
theorem c_L_restore (l : Launch) (G : Gd) (hfl : l.stackTraces = false) {na : Nat} {ad : Nat → Nat} {x1 : Int} {w : Wd} {res : Int × Nat × Wd} (hq : p_L_restore x1 na w = some res) : mL l yL_restore cL_restore 4 [(0, 9, 12, 29), (0, 9, 15, 13)] (rmv 8 161 13 840) G na ad [.ref (ad (1)), iV x1, .ref (ad (34))] w res 13 840 := by
  refine met_L [(0, .ref (ad (1))), (1, iV x1), (2, .ref (ad (34)))] (by decide) (Nat.le_of_ble_eq_true rfl) rfl (fun g d C S hR => ?_)
  obtain ⟨rfl, hR0, rfl, hdm, rfl, hA, hT, hNC⟩ := S
  obtain ⟨z, hz, hq⟩ := Option.bind_eq_some_iff.mp hq
  refine x_aload_n C 2 dL_restore_0 rfl ?_
  refine x_iconst C dL_restore_1 ?_
  refine x_aload_n C 0 dL_restore_2 rfl ?_
  refine x_iload_n C 1 dL_restore_3 rfl ?_
  refine x_lcallI (mc' := 13) (ms' := 840) (rm := rmv 7 139 13 840) (K := 9) (o := 1) (As := [iV x1]) (rest := [iV 0, .ref (ad (34))]) (z := z) C hA hR0 mf_X8_restore lk_L_103 rfl (isK_lit hdm rfl rfl) (by decide) ⟨rfl, rfl⟩ ⟨Nat.le_of_ble_eq_true rfl, Nat.le_of_ble_eq_true rfl⟩ rfl rfl (Nat.le_of_ble_eq_true rfl) ⟨by show 0 + 13 ≤ 13; omega, by show 0 + 840 ≤ 840; omega⟩ dL_restore_4 (c_X8_restore g.l g.G hfl hdm hz) (fun k d1 hk hag hn hc1 hc2 => ?_) (fun r d1 hr hag hn hc1 hc2 => ?_)
  · obtain ⟨c, hc, hres⟩ := wrL_r hq hk
    rcases hnd2_some hc with ⟨rfl, rfl⟩ | ⟨rfl, rfl⟩
    · refine ⟨12, cat1 C hT exL3 (by decide), fun q => ?_⟩
      refine x_astore_n C dL_restore_12 (by decide) rfl ?_
      refine x_iconst C dL_restore_13 ?_
      exact hR d1 _ _ 1 z.2.2 hag ⟨by rw [hc1]; show 0 + 13 ≤ 13; omega, by rw [hc2]; show 0 + 840 ≤ 840; omega⟩ (by rw [hn]; exact hres) dL_restore_14
    · refine ⟨15, cat2 C hT exL3 exL1 hNC.2.2 (by decide), fun q => ?_⟩
      refine x_astore_n C dL_restore_15 (by decide) rfl ?_
      refine x_iconst C dL_restore_16 ?_
      exact hR d1 _ _ 2 z.2.2 hag ⟨by rw [hc1]; show 0 + 13 ≤ 13; omega, by rw [hc2]; show 0 + 840 ≤ 840; omega⟩ (by rw [hn]; exact hres) dL_restore_17
  · have hres := wrL_l hq hr
    refine x_i2l C dL_restore_7 ?_
    rw [show ad 34 = d1.ad 34 from agr hag (isK_lit (g := g) (na := na) hdm rfl rfl : isK na g.dm 15 34) (by decide)]
    refine x_last C (isK_lit hdm rfl rfl) (by decide) dL_restore_8 ?_
    refine x_goto (tgt := 18) C dL_restore_9 (by decide) ?_
    refine x_iconst C dL_restore_18 ?_
    exact hR d1 _ _ 0 (sA z.2.2 34 0 (w32 r)) hag ⟨by rw [hc1]; show 0 + 13 ≤ 13; omega, by rw [hc2]; show 0 + 840 ≤ 840; omega⟩ (by rw [hn]; exact hres) dL_restore_19
def p_L_undo  (na : Nat) (w : Wd) : Option (Int × Nat × Wd) := (p_X8_undo  na w).bind (wrL (hnd1 1) (fun r w => sA w 34 0 (w32 r)))
theorem c_L_undo (l : Launch) (G : Gd) (hfl : l.stackTraces = false) {na : Nat} {ad : Nat → Nat}  {w : Wd} {res : Int × Nat × Wd} (hq : p_L_undo  na w = some res) : mL l yL_undo cL_undo 3 [(0, 8, 11, 13)] (rmv 7 139 1 6) G na ad [.ref (ad (1)), .ref (ad (34))] w res 1 6 := by
  refine met_L [(0, .ref (ad (1))), (1, .ref (ad (34)))] (by decide) (Nat.le_of_ble_eq_true rfl) rfl (fun g d C S hR => ?_)
  obtain ⟨rfl, hR0, rfl, hdm, rfl, hA, hT, hNC⟩ := S
  obtain ⟨z, hz, hq⟩ := Option.bind_eq_some_iff.mp hq
  refine x_aload_n C 1 dL_undo_0 rfl ?_
  refine x_iconst C dL_undo_1 ?_
  refine x_aload_n C 0 dL_undo_2 rfl ?_
  refine x_lcallI (mc' := 1) (ms' := 6) (rm := rmv 6 119 1 6) (K := 9) (o := 1) (As := []) (rest := [iV 0, .ref (ad (34))]) (z := z) C hA hR0 mf_X8_undo lk_L_106 rfl (isK_lit hdm rfl rfl) (by decide) ⟨rfl, rfl⟩ ⟨Nat.le_of_ble_eq_true rfl, Nat.le_of_ble_eq_true rfl⟩ rfl rfl (Nat.le_of_ble_eq_true rfl) ⟨by show 0 + 1 ≤ 1; omega, by show 0 + 6 ≤ 6; omega⟩ dL_undo_3 (c_X8_undo g.l g.G hfl hdm hz) (fun k d1 hk hag hn hc1 hc2 => ?_) (fun r d1 hr hag hn hc1 hc2 => ?_)
  · obtain ⟨c, hc, hres⟩ := wrL_r hq hk
    obtain ⟨rfl, rfl⟩ := hnd1_some hc
    refine ⟨11, cat1 C hT exL1 (by decide), fun q => ?_⟩
    refine x_astore_n C dL_undo_11 (by decide) rfl ?_
    refine x_iconst C dL_undo_12 ?_
    exact hR d1 _ _ 1 z.2.2 hag ⟨by rw [hc1]; show 0 + 1 ≤ 1; omega, by rw [hc2]; show 0 + 6 ≤ 6; omega⟩ (by rw [hn]; exact hres) dL_undo_13
  · have hres := wrL_l hq hr
    refine x_i2l C dL_undo_6 ?_
    rw [show ad 34 = d1.ad 34 from agr hag (isK_lit (g := g) (na := na) hdm rfl rfl : isK na g.dm 15 34) (by decide)]
    refine x_last C (isK_lit hdm rfl rfl) (by decide) dL_undo_7 ?_
    refine x_goto (tgt := 14) C dL_undo_8 (by decide) ?_
    refine x_iconst C dL_undo_14 ?_
    exact hR d1 _ _ 0 (sA z.2.2 34 0 (w32 r)) hag ⟨by rw [hc1]; show 0 + 1 ≤ 1; omega, by rw [hc2]; show 0 + 6 ≤ 6; omega⟩ (by rw [hn]; exact hres) dL_undo_15
def p_L_writeRow (x1 : Int) (na : Nat) (w : Wd) : Option (Int × Nat × Wd) := (p_X8_writeRow x1 na w).bind (wrL (hnd1 3) (fun r w => sA w 34 0 (w32 r)))
theorem c_L_writeRow (l : Launch) (G : Gd) (hfl : l.stackTraces = false) {na : Nat} {ad : Nat → Nat} {x1 : Int} {w : Wd} {res : Int × Nat × Wd} (hq : p_L_writeRow x1 na w = some res) : mL l yL_writeRow cL_writeRow 4 [(0, 9, 12, 29)] (rmv 8 132 1 6) G na ad [.ref (ad (1)), iV x1, .ref (ad (34))] w res 1 6 := by
  refine met_L [(0, .ref (ad (1))), (1, iV x1), (2, .ref (ad (34)))] (by decide) (Nat.le_of_ble_eq_true rfl) rfl (fun g d C S hR => ?_)
  obtain ⟨rfl, hR0, rfl, hdm, rfl, hA, hT, hNC⟩ := S
  obtain ⟨z, hz, hq⟩ := Option.bind_eq_some_iff.mp hq
  refine x_aload_n C 2 dL_writeRow_0 rfl ?_
  refine x_iconst C dL_writeRow_1 ?_
  refine x_aload_n C 0 dL_writeRow_2 rfl ?_
  refine x_iload_n C 1 dL_writeRow_3 rfl ?_
  refine x_lcallI (mc' := 1) (ms' := 6) (rm := rmv 7 110 1 6) (K := 9) (o := 1) (As := [iV x1]) (rest := [iV 0, .ref (ad (34))]) (z := z) C hA hR0 mf_X8_writeRow lk_L_109 rfl (isK_lit hdm rfl rfl) (by decide) ⟨rfl, rfl⟩ ⟨Nat.le_of_ble_eq_true rfl, Nat.le_of_ble_eq_true rfl⟩ rfl rfl (Nat.le_of_ble_eq_true rfl) ⟨by show 0 + 1 ≤ 1; omega, by show 0 + 6 ≤ 6; omega⟩ dL_writeRow_4 (c_X8_writeRow g.l g.G hfl hdm hz) (fun k d1 hk hag hn hc1 hc2 => ?_) (fun r d1 hr hag hn hc1 hc2 => ?_)
  · obtain ⟨c, hc, hres⟩ := wrL_r hq hk
    obtain ⟨rfl, rfl⟩ := hnd1_some hc
    refine ⟨12, cat1 C hT exL3 (by decide), fun q => ?_⟩
    refine x_astore_n C dL_writeRow_12 (by decide) rfl ?_
    refine x_iconst C dL_writeRow_13 ?_
    exact hR d1 _ _ 1 z.2.2 hag ⟨by rw [hc1]; show 0 + 1 ≤ 1; omega, by rw [hc2]; show 0 + 6 ≤ 6; omega⟩ (by rw [hn]; exact hres) dL_writeRow_14
  · have hres := wrL_l hq hr
    refine x_i2l C dL_writeRow_7 ?_
    rw [show ad 34 = d1.ad 34 from agr hag (isK_lit (g := g) (na := na) hdm rfl rfl : isK na g.dm 15 34) (by decide)]
    refine x_last C (isK_lit hdm rfl rfl) (by decide) dL_writeRow_8 ?_
    refine x_goto (tgt := 15) C dL_writeRow_9 (by decide) ?_
    refine x_iconst C dL_writeRow_15 ?_
    exact hR d1 _ _ 0 (sA z.2.2 34 0 (w32 r)) hag ⟨by rw [hc1]; show 0 + 1 ≤ 1; omega, by rw [hc2]; show 0 + 6 ≤ 6; omega⟩ (by rw [hn]; exact hres) dL_writeRow_16
def p_L_writePart (x1 : Int) (na : Nat) (w : Wd) : Option (Int × Nat × Wd) := (p_X8_writePart x1 na w).bind (wrL (hnd1 3) (fun r w => sA w 34 0 (w32 r)))
theorem c_L_writePart (l : Launch) (G : Gd) (hfl : l.stackTraces = false) {na : Nat} {ad : Nat → Nat} {x1 : Int} {w : Wd} {res : Int × Nat × Wd} (hq : p_L_writePart x1 na w = some res) : mL l yL_writePart cL_writePart 4 [(0, 9, 12, 29)] (rmv 8 134 1 6) G na ad [.ref (ad (1)), iV x1, .ref (ad (34))] w res 1 6 := by
  refine met_L [(0, .ref (ad (1))), (1, iV x1), (2, .ref (ad (34)))] (by decide) (Nat.le_of_ble_eq_true rfl) rfl (fun g d C S hR => ?_)
  obtain ⟨rfl, hR0, rfl, hdm, rfl, hA, hT, hNC⟩ := S
  obtain ⟨z, hz, hq⟩ := Option.bind_eq_some_iff.mp hq
  refine x_aload_n C 2 dL_writePart_0 rfl ?_
  refine x_iconst C dL_writePart_1 ?_
  refine x_aload_n C 0 dL_writePart_2 rfl ?_
  refine x_iload_n C 1 dL_writePart_3 rfl ?_
  refine x_lcallI (mc' := 1) (ms' := 6) (rm := rmv 7 110 1 6) (K := 9) (o := 1) (As := [iV x1]) (rest := [iV 0, .ref (ad (34))]) (z := z) C hA hR0 mf_X8_writePart lk_L_112 rfl (isK_lit hdm rfl rfl) (by decide) ⟨rfl, rfl⟩ ⟨Nat.le_of_ble_eq_true rfl, Nat.le_of_ble_eq_true rfl⟩ rfl rfl (Nat.le_of_ble_eq_true rfl) ⟨by show 0 + 1 ≤ 1; omega, by show 0 + 6 ≤ 6; omega⟩ dL_writePart_4 (c_X8_writePart g.l g.G hfl hdm hz) (fun k d1 hk hag hn hc1 hc2 => ?_) (fun r d1 hr hag hn hc1 hc2 => ?_)
  · obtain ⟨c, hc, hres⟩ := wrL_r hq hk
    obtain ⟨rfl, rfl⟩ := hnd1_some hc
    refine ⟨12, cat1 C hT exL3 (by decide), fun q => ?_⟩
    refine x_astore_n C dL_writePart_12 (by decide) rfl ?_
    refine x_iconst C dL_writePart_13 ?_
    exact hR d1 _ _ 1 z.2.2 hag ⟨by rw [hc1]; show 0 + 1 ≤ 1; omega, by rw [hc2]; show 0 + 6 ≤ 6; omega⟩ (by rw [hn]; exact hres) dL_writePart_14
  · have hres := wrL_l hq hr
    refine x_i2l C dL_writePart_7 ?_
    rw [show ad 34 = d1.ad 34 from agr hag (isK_lit (g := g) (na := na) hdm rfl rfl : isK na g.dm 15 34) (by decide)]
    refine x_last C (isK_lit hdm rfl rfl) (by decide) dL_writePart_8 ?_
    refine x_goto (tgt := 15) C dL_writePart_9 (by decide) ?_
    refine x_iconst C dL_writePart_15 ?_
    exact hR d1 _ _ 0 (sA z.2.2 34 0 (w32 r)) hag ⟨by rw [hc1]; show 0 + 1 ≤ 1; omega, by rw [hc2]; show 0 + 6 ≤ 6; omega⟩ (by rw [hn]; exact hres) dL_writePart_16
def p_L_outputByte (x1 : Int) (na : Nat) (w : Wd) : Option (Int × Nat × Wd) := (p_X8_outputByte x1 na w).bind (wrL (hnd1 4) (fun r w => sA w 34 0 (w32 r)))
theorem c_L_outputByte (l : Launch) (G : Gd) (hfl : l.stackTraces = false) {na : Nat} {ad : Nat → Nat} {x1 : Int} {w : Wd} {res : Int × Nat × Wd} (hq : p_L_outputByte x1 na w = some res) : mL l yL_outputByte cL_outputByte 4 [(0, 9, 12, 118)] (rmv 7 110 1 6) G na ad [.ref (ad (1)), iV x1, .ref (ad (34))] w res 1 6 := by
  refine met_L [(0, .ref (ad (1))), (1, iV x1), (2, .ref (ad (34)))] (by decide) (Nat.le_of_ble_eq_true rfl) rfl (fun g d C S hR => ?_)
  obtain ⟨rfl, hR0, rfl, hdm, rfl, hA, hT, hNC⟩ := S
  obtain ⟨z, hz, hq⟩ := Option.bind_eq_some_iff.mp hq
  refine x_aload_n C 2 dL_outputByte_0 rfl ?_
  refine x_iconst C dL_outputByte_1 ?_
  refine x_aload_n C 0 dL_outputByte_2 rfl ?_
  refine x_iload_n C 1 dL_outputByte_3 rfl ?_
  refine x_lcallI (mc' := 1) (ms' := 6) (rm := rmv 6 89 1 6) (K := 9) (o := 1) (As := [iV x1]) (rest := [iV 0, .ref (ad (34))]) (z := z) C hA hR0 mf_X8_outputByte lk_L_115 rfl (isK_lit hdm rfl rfl) (by decide) ⟨rfl, rfl⟩ ⟨Nat.le_of_ble_eq_true rfl, Nat.le_of_ble_eq_true rfl⟩ rfl rfl (Nat.le_of_ble_eq_true rfl) ⟨by show 0 + 1 ≤ 1; omega, by show 0 + 6 ≤ 6; omega⟩ dL_outputByte_4 (c_X8_outputByte g.l g.G hfl hdm hz) (fun k d1 hk hag hn hc1 hc2 => ?_) (fun r d1 hr hag hn hc1 hc2 => ?_)
  · obtain ⟨c, hc, hres⟩ := wrL_r hq hk
    obtain ⟨rfl, rfl⟩ := hnd1_some hc
    refine ⟨12, cat1 C hT exL4 (by decide), fun q => ?_⟩
    refine x_astore_n C dL_outputByte_12 (by decide) rfl ?_
    refine x_iconst C dL_outputByte_13 ?_
    exact hR d1 _ _ 1 z.2.2 hag ⟨by rw [hc1]; show 0 + 1 ≤ 1; omega, by rw [hc2]; show 0 + 6 ≤ 6; omega⟩ (by rw [hn]; exact hres) dL_outputByte_14
  · have hres := wrL_l hq hr
    refine x_i2l C dL_outputByte_7 ?_
    rw [show ad 34 = d1.ad 34 from agr hag (isK_lit (g := g) (na := na) hdm rfl rfl : isK na g.dm 15 34) (by decide)]
    refine x_last C (isK_lit hdm rfl rfl) (by decide) dL_outputByte_8 ?_
    refine x_goto (tgt := 15) C dL_outputByte_9 (by decide) ?_
    refine x_iconst C dL_outputByte_15 ?_
    exact hR d1 _ _ 0 (sA z.2.2 34 0 (w32 r)) hag ⟨by rw [hc1]; show 0 + 1 ≤ 1; omega, by rw [hc2]; show 0 + 6 ≤ 6; omega⟩ (by rw [hn]; exact hres) dL_outputByte_16
