theorem mfL_added : mfL yL_added cL_added 3 [(0, 5, 6, 101)] 2 := ⟨in_tg 1029 (by decide +kernel) rfl, in_tg 33 (by decide +kernel) rfl, in_tg 1030 (by decide +kernel) rfl, by decide +kernel, by decide +kernel, by decide +kernel⟩
theorem tl_SlabCutterLaw_125 : Cond.methodLink "SlabCutterLaw" 125 yL_added ∈ lw_tg := in_tg 1028 (by decide +kernel) rfl
theorem tm_J4_init_da8c8 : mfI yJ4_init_da8c8 cJ4_init_da8c8 1 0 := ⟨in_tg 1023 (by decide +kernel) rfl, in_tg 44 (by decide +kernel) rfl, in_tg 1024 (by decide +kernel) rfl, by decide +kernel, by decide +kernel, by decide +kernel, rfl⟩
theorem tl_SlabCutterLaw_124 : Cond.methodLink "SlabCutterLaw" 124 yJ4_init_da8c8 ∈ lw_tg := in_tg 1022 (by decide +kernel) rfl
theorem mfL_dropped : mfL yL_dropped cL_dropped 3 [(0, 5, 6, 101)] 2 := ⟨in_tg 1046 (by decide +kernel) rfl, in_tg 33 (by decide +kernel) rfl, in_tg 1047 (by decide +kernel) rfl, by decide +kernel, by decide +kernel, by decide +kernel⟩
theorem tl_SlabCutterLaw_129 : Cond.methodLink "SlabCutterLaw" 129 yL_dropped ∈ lw_tg := in_tg 1045 (by decide +kernel) rfl
theorem mfL_moved : mfL yL_moved cL_moved 4 [(0, 6, 7, 101)] 3 := ⟨in_tg 1089 (by decide +kernel) rfl, in_tg 33 (by decide +kernel) rfl, in_tg 1090 (by decide +kernel) rfl, by decide +kernel, by decide +kernel, by decide +kernel⟩
theorem tl_SlabCutterLaw_132 : Cond.methodLink "SlabCutterLaw" 132 yL_moved ∈ lw_tg := in_tg 1088 (by decide +kernel) rfl
theorem mfL_flawed : mfL yL_flawed cL_flawed 5 [(0, 15, 16, 101)] 4 := ⟨in_tg 1103 (by decide +kernel) rfl, in_tg 33 (by decide +kernel) rfl, in_tg 1104 (by decide +kernel) rfl, by decide +kernel, by decide +kernel, by decide +kernel⟩
theorem tl_SlabCutterLaw_136 : Cond.methodLink "SlabCutterLaw" 136 yL_flawed ∈ lw_tg := in_tg 1102 (by decide +kernel) rfl
theorem mfL_spaced : mfL yL_spaced cL_spaced 3 [(0, 5, 6, 101)] 2 := ⟨in_tg 1120 (by decide +kernel) rfl, in_tg 33 (by decide +kernel) rfl, in_tg 1121 (by decide +kernel) rfl, by decide +kernel, by decide +kernel, by decide +kernel⟩
theorem tl_SlabCutterLaw_140 : Cond.methodLink "SlabCutterLaw" 140 yL_spaced ∈ lw_tg := in_tg 1119 (by decide +kernel) rfl
theorem mfL_turned : mfL yL_turned cL_turned 2 [(0, 4, 5, 101)] 1 := ⟨in_tg 1131 (by decide +kernel) rfl, in_tg 33 (by decide +kernel) rfl, in_tg 1132 (by decide +kernel) rfl, by decide +kernel, by decide +kernel, by decide +kernel⟩
theorem tl_SlabCutterLaw_143 : Cond.methodLink "SlabCutterLaw" 143 yL_turned ∈ lw_tg := in_tg 1130 (by decide +kernel) rfl
theorem mfL_cut : mfL yL_cut cL_cut 4 [(0, 6, 7, 101)] 3 := ⟨in_tg 1144 (by decide +kernel) rfl, in_tg 33 (by decide +kernel) rfl, in_tg 1145 (by decide +kernel) rfl, by decide +kernel, by decide +kernel, by decide +kernel⟩
theorem tl_SlabCutterLaw_147 : Cond.methodLink "SlabCutterLaw" 147 yL_cut ∈ lw_tg := in_tg 1143 (by decide +kernel) rfl
theorem tm_X8_carve : mfV yX8_carve cX8_carve 5 (some .int) 1 := ⟨in_tg 1155 (by decide +kernel) rfl, in_tg 1156 (by decide +kernel) rfl, in_tg 34 (by decide +kernel) rfl, in_tg 1157 (by decide +kernel) rfl, by decide +kernel, by decide +kernel, by decide +kernel⟩
theorem tl_SlabCutterLaw_151 : Cond.methodLink "SlabCutterLaw" 151 yX8_carve ∈ lw_tg := in_tg 1154 (by decide +kernel) rfl
theorem tm_X8_sharpen : mfV yX8_sharpen cX8_sharpen 2 (some .int) 0 := ⟨in_tg 1168 (by decide +kernel) rfl, in_tg 1169 (by decide +kernel) rfl, in_tg 34 (by decide +kernel) rfl, in_tg 1170 (by decide +kernel) rfl, by decide +kernel, by decide +kernel, by decide +kernel⟩
theorem tl_SlabCutterLaw_154 : Cond.methodLink "SlabCutterLaw" 154 yX8_sharpen ∈ lw_tg := in_tg 1167 (by decide +kernel) rfl
theorem tm_X8_setChisel : mfV yX8_setChisel cX8_setChisel 4 (some .int) 2 := ⟨in_tg 1173 (by decide +kernel) rfl, in_tg 1174 (by decide +kernel) rfl, in_tg 34 (by decide +kernel) rfl, in_tg 1175 (by decide +kernel) rfl, by decide +kernel, by decide +kernel, by decide +kernel⟩
theorem tl_SlabCutterLaw_157 : Cond.methodLink "SlabCutterLaw" 157 yX8_setChisel ∈ lw_tg := in_tg 1172 (by decide +kernel) rfl
theorem tk_SlabCutterLaw_123 : Cond.constant "SlabCutterLaw" 123 100000 ∈ lw_tg := in_tg 1021 (by decide +kernel) rfl
/-- the words that the law writes for a new part -/
def actT (n wide : Int) : Nat → List Int
  | 0 => []
  | i + 1 => actT n wide i ++ wordF (n / 4 + 31 * (i : Nat)) wide
theorem actT_le {n wide : Int} (hn : 0 ≤ n) (hw : 1 ≤ wide) : ∀ k, (actT n wide k).length ≤ 8 * k := by
  intro k
  induction k with
  | zero => exact Nat.le_refl _
  | succ k ih =>
    unfold actT
    exact Nat.le_trans (app_le ih (wordF_le _ _ (by omega) hw)) (by omega)
theorem asc_actT (n wide : Int) : ∀ i, asc (actT n wide i)
  | 0 => asc.nil
  | i + 1 => (asc_actT n wide i).app (asc_wordF _ _)

theorem L_awords {g : Cx} (C : CX g cL_act 9 (some .int) RL) {na : Nat} {ad : Nat → Nat} {b L : Nat} {xs : Nat → Int32} (hS : SX g na ad b L xs (rmv 10 280 50 28000)) {w : Wd} (hfl : g.l.stackTraces = false) {z : Int × Nat × Wd} (hR : rtX g na ad cL_act .int 50 28000 z) {k n m parts high wide : Int} (hn : 0 ≤ n ∧ n < 100000) (hm : 0 ≤ m ∧ m < 100000) (hpp : 0 ≤ parts ∧ parts ≤ 100) (hhh : 1 ≤ high ∧ high ≤ 100) (hww : 1 ≤ wide ∧ wide ≤ 100) (p0 : p_Y8_property 0 w = some (wide, w)) {hb mn : Nat} (hmn : 1 + n % 4 = (mn : Int))
    (K : ∀ (es : va_W) (c s : Nat), TXb g.G hb (actT n wide mn) [] es → (c ≤ 34 ∧ s ≤ 25644) → XG g (na, ad, c, s) (hY g (na, ad, c, s) w es) [(0, .ref (ad 1)), (1, .ref b), (2, iV k), (3, iV n), (4, iV m), (5, iV parts), (6, iV high), (7, .ref hb)] [] 163) :
    ∀ (j i : Nat) (es : va_W) (ce so : Nat), i + j = mn → TXb g.G hb (actT n wide i) [] es → (ce + 8 * j ≤ 34 ∧ so + 6400 * j ≤ 25644) → XG g (na, ad, ce, so) (hY g (na, ad, ce, so) w es) [(0, .ref (ad 1)), (1, .ref b), (2, iV k), (3, iV n), (4, iV m), (5, iV parts), (6, iV high), (7, .ref hb), (8, iV (i : Nat))] [] 128 := by
  obtain ⟨hA, hR0, hX, hbs, hbA, hL9⟩ := hS
  intro j
  induction j with
  | zero =>
    intro i es ce so hk hT hd
    refine x_iload C 8 dL_act_128 rfl ?_
    refine x_iconst C dL_act_130 ?_
    refine x_iload_n C 3 dL_act_131 rfl ?_
    refine x_iconst C dL_act_132 ?_
    refine x_irem C (eqf (by omega) (by omega)) dL_act_133 ?_
    rw [rmq (by omega) (by omega)]
    refine x_iadd C dL_act_134 ?_
    refine x_icmp_ge (tgt := 163) (P1 := none) (P2 := some ()) (z := ()) C dL_act_135 (by decide) (if_neg (by rw [ltq (by omega)] <;> omega)) (fun _ => ?_) (fun h => nomatch h)
    refine XG.sub [0, 1, 2, 3, 4, 5, 6, 7] rfl ?_
    rw [show i = mn by omega] at hT
    exact K es ce so hT (by omega)
  | succ j ih =>
    intro i es ce so hk hT hd
    refine x_iload C 8 dL_act_128 rfl ?_
    refine x_iconst C dL_act_130 ?_
    refine x_iload_n C 3 dL_act_131 rfl ?_
    refine x_iconst C dL_act_132 ?_
    refine x_irem C (eqf (by omega) (by omega)) dL_act_133 ?_
    rw [rmq (by omega) (by omega)]
    refine x_iadd C dL_act_134 ?_
    refine x_icmp_ge (tgt := 163) (P1 := some ()) (P2 := none) (z := ()) C dL_act_135 (by decide) (if_pos (by rw [ltq (by omega)] <;> omega)) (fun h => nomatch h) (fun _ => ?_)
    refine x_aload C 7 dL_act_138 rfl ?_
    refine x_iload_n C 3 dL_act_140 rfl ?_
    refine x_iconst C dL_act_141 ?_
    refine x_idiv C (eqf (by omega) (by omega)) dL_act_142 ?_
    rw [dvq (by omega) (by omega)]
    refine x_bipush (v := 31) C dL_act_143 (by decide +kernel) ?_
    refine x_iload C 8 dL_act_145 rfl ?_
    refine x_imul C dL_act_147 ?_
    refine x_iadd C dL_act_148 ?_
    refine x_aload_n C 0 dL_act_149 rfl ?_
    refine x_iconst C dL_act_150 ?_
    refine q_pr C hA hR0 tl_SlabCutterLaw_94 ⟨Nat.le_of_ble_eq_true rfl, Nat.le_of_ble_eq_true rfl⟩ (Nat.le_of_ble_eq_true rfl) ⟨(by omega : ce ≤ 50), (by omega : so ≤ 28000)⟩ dL_act_151 p0 ?_
    obtain ⟨ha, m9, a, rfl, b1, b2, b3, b4⟩ := hT
    have hl := actT_le (n := n) (wide := wide) hn.1 hww.1 i
    refine y_tV C hA (t_S (rm := rmv 6 200 8 6400) (As := [.ref hb, iV (n / 4 + 31 * (i : Nat)), iV wide]) (rest := []) C hA hR0 hY.sub (cL_word_ g.l g.G b3 b4 b1 ⟨b2, by omega⟩ (by omega) hww) tm_L_word tl_SlabCutterLaw_76 ⟨rfl, rfl⟩ ⟨Nat.le_of_ble_eq_true rfl, Nat.le_of_ble_eq_true rfl⟩ rfl rfl (Nat.le_of_ble_eq_true rfl) ⟨(by omega : ce + 8 ≤ 50), (by omega : so + 6400 ≤ 28000)⟩ dL_act_154) (fun ws' c61 s62 hp e1 e2 => ?_)
    refine x_iinc (lv' := [(8, iV ((i : Nat) + 1)), (0, .ref (ad 1)), (1, .ref b), (2, iV k), (3, iV n), (4, iV m), (5, iV parts), (6, iV high), (7, .ref hb)]) C 8 dL_act_157 rfl (by decide) rfl ?_
    refine x_goto (tgt := 128) C dL_act_160 (by decide) ?_
    refine XG.sub [1, 2, 3, 4, 5, 6, 7, 8, 0] rfl ?_
    exact ih (i + 1) ws' c61 s62 (by omega) hp (by omega)

theorem L_a163 {g : Cx} (C : CX g cL_act 9 (some .int) RL) {na : Nat} {ad : Nat → Nat} {b L : Nat} {xs : Nat → Int32} (hS : SX g na ad b L xs (rmv 10 280 50 28000)) {w : Wd} (hfl : g.l.stackTraces = false) {z : Int × Nat × Wd} (hR : rtX g na ad cL_act .int 50 28000 z) {k n m parts high wide : Int} (hn : 0 ≤ n ∧ n < 100000) (hm : 0 ≤ m ∧ m < 100000) (hpp : 0 ≤ parts ∧ parts ≤ 100) (hhh : 1 ≤ high ∧ high ≤ 100) (hww : 1 ≤ wide ∧ wide ≤ 100) (p0 : p_Y8_property 0 w = some (wide, w)) {hb mn fu : Nat} {w1 : Wd} (hmn : 1 + n % 4 = (mn : Int)) (hfd : fedF (actT n wide mn) fu 0 0 w = some w1) (hB : p_L_added (m % 3) na w1 = some z) (es : va_W) (c s : Nat) (hT : TXb g.G hb (actT n wide mn) [] es) (hd : c ≤ 34 ∧ s ≤ 25644) : XG g (na, ad, c, s) (hY g (na, ad, c, s) w es) [(0, .ref (ad 1)), (1, .ref b), (2, iV k), (3, iV n), (4, iV m), (5, iV parts), (6, iV high), (7, .ref hb)] [] 163 := by
  obtain ⟨hA, hR0, hX, hbs, hbA, hL9⟩ := hS
  obtain ⟨ha, m9, a, rfl, b1, b2, b3, b4⟩ := hT
  refine x_aload_n C 0 dL_act_163 rfl ?_
  refine x_aload C 7 dL_act_164 rfl ?_
  refine y_tR C hA (t_V (rm := rmv 5 191 2 804) (As := []) (rest := [.ref (ad 1)]) C hA hR0 hY.sub (rcYb C) (ct_toString g.l g.G b3 b4 ⟨b1, b2⟩) tm_J4_toString_0e30d tl_SlabCutterLaw_80 ⟨rfl, rfl⟩ ⟨Nat.le_of_ble_eq_true rfl, Nat.le_of_ble_eq_true rfl⟩ rfl rfl (Nat.le_of_ble_eq_true rfl) ⟨(by omega : c + 2 ≤ 50), (by omega : s + 804 ≤ 28000)⟩ dL_act_166) (fun r ws' c2 s2 hp e1 e2 => ?_)
  refine q_feed C hA hR0 tl_SlabCutterLaw_84 tm_L_feed ⟨Nat.le_of_ble_eq_true rfl, Nat.le_of_ble_eq_true rfl⟩ (Nat.le_of_ble_eq_true rfl) ⟨(by omega : c2 ≤ 50), (by omega : s2 ≤ 28000)⟩ dL_act_169 hp (Nat.le_trans (actT_le hn.1 hww.1 mn) (by omega)) (asc_actT _ _ _) hfd ?_
  refine x_aload_n C 0 dL_act_172 rfl ?_
  refine x_iload C 4 dL_act_173 rfl ?_
  refine x_iconst C dL_act_175 ?_
  refine x_irem C (eqf (by omega) (by omega)) dL_act_176 ?_
  rw [rmq (by omega) (by omega)]
  refine q_wr (mc' := 12) (ms' := 834) (rm := rmv 7 161 12 834) (As := [.ref (ad 1), iV (m % 3)]) (rest := []) (pv := p_L_added (m % 3) na w1) (Kt := some) (res := z) (d := (na, ad, c2, s2)) C hA hR0 mfL_added tl_SlabCutterLaw_125 ⟨rfl, rfl⟩ ⟨Nat.le_of_ble_eq_true rfl, Nat.le_of_ble_eq_true rfl⟩ rfl rfl (Nat.le_of_ble_eq_true rfl) ⟨(by omega : c2 + 12 ≤ 50), (by omega : s2 + 834 ≤ 28000)⟩ dL_act_177 (by rw [hB]; rfl) (fun _ h => c_L_added g.l g.G hfl h) (fun z1 d1 _ hz hag hn9 hc9 hs9 => ?_)
  cases hz
  exact hR d1 _ _ _ _ _ hag ⟨by rw [hc9]; show c2 + 12 ≤ 50; omega, by rw [hs9]; show s2 + 834 ≤ 28000; omega⟩ (by rw [hn9]) rfl dL_act_180

theorem L_a116 {g : Cx} (C : CX g cL_act 9 (some .int) RL) {na : Nat} {ad : Nat → Nat} {b L : Nat} {xs : Nat → Int32} (hS : SX g na ad b L xs (rmv 10 280 50 28000)) {w : Wd} (hfl : g.l.stackTraces = false) {z : Int × Nat × Wd} (hR : rtX g na ad cL_act .int 50 28000 z) {k n m parts high wide : Int} (hn : 0 ≤ n ∧ n < 100000) (hm : 0 ≤ m ∧ m < 100000) (hpp : 0 ≤ parts ∧ parts ≤ 100) (hhh : 1 ≤ high ∧ high ≤ 100) (hww : 1 ≤ wide ∧ wide ≤ 100) (p0 : p_Y8_property 0 w = some (wide, w)) {fu : Nat} {w1 : Wd} (hfd : fedF (actT n wide (1 + n % 4).toNat) fu 0 0 w = some w1) (hB : p_L_added (m % 3) na w1 = some z) : XG g (na, ad, 0, 0) (hY g (na, ad, 0, 0) w []) [(0, .ref (ad 1)), (1, .ref b), (2, iV k), (3, iV n), (4, iV m), (5, iV parts), (6, iV high)] [] 116 := by
  have hS0 := hS
  obtain ⟨hA, hR0, hX, hbs, hbA, hL9⟩ := hS0
  have hmn : 1 + n % 4 = (((1 + n % 4).toNat : Nat) : Int) := by omega
  refine y_new (ci := 11) C hA hR0 cl_J4 ⟨tcl_SlabCutterLaw_43, icl_J4.1, icl_J4.2⟩ idf_J4 (k := 4) rfl ⟨by decide, by decide⟩ dL_act_116 (fun q cq sq eq1 eq2 => ?_)
  refine x_dup C rfl dL_act_119 ?_
  refine y_tV C hA (t_I (rm := rmv 2 41 1 40) (As := []) (rest := [.ref q]) C hA hR0 hY.sub (ct_init (X := []) g.l g.G) tm_J4_init_da8c8 tl_SlabCutterLaw_124 ⟨rfl, rfl⟩ ⟨Nat.le_of_ble_eq_true rfl, Nat.le_of_ble_eq_true rfl⟩ rfl rfl (Nat.le_of_ble_eq_true rfl) ⟨(by omega : cq + 1 ≤ 50), (by omega : sq + 40 ≤ 28000)⟩ dL_act_120) (fun ws' ch sh hp e1 e2 => ?_)
  refine x_astore (lv' := [(7, .ref q), (0, .ref (ad 1)), (1, .ref b), (2, iV k), (3, iV n), (4, iV m), (5, iV parts), (6, iV high)]) C dL_act_123 (by decide) rfl ?_
  refine x_iconst C dL_act_125 ?_
  refine x_istore (lv' := [(8, iV 0), (7, .ref q), (0, .ref (ad 1)), (1, .ref b), (2, iV k), (3, iV n), (4, iV m), (5, iV parts), (6, iV high)]) C dL_act_126 (by decide) rfl ?_
  refine XG.sub [2, 3, 4, 5, 6, 7, 8, 1, 0] rfl ?_
  exact L_awords C hS hfl hR (k := k) (parts := parts) (high := high) hn hm hpp hhh hww p0 hmn (fun es c s hT hd => L_a163 C hS hfl hR (k := k) (parts := parts) (high := high) hn hm hpp hhh hww p0 hmn hfd hB es c s hT hd) (1 + n % 4).toNat 0 ws' ch sh (by omega) hp (by omega)

theorem L_a181 {g : Cx} (C : CX g cL_act 9 (some .int) RL) {na : Nat} {ad : Nat → Nat} {b L : Nat} {xs : Nat → Int32} (hS : SX g na ad b L xs (rmv 10 280 50 28000)) {w : Wd} (hfl : g.l.stackTraces = false) {z : Int × Nat × Wd} (hR : rtX g na ad cL_act .int 50 28000 z) {k n m parts high wide : Int} (hn : 0 ≤ n ∧ n < 100000) (hm : 0 ≤ m ∧ m < 100000) (hpp : 0 ≤ parts ∧ parts ≤ 100) (hhh : 1 ≤ high ∧ high ≤ 100) (hww : 1 ≤ wide ∧ wide ≤ 100) (p0 : p_Y8_property 0 w = some (wide, w)) (hB : if parts = 0 then (-99, na, w) = z else p_L_dropped (n % parts) na w = some z) : XG g (na, ad, 0, 0) (hY g (na, ad, 0, 0) w []) [(0, .ref (ad 1)), (1, .ref b), (2, iV k), (3, iV n), (4, iV m), (5, iV parts), (6, iV high)] [] 181 := by
  obtain ⟨hA, hR0, hX, hbs, hbA, hL9⟩ := hS
  by_cases c : parts = 0
  · refine x_iload C 5 dL_act_181 rfl ?_
    refine x_if_ne (tgt := 191) (P1 := some ()) (P2 := none) (z := ()) C dL_act_183 (by decide) (if_pos (by rw [eqq (by omega)] <;> omega)) (fun h => nomatch h) (fun _ => ?_)
    refine x_bipush (v := -99) C dL_act_186 (by decide +kernel) ?_
    refine x_goto (tgt := 199) C dL_act_188 (by decide) ?_
    rw [if_pos c] at hB
    exact hR (na, ad, 0, 0) _ _ _ _ _ (AG.rf (na, ad, 0, 0)) ⟨Nat.zero_le _, Nat.zero_le _⟩ hB rfl dL_act_199
  · rw [if_neg c] at hB
    refine x_iload C 5 dL_act_181 rfl ?_
    refine x_if_ne (tgt := 191) (P1 := none) (P2 := some ()) (z := ()) C dL_act_183 (by decide) (if_neg (by rw [eqq (by omega)] <;> omega)) (fun _ => ?_) (fun h => nomatch h)
    refine x_aload_n C 0 dL_act_191 rfl ?_
    refine x_iload_n C 3 dL_act_192 rfl ?_
    refine x_iload C 5 dL_act_193 rfl ?_
    refine x_irem C (eqf (by omega) (by omega)) dL_act_195 ?_
    rw [rmq (by omega) (by omega)]
    refine q_wr (mc' := 14) (ms' := 846) (rm := rmv 8 160 14 846) (As := [.ref (ad 1), iV (n % parts)]) (rest := []) (pv := p_L_dropped (n % parts) na w) (Kt := some) (res := z) (d := (na, ad, 0, 0)) C hA hR0 mfL_dropped tl_SlabCutterLaw_129 ⟨rfl, rfl⟩ ⟨Nat.le_of_ble_eq_true rfl, Nat.le_of_ble_eq_true rfl⟩ rfl rfl (Nat.le_of_ble_eq_true rfl) ⟨(by omega : 0 + 14 ≤ 50), (by omega : 0 + 846 ≤ 28000)⟩ dL_act_196 (by rw [hB]; rfl) (fun _ h => c_L_dropped g.l g.G hfl h) (fun z1 d1 _ hz hag hn9 hc9 hs9 => ?_)
    cases hz
    exact hR d1 _ _ _ _ _ hag ⟨by rw [hc9]; show 0 + 14 ≤ 50; omega, by rw [hs9]; show 0 + 846 ≤ 28000; omega⟩ (by rw [hn9]) rfl dL_act_199

theorem L_a200 {g : Cx} (C : CX g cL_act 9 (some .int) RL) {na : Nat} {ad : Nat → Nat} {b L : Nat} {xs : Nat → Int32} (hS : SX g na ad b L xs (rmv 10 280 50 28000)) {w : Wd} (hfl : g.l.stackTraces = false) {z : Int × Nat × Wd} (hR : rtX g na ad cL_act .int 50 28000 z) {k n m parts high wide : Int} (hn : 0 ≤ n ∧ n < 100000) (hm : 0 ≤ m ∧ m < 100000) (hpp : 0 ≤ parts ∧ parts ≤ 100) (hhh : 1 ≤ high ∧ high ≤ 100) (hww : 1 ≤ wide ∧ wide ≤ 100) (p0 : p_Y8_property 0 w = some (wide, w)) (hB : if parts = 0 then (-99, na, w) = z else p_L_moved (n % parts) (m % parts) na w = some z) : XG g (na, ad, 0, 0) (hY g (na, ad, 0, 0) w []) [(0, .ref (ad 1)), (1, .ref b), (2, iV k), (3, iV n), (4, iV m), (5, iV parts), (6, iV high)] [] 200 := by
  obtain ⟨hA, hR0, hX, hbs, hbA, hL9⟩ := hS
  by_cases c : parts = 0
  · refine x_iload C 5 dL_act_200 rfl ?_
    refine x_if_ne (tgt := 210) (P1 := some ()) (P2 := none) (z := ()) C dL_act_202 (by decide) (if_pos (by rw [eqq (by omega)] <;> omega)) (fun h => nomatch h) (fun _ => ?_)
    refine x_bipush (v := -99) C dL_act_205 (by decide +kernel) ?_
    refine x_goto (tgt := 223) C dL_act_207 (by decide) ?_
    rw [if_pos c] at hB
    exact hR (na, ad, 0, 0) _ _ _ _ _ (AG.rf (na, ad, 0, 0)) ⟨Nat.zero_le _, Nat.zero_le _⟩ hB rfl dL_act_223
  · rw [if_neg c] at hB
    refine x_iload C 5 dL_act_200 rfl ?_
    refine x_if_ne (tgt := 210) (P1 := none) (P2 := some ()) (z := ()) C dL_act_202 (by decide) (if_neg (by rw [eqq (by omega)] <;> omega)) (fun _ => ?_) (fun h => nomatch h)
    refine x_aload_n C 0 dL_act_210 rfl ?_
    refine x_iload_n C 3 dL_act_211 rfl ?_
    refine x_iload C 5 dL_act_212 rfl ?_
    refine x_irem C (eqf (by omega) (by omega)) dL_act_214 ?_
    rw [rmq (by omega) (by omega)]
    refine x_iload C 4 dL_act_215 rfl ?_
    refine x_iload C 5 dL_act_217 rfl ?_
    refine x_irem C (eqf (by omega) (by omega)) dL_act_219 ?_
    rw [rmq (by omega) (by omega)]
    refine q_wr (mc' := 15) (ms' := 852) (rm := rmv 8 161 15 852) (As := [.ref (ad 1), iV (n % parts), iV (m % parts)]) (rest := []) (pv := p_L_moved (n % parts) (m % parts) na w) (Kt := some) (res := z) (d := (na, ad, 0, 0)) C hA hR0 mfL_moved tl_SlabCutterLaw_132 ⟨rfl, rfl⟩ ⟨Nat.le_of_ble_eq_true rfl, Nat.le_of_ble_eq_true rfl⟩ rfl rfl (Nat.le_of_ble_eq_true rfl) ⟨(by omega : 0 + 15 ≤ 50), (by omega : 0 + 852 ≤ 28000)⟩ dL_act_220 (by rw [hB]; rfl) (fun _ h => c_L_moved g.l g.G hfl h) (fun z1 d1 _ hz hag hn9 hc9 hs9 => ?_)
    cases hz
    exact hR d1 _ _ _ _ _ hag ⟨by rw [hc9]; show 0 + 15 ≤ 50; omega, by rw [hs9]; show 0 + 852 ≤ 28000; omega⟩ (by rw [hn9]) rfl dL_act_223

theorem L_a224 {g : Cx} (C : CX g cL_act 9 (some .int) RL) {na : Nat} {ad : Nat → Nat} {b L : Nat} {xs : Nat → Int32} (hS : SX g na ad b L xs (rmv 10 280 50 28000)) {w : Wd} (hfl : g.l.stackTraces = false) {z : Int × Nat × Wd} (hR : rtX g na ad cL_act .int 50 28000 z) {k n m parts high wide : Int} (hn : 0 ≤ n ∧ n < 100000) (hm : 0 ≤ m ∧ m < 100000) (hpp : 0 ≤ parts ∧ parts ≤ 100) (hhh : 1 ≤ high ∧ high ≤ 100) (hww : 1 ≤ wide ∧ wide ≤ 100) (p0 : p_Y8_property 0 w = some (wide, w)) (hB : p_L_flawed (n % wide) (m % high) (if 0 < n % 3 then 1 else 0) na w = some z) : XG g (na, ad, 0, 0) (hY g (na, ad, 0, 0) w []) [(0, .ref (ad 1)), (1, .ref b), (2, iV k), (3, iV n), (4, iV m), (5, iV parts), (6, iV high)] [] 224 := by
  obtain ⟨hA, hR0, hX, hbs, hbA, hL9⟩ := hS
  refine x_aload_n C 0 dL_act_224 rfl ?_
  refine x_iload_n C 3 dL_act_225 rfl ?_
  refine x_aload_n C 0 dL_act_226 rfl ?_
  refine x_iconst C dL_act_227 ?_
  refine q_pr C hA hR0 tl_SlabCutterLaw_94 ⟨Nat.le_of_ble_eq_true rfl, Nat.le_of_ble_eq_true rfl⟩ (Nat.le_of_ble_eq_true rfl) ⟨(by omega : 0 ≤ 50), (by omega : 0 ≤ 28000)⟩ dL_act_228 p0 ?_
  refine x_irem C (eqf (by omega) (by omega)) dL_act_231 ?_
  rw [rmq (by omega) (by omega)]
  refine x_iload C 4 dL_act_232 rfl ?_
  refine x_iload C 6 dL_act_234 rfl ?_
  refine x_irem C (eqf (by omega) (by omega)) dL_act_236 ?_
  rw [rmq (by omega) (by omega)]
  refine x_iload_n C 3 dL_act_237 rfl ?_
  refine x_iconst C dL_act_238 ?_
  refine x_irem C (eqf (by omega) (by omega)) dL_act_239 ?_
  rw [rmq (by omega) (by omega)]
  by_cases c : 0 < n % 3
  · rw [if_pos c] at hB
    refine x_if_le (tgt := 247) (P1 := some ()) (P2 := none) (z := ()) C dL_act_240 (by decide) (if_pos (by rw [ltq (by omega)] <;> omega)) (fun h => nomatch h) (fun _ => ?_)
    refine x_iconst C dL_act_243 ?_
    refine x_goto (tgt := 248) C dL_act_244 (by decide) ?_
    refine q_wr (mc' := 15) (ms' := 852) (rm := rmv 9 163 15 852) (As := [.ref (ad 1), iV (n % wide), iV (m % high), iV 1]) (rest := []) (pv := p_L_flawed (n % wide) (m % high) 1 na w) (Kt := some) (res := z) (d := (na, ad, 0, 0)) C hA hR0 mfL_flawed tl_SlabCutterLaw_136 ⟨rfl, rfl⟩ ⟨Nat.le_of_ble_eq_true rfl, Nat.le_of_ble_eq_true rfl⟩ rfl rfl (Nat.le_of_ble_eq_true rfl) ⟨(by omega : 0 + 15 ≤ 50), (by omega : 0 + 852 ≤ 28000)⟩ dL_act_248 (by rw [hB]; rfl) (fun _ h => c_L_flawed g.l g.G hfl h) (fun z1 d1 _ hz hag hn9 hc9 hs9 => ?_)
    cases hz
    exact hR d1 _ _ _ _ _ hag ⟨by rw [hc9]; show 0 + 15 ≤ 50; omega, by rw [hs9]; show 0 + 852 ≤ 28000; omega⟩ (by rw [hn9]) rfl dL_act_251
  · rw [if_neg c] at hB
    refine x_if_le (tgt := 247) (P1 := none) (P2 := some ()) (z := ()) C dL_act_240 (by decide) (if_neg (by rw [ltq (by omega)] <;> omega)) (fun _ => ?_) (fun h => nomatch h)
    refine x_iconst C dL_act_247 ?_
    refine q_wr (mc' := 15) (ms' := 852) (rm := rmv 9 163 15 852) (As := [.ref (ad 1), iV (n % wide), iV (m % high), iV 0]) (rest := []) (pv := p_L_flawed (n % wide) (m % high) 0 na w) (Kt := some) (res := z) (d := (na, ad, 0, 0)) C hA hR0 mfL_flawed tl_SlabCutterLaw_136 ⟨rfl, rfl⟩ ⟨Nat.le_of_ble_eq_true rfl, Nat.le_of_ble_eq_true rfl⟩ rfl rfl (Nat.le_of_ble_eq_true rfl) ⟨(by omega : 0 + 15 ≤ 50), (by omega : 0 + 852 ≤ 28000)⟩ dL_act_248 (by rw [hB]; rfl) (fun _ h => c_L_flawed g.l g.G hfl h) (fun z1 d1 _ hz hag hn9 hc9 hs9 => ?_)
    cases hz
    exact hR d1 _ _ _ _ _ hag ⟨by rw [hc9]; show 0 + 15 ≤ 50; omega, by rw [hs9]; show 0 + 852 ≤ 28000; omega⟩ (by rw [hn9]) rfl dL_act_251

theorem L_a352 {g : Cx} (C : CX g cL_act 9 (some .int) RL) {na : Nat} {ad : Nat → Nat} {b L : Nat} {xs : Nat → Int32} (hS : SX g na ad b L xs (rmv 10 280 50 28000)) {w : Wd} (hfl : g.l.stackTraces = false) {z : Int × Nat × Wd} (hR : rtX g na ad cL_act .int 50 28000 z) {k n m parts high wide : Int} (hn : 0 ≤ n ∧ n < 100000) (hm : 0 ≤ m ∧ m < 100000) (hpp : 0 ≤ parts ∧ parts ≤ 100) (hhh : 1 ≤ high ∧ high ≤ 100) (hww : 1 ≤ wide ∧ wide ≤ 100) (p0 : p_Y8_property 0 w = some (wide, w)) (hB : p_L_flawed (n % wide) (m % high) 1 na w = some z) : XG g (na, ad, 0, 0) (hY g (na, ad, 0, 0) w []) [(0, .ref (ad 1)), (1, .ref b), (2, iV k), (3, iV n), (4, iV m), (5, iV parts), (6, iV high)] [] 352 := by
  obtain ⟨hA, hR0, hX, hbs, hbA, hL9⟩ := hS
  refine x_aload_n C 0 dL_act_352 rfl ?_
  refine x_iload_n C 3 dL_act_353 rfl ?_
  refine x_aload_n C 0 dL_act_354 rfl ?_
  refine x_iconst C dL_act_355 ?_
  refine q_pr C hA hR0 tl_SlabCutterLaw_94 ⟨Nat.le_of_ble_eq_true rfl, Nat.le_of_ble_eq_true rfl⟩ (Nat.le_of_ble_eq_true rfl) ⟨(by omega : 0 ≤ 50), (by omega : 0 ≤ 28000)⟩ dL_act_356 p0 ?_
  refine x_irem C (eqf (by omega) (by omega)) dL_act_359 ?_
  rw [rmq (by omega) (by omega)]
  refine x_iload C 4 dL_act_360 rfl ?_
  refine x_iload C 6 dL_act_362 rfl ?_
  refine x_irem C (eqf (by omega) (by omega)) dL_act_364 ?_
  rw [rmq (by omega) (by omega)]
  refine x_iconst C dL_act_365 ?_
  refine q_wr (mc' := 15) (ms' := 852) (rm := rmv 9 163 15 852) (As := [.ref (ad 1), iV (n % wide), iV (m % high), iV 1]) (rest := []) (pv := p_L_flawed (n % wide) (m % high) 1 na w) (Kt := some) (res := z) (d := (na, ad, 0, 0)) C hA hR0 mfL_flawed tl_SlabCutterLaw_136 ⟨rfl, rfl⟩ ⟨Nat.le_of_ble_eq_true rfl, Nat.le_of_ble_eq_true rfl⟩ rfl rfl (Nat.le_of_ble_eq_true rfl) ⟨(by omega : 0 + 15 ≤ 50), (by omega : 0 + 852 ≤ 28000)⟩ dL_act_366 (by rw [hB]; rfl) (fun _ h => c_L_flawed g.l g.G hfl h) (fun z1 d1 _ hz hag hn9 hc9 hs9 => ?_)
  cases hz
  exact hR d1 _ _ _ _ _ hag ⟨by rw [hc9]; show 0 + 15 ≤ 50; omega, by rw [hs9]; show 0 + 852 ≤ 28000; omega⟩ (by rw [hn9]) rfl dL_act_369

theorem L_a252 {g : Cx} (C : CX g cL_act 9 (some .int) RL) {na : Nat} {ad : Nat → Nat} {b L : Nat} {xs : Nat → Int32} (hS : SX g na ad b L xs (rmv 10 280 50 28000)) {w : Wd} (hfl : g.l.stackTraces = false) {z : Int × Nat × Wd} (hR : rtX g na ad cL_act .int 50 28000 z) {k n m parts high wide : Int} (hn : 0 ≤ n ∧ n < 100000) (hm : 0 ≤ m ∧ m < 100000) (hpp : 0 ≤ parts ∧ parts ≤ 100) (hhh : 1 ≤ high ∧ high ≤ 100) (hww : 1 ≤ wide ∧ wide ≤ 100) (p0 : p_Y8_property 0 w = some (wide, w)) (hB : p_L_spaced (n % 4) na w = some z) : XG g (na, ad, 0, 0) (hY g (na, ad, 0, 0) w []) [(0, .ref (ad 1)), (1, .ref b), (2, iV k), (3, iV n), (4, iV m), (5, iV parts), (6, iV high)] [] 252 := by
  obtain ⟨hA, hR0, hX, hbs, hbA, hL9⟩ := hS
  refine x_aload_n C 0 dL_act_252 rfl ?_
  refine x_iload_n C 3 dL_act_253 rfl ?_
  refine x_iconst C dL_act_254 ?_
  refine x_irem C (eqf (by omega) (by omega)) dL_act_255 ?_
  rw [rmq (by omega) (by omega)]
  refine q_wr (mc' := 14) (ms' := 846) (rm := rmv 8 161 14 846) (As := [.ref (ad 1), iV (n % 4)]) (rest := []) (pv := p_L_spaced (n % 4) na w) (Kt := some) (res := z) (d := (na, ad, 0, 0)) C hA hR0 mfL_spaced tl_SlabCutterLaw_140 ⟨rfl, rfl⟩ ⟨Nat.le_of_ble_eq_true rfl, Nat.le_of_ble_eq_true rfl⟩ rfl rfl (Nat.le_of_ble_eq_true rfl) ⟨(by omega : 0 + 14 ≤ 50), (by omega : 0 + 846 ≤ 28000)⟩ dL_act_256 (by rw [hB]; rfl) (fun _ h => c_L_spaced g.l g.G hfl h) (fun z1 d1 _ hz hag hn9 hc9 hs9 => ?_)
  cases hz
  exact hR d1 _ _ _ _ _ hag ⟨by rw [hc9]; show 0 + 14 ≤ 50; omega, by rw [hs9]; show 0 + 846 ≤ 28000; omega⟩ (by rw [hn9]) rfl dL_act_259

theorem L_a260 {g : Cx} (C : CX g cL_act 9 (some .int) RL) {na : Nat} {ad : Nat → Nat} {b L : Nat} {xs : Nat → Int32} (hS : SX g na ad b L xs (rmv 10 280 50 28000)) {w : Wd} (hfl : g.l.stackTraces = false) {z : Int × Nat × Wd} (hR : rtX g na ad cL_act .int 50 28000 z) {k n m parts high wide : Int} (hn : 0 ≤ n ∧ n < 100000) (hm : 0 ≤ m ∧ m < 100000) (hpp : 0 ≤ parts ∧ parts ≤ 100) (hhh : 1 ≤ high ∧ high ≤ 100) (hww : 1 ≤ wide ∧ wide ≤ 100) (p0 : p_Y8_property 0 w = some (wide, w)) (hB : p_L_turned na w = some z) : XG g (na, ad, 0, 0) (hY g (na, ad, 0, 0) w []) [(0, .ref (ad 1)), (1, .ref b), (2, iV k), (3, iV n), (4, iV m), (5, iV parts), (6, iV high)] [] 260 := by
  obtain ⟨hA, hR0, hX, hbs, hbA, hL9⟩ := hS
  refine x_aload_n C 0 dL_act_260 rfl ?_
  refine q_wr (mc' := 12) (ms' := 834) (rm := rmv 7 159 12 834) (As := [.ref (ad 1)]) (rest := []) (pv := p_L_turned  na w) (Kt := some) (res := z) (d := (na, ad, 0, 0)) C hA hR0 mfL_turned tl_SlabCutterLaw_143 ⟨rfl, rfl⟩ ⟨Nat.le_of_ble_eq_true rfl, Nat.le_of_ble_eq_true rfl⟩ rfl rfl (Nat.le_of_ble_eq_true rfl) ⟨(by omega : 0 + 12 ≤ 50), (by omega : 0 + 834 ≤ 28000)⟩ dL_act_261 (by rw [hB]; rfl) (fun _ h => c_L_turned g.l g.G hfl h) (fun z1 d1 _ hz hag hn9 hc9 hs9 => ?_)
  cases hz
  exact hR d1 _ _ _ _ _ hag ⟨by rw [hc9]; show 0 + 12 ≤ 50; omega, by rw [hs9]; show 0 + 834 ≤ 28000; omega⟩ (by rw [hn9]) rfl dL_act_264

theorem L_a265 {g : Cx} (C : CX g cL_act 9 (some .int) RL) {na : Nat} {ad : Nat → Nat} {b L : Nat} {xs : Nat → Int32} (hS : SX g na ad b L xs (rmv 10 280 50 28000)) {w : Wd} (hfl : g.l.stackTraces = false) {z : Int × Nat × Wd} (hR : rtX g na ad cL_act .int 50 28000 z) {k n m parts high wide : Int} (hn : 0 ≤ n ∧ n < 100000) (hm : 0 ≤ m ∧ m < 100000) (hpp : 0 ≤ parts ∧ parts ≤ 100) (hhh : 1 ≤ high ∧ high ≤ 100) (hww : 1 ≤ wide ∧ wide ≤ 100) (p0 : p_Y8_property 0 w = some (wide, w)) (hB : if high < 3 ∨ 0 < n % 3 then (-99, na, w) = z else p_L_cut (1 + m % (high - 2)) (if m % 2 = 0 then 1 else 0) na w = some z) : XG g (na, ad, 0, 0) (hY g (na, ad, 0, 0) w []) [(0, .ref (ad 1)), (1, .ref b), (2, iV k), (3, iV n), (4, iV m), (5, iV parts), (6, iV high)] [] 265 := by
  obtain ⟨hA, hR0, hX, hbs, hbA, hL9⟩ := hS
  by_cases c : high < 3
  · refine x_iload C 6 dL_act_265 rfl ?_
    refine x_iconst C dL_act_267 ?_
    refine x_icmp_lt (tgt := 277) (P1 := some ()) (P2 := none) (z := ()) C dL_act_268 (by decide) (if_pos (by rw [ltq (by omega)] <;> omega)) (fun _ => ?_) (fun h => nomatch h)
    refine x_bipush (v := -99) C dL_act_277 (by decide +kernel) ?_
    refine x_goto (tgt := 307) C dL_act_279 (by decide) ?_
    rw [if_pos (Or.inl c)] at hB
    exact hR (na, ad, 0, 0) _ _ _ _ _ (AG.rf (na, ad, 0, 0)) ⟨Nat.zero_le _, Nat.zero_le _⟩ hB rfl dL_act_307
  · refine x_iload C 6 dL_act_265 rfl ?_
    refine x_iconst C dL_act_267 ?_
    refine x_icmp_lt (tgt := 277) (P1 := none) (P2 := some ()) (z := ()) C dL_act_268 (by decide) (if_neg (by rw [ltq (by omega)] <;> omega)) (fun h => nomatch h) (fun _ => ?_)
    refine x_iload_n C 3 dL_act_271 rfl ?_
    refine x_iconst C dL_act_272 ?_
    refine x_irem C (eqf (by omega) (by omega)) dL_act_273 ?_
    rw [rmq (by omega) (by omega)]
    by_cases c2 : 0 < n % 3
    · refine x_if_le (tgt := 282) (P1 := some ()) (P2 := none) (z := ()) C dL_act_274 (by decide) (if_pos (by rw [ltq (by omega)] <;> omega)) (fun h => nomatch h) (fun _ => ?_)
      refine x_bipush (v := -99) C dL_act_277 (by decide +kernel) ?_
      refine x_goto (tgt := 307) C dL_act_279 (by decide) ?_
      rw [if_pos (Or.inr c2)] at hB
      exact hR (na, ad, 0, 0) _ _ _ _ _ (AG.rf (na, ad, 0, 0)) ⟨Nat.zero_le _, Nat.zero_le _⟩ hB rfl dL_act_307
    · rw [if_neg (fun e => e.elim c c2)] at hB
      refine x_if_le (tgt := 282) (P1 := none) (P2 := some ()) (z := ()) C dL_act_274 (by decide) (if_neg (by rw [ltq (by omega)] <;> omega)) (fun _ => ?_) (fun h => nomatch h)
      refine x_aload_n C 0 dL_act_282 rfl ?_
      refine x_iconst C dL_act_283 ?_
      refine x_iload C 4 dL_act_284 rfl ?_
      refine x_iload C 6 dL_act_286 rfl ?_
      refine x_iconst C dL_act_288 ?_
      refine x_isub C dL_act_289 ?_
      refine x_irem C (eqf (by omega) (by omega)) dL_act_290 ?_
      rw [rmq (by omega) (by omega)]
      refine x_iadd C dL_act_291 ?_
      refine x_iload C 4 dL_act_292 rfl ?_
      refine x_iconst C dL_act_294 ?_
      refine x_irem C (eqf (by omega) (by omega)) dL_act_295 ?_
      rw [rmq (by omega) (by omega)]
      by_cases c3 : m % 2 = 0
      · rw [if_pos c3] at hB
        refine x_if_ne (tgt := 303) (P1 := some ()) (P2 := none) (z := ()) C dL_act_296 (by decide) (if_pos (by rw [eqq (by omega)] <;> omega)) (fun h => nomatch h) (fun _ => ?_)
        refine x_iconst C dL_act_299 ?_
        refine x_goto (tgt := 304) C dL_act_300 (by decide) ?_
        refine q_wr (mc' := 13) (ms' := 840) (rm := rmv 8 161 13 840) (As := [.ref (ad 1), iV (1 + (m % (high - 2))), iV 1]) (rest := []) (pv := p_L_cut (1 + (m % (high - 2))) 1 na w) (Kt := some) (res := z) (d := (na, ad, 0, 0)) C hA hR0 mfL_cut tl_SlabCutterLaw_147 ⟨rfl, rfl⟩ ⟨Nat.le_of_ble_eq_true rfl, Nat.le_of_ble_eq_true rfl⟩ rfl rfl (Nat.le_of_ble_eq_true rfl) ⟨(by omega : 0 + 13 ≤ 50), (by omega : 0 + 840 ≤ 28000)⟩ dL_act_304 (by rw [hB]; rfl) (fun _ h => c_L_cut g.l g.G hfl h) (fun z1 d1 _ hz hag hn9 hc9 hs9 => ?_)
        cases hz
        exact hR d1 _ _ _ _ _ hag ⟨by rw [hc9]; show 0 + 13 ≤ 50; omega, by rw [hs9]; show 0 + 840 ≤ 28000; omega⟩ (by rw [hn9]) rfl dL_act_307
      · rw [if_neg c3] at hB
        refine x_if_ne (tgt := 303) (P1 := none) (P2 := some ()) (z := ()) C dL_act_296 (by decide) (if_neg (by rw [eqq (by omega)] <;> omega)) (fun _ => ?_) (fun h => nomatch h)
        refine x_iconst C dL_act_303 ?_
        refine q_wr (mc' := 13) (ms' := 840) (rm := rmv 8 161 13 840) (As := [.ref (ad 1), iV (1 + (m % (high - 2))), iV 0]) (rest := []) (pv := p_L_cut (1 + (m % (high - 2))) 0 na w) (Kt := some) (res := z) (d := (na, ad, 0, 0)) C hA hR0 mfL_cut tl_SlabCutterLaw_147 ⟨rfl, rfl⟩ ⟨Nat.le_of_ble_eq_true rfl, Nat.le_of_ble_eq_true rfl⟩ rfl rfl (Nat.le_of_ble_eq_true rfl) ⟨(by omega : 0 + 13 ≤ 50), (by omega : 0 + 840 ≤ 28000)⟩ dL_act_304 (by rw [hB]; rfl) (fun _ h => c_L_cut g.l g.G hfl h) (fun z1 d1 _ hz hag hn9 hc9 hs9 => ?_)
        cases hz
        exact hR d1 _ _ _ _ _ hag ⟨by rw [hc9]; show 0 + 13 ≤ 50; omega, by rw [hs9]; show 0 + 840 ≤ 28000; omega⟩ (by rw [hn9]) rfl dL_act_307

theorem L_a308 {g : Cx} (C : CX g cL_act 9 (some .int) RL) {na : Nat} {ad : Nat → Nat} {b L : Nat} {xs : Nat → Int32} (hS : SX g na ad b L xs (rmv 10 280 50 28000)) {w : Wd} (hfl : g.l.stackTraces = false) {z : Int × Nat × Wd} (hR : rtX g na ad cL_act .int 50 28000 z) {k n m parts high wide : Int} (hn : 0 ≤ n ∧ n < 100000) (hm : 0 ≤ m ∧ m < 100000) (hpp : 0 ≤ parts ∧ parts ≤ 100) (hhh : 1 ≤ high ∧ high ≤ 100) (hww : 1 ≤ wide ∧ wide ≤ 100) (p0 : p_Y8_property 0 w = some (wide, w)) (hB : if n % 2 = 0 then ∃ r na1 w1, p_X8_carve (1 + m % 9) na w = some (.inl r, na1, w1) ∧ (r, na1, w1) = z else (-99, na, w) = z) : XG g (na, ad, 0, 0) (hY g (na, ad, 0, 0) w []) [(0, .ref (ad 1)), (1, .ref b), (2, iV k), (3, iV n), (4, iV m), (5, iV parts), (6, iV high)] [] 308 := by
  obtain ⟨hA, hR0, hX, hbs, hbA, hL9⟩ := hS
  refine x_iload_n C 3 dL_act_308 rfl ?_
  refine x_iconst C dL_act_309 ?_
  refine x_irem C (eqf (by omega) (by omega)) dL_act_310 ?_
  rw [rmq (by omega) (by omega)]
  by_cases c : n % 2 = 0
  · rw [if_pos c] at hB
    obtain ⟨r9, na9, w9, hB, rfl⟩ := hB
    refine x_if_ne (tgt := 328) (P1 := some ()) (P2 := none) (z := ()) C dL_act_311 (by decide) (if_pos (by rw [eqq (by omega)] <;> omega)) (fun h => nomatch h) (fun _ => ?_)
    refine x_aload_n C 0 dL_act_314 rfl ?_
    refine x_iconst C dL_act_315 ?_
    refine x_iload C 4 dL_act_316 rfl ?_
    refine x_bipush (v := 9) C dL_act_318 (by decide +kernel) ?_
    refine x_irem C (eqf (by omega) (by omega)) dL_act_320 ?_
    rw [rmq (by omega) (by omega)]
    refine x_iadd C dL_act_321 ?_
    refine q_cG (K := 9) (o := 1) (d := (na, ad, 0, 0)) (rm := rmv 6 139 12 834) (As := [iV (1 + (m % 9))]) (rest := []) C hA hR0 tm_X8_carve tl_SlabCutterLaw_151 rfl ⟨rfl, rfl⟩ (by decide) ⟨rfl, rfl⟩ ⟨Nat.le_of_ble_eq_true rfl, Nat.le_of_ble_eq_true rfl⟩ rfl rfl (Nat.le_of_ble_eq_true rfl) ⟨(by omega : 0 + 12 ≤ 50), (by omega : 0 + 834 ≤ 28000)⟩ dL_act_322 (c_X8_carve g.l g.G hfl rfl hB) (fun d1 hag hn9 hc9 hs9 => ?_)
    refine x_goto (tgt := 330) C dL_act_325 (by decide) ?_
    exact hR d1 _ _ _ _ _ hag ⟨by rw [hc9]; show 0 + 12 ≤ 50; omega, by rw [hs9]; show 0 + 834 ≤ 28000; omega⟩ (by rw [hn9]) rfl dL_act_330
  · rw [if_neg c] at hB
    refine x_if_ne (tgt := 328) (P1 := none) (P2 := some ()) (z := ()) C dL_act_311 (by decide) (if_neg (by rw [eqq (by omega)] <;> omega)) (fun _ => ?_) (fun h => nomatch h)
    refine x_bipush (v := -99) C dL_act_328 (by decide +kernel) ?_
    exact hR (na, ad, 0, 0) _ _ _ _ _ (AG.rf (na, ad, 0, 0)) ⟨Nat.zero_le _, Nat.zero_le _⟩ hB rfl dL_act_330

theorem L_a331 {g : Cx} (C : CX g cL_act 9 (some .int) RL) {na : Nat} {ad : Nat → Nat} {b L : Nat} {xs : Nat → Int32} (hS : SX g na ad b L xs (rmv 10 280 50 28000)) {w : Wd} (hfl : g.l.stackTraces = false) {z : Int × Nat × Wd} (hR : rtX g na ad cL_act .int 50 28000 z) {k n m parts high wide : Int} (hn : 0 ≤ n ∧ n < 100000) (hm : 0 ≤ m ∧ m < 100000) (hpp : 0 ≤ parts ∧ parts ≤ 100) (hhh : 1 ≤ high ∧ high ≤ 100) (hww : 1 ≤ wide ∧ wide ≤ 100) (p0 : p_Y8_property 0 w = some (wide, w)) (hB : ∃ r na1 w1, p_X8_sharpen na w = some (.inl r, na1, w1) ∧ (r, na1, w1) = z) : XG g (na, ad, 0, 0) (hY g (na, ad, 0, 0) w []) [(0, .ref (ad 1)), (1, .ref b), (2, iV k), (3, iV n), (4, iV m), (5, iV parts), (6, iV high)] [] 331 := by
  obtain ⟨hA, hR0, hX, hbs, hbA, hL9⟩ := hS
  obtain ⟨r9, na9, w9, hB, rfl⟩ := hB
  refine x_aload_n C 0 dL_act_331 rfl ?_
  refine q_cG (K := 9) (o := 1) (d := (na, ad, 0, 0)) (rm := rmv 6 139 12 834) (As := []) (rest := []) C hA hR0 tm_X8_sharpen tl_SlabCutterLaw_154 rfl ⟨rfl, rfl⟩ (by decide) ⟨rfl, rfl⟩ ⟨Nat.le_of_ble_eq_true rfl, Nat.le_of_ble_eq_true rfl⟩ rfl rfl (Nat.le_of_ble_eq_true rfl) ⟨(by omega : 0 + 12 ≤ 50), (by omega : 0 + 834 ≤ 28000)⟩ dL_act_332 (c_X8_sharpen g.l g.G hfl rfl hB) (fun d1 hag hn9 hc9 hs9 => ?_)
  exact hR d1 _ _ _ _ _ hag ⟨by rw [hc9]; show 0 + 12 ≤ 50; omega, by rw [hs9]; show 0 + 834 ≤ 28000; omega⟩ (by rw [hn9]) rfl dL_act_335

theorem L_a336 {g : Cx} (C : CX g cL_act 9 (some .int) RL) {na : Nat} {ad : Nat → Nat} {b L : Nat} {xs : Nat → Int32} (hS : SX g na ad b L xs (rmv 10 280 50 28000)) {w : Wd} (hfl : g.l.stackTraces = false) {z : Int × Nat × Wd} (hR : rtX g na ad cL_act .int 50 28000 z) {k n m parts high wide : Int} (hn : 0 ≤ n ∧ n < 100000) (hm : 0 ≤ m ∧ m < 100000) (hpp : 0 ≤ parts ∧ parts ≤ 100) (hhh : 1 ≤ high ∧ high ≤ 100) (hww : 1 ≤ wide ∧ wide ≤ 100) (p0 : p_Y8_property 0 w = some (wide, w)) (hB : ∃ r na1 w1, p_X8_setChisel (1 + n % 40) (m % 100) na w = some (.inl r, na1, w1) ∧ (r, na1, w1) = z) : XG g (na, ad, 0, 0) (hY g (na, ad, 0, 0) w []) [(0, .ref (ad 1)), (1, .ref b), (2, iV k), (3, iV n), (4, iV m), (5, iV parts), (6, iV high)] [] 336 := by
  obtain ⟨hA, hR0, hX, hbs, hbA, hL9⟩ := hS
  obtain ⟨r9, na9, w9, hB, rfl⟩ := hB
  refine x_aload_n C 0 dL_act_336 rfl ?_
  refine x_iconst C dL_act_337 ?_
  refine x_iload_n C 3 dL_act_338 rfl ?_
  refine x_bipush (v := 40) C dL_act_339 (by decide +kernel) ?_
  refine x_irem C (eqf (by omega) (by omega)) dL_act_341 ?_
  rw [rmq (by omega) (by omega)]
  refine x_iadd C dL_act_342 ?_
  refine x_iload C 4 dL_act_343 rfl ?_
  refine x_bipush (v := 100) C dL_act_345 (by decide +kernel) ?_
  refine x_irem C (eqf (by omega) (by omega)) dL_act_347 ?_
  rw [rmq (by omega) (by omega)]
  refine q_cG (K := 9) (o := 1) (d := (na, ad, 0, 0)) (rm := rmv 6 139 12 834) (As := [iV (1 + (n % 40)), iV (m % 100)]) (rest := []) C hA hR0 tm_X8_setChisel tl_SlabCutterLaw_157 rfl ⟨rfl, rfl⟩ (by decide) ⟨rfl, rfl⟩ ⟨Nat.le_of_ble_eq_true rfl, Nat.le_of_ble_eq_true rfl⟩ rfl rfl (Nat.le_of_ble_eq_true rfl) ⟨(by omega : 0 + 12 ≤ 50), (by omega : 0 + 834 ≤ 28000)⟩ dL_act_348 (c_X8_setChisel g.l g.G hfl rfl hB) (fun d1 hag hn9 hc9 hs9 => ?_)
  exact hR d1 _ _ _ _ _ hag ⟨by rw [hc9]; show 0 + 12 ≤ 50; omega, by rw [hs9]; show 0 + 834 ≤ 28000; omega⟩ (by rw [hn9]) rfl dL_act_351

/-- what the class must answer to one act of the law's -/
def actB (v n m parts high wide : Int) (na : Nat) (w : Wd) (z : Int × Nat × Wd) : Prop :=
  if v ≤ 2 then ∃ (fu : Nat) (w1 : Wd), fedF (actT n wide (1 + n % 4).toNat) fu 0 0 w = some w1 ∧ p_L_added (m % 3) na w1 = some z
  else if v = 3 then (if parts = 0 then (-99, na, w) = z else p_L_dropped (n % parts) na w = some z)
  else if v = 4 then (if parts = 0 then (-99, na, w) = z else p_L_moved (n % parts) (m % parts) na w = some z)
  else if v ≤ 7 then p_L_flawed (n % wide) (m % high) (if 0 < n % 3 then 1 else 0) na w = some z
  else if v = 8 then p_L_spaced (n % 4) na w = some z
  else if v = 9 then p_L_turned na w = some z
  else if v = 10 then (if high < 3 ∨ 0 < n % 3 then (-99, na, w) = z else p_L_cut (1 + m % (high - 2)) (if m % 2 = 0 then 1 else 0) na w = some z)
  else if v ≤ 12 then (if n % 2 = 0 then ∃ r na1 w1, p_X8_carve (1 + m % 9) na w = some (.inl r, na1, w1) ∧ (r, na1, w1) = z else (-99, na, w) = z)
  else if v = 13 then ∃ r na1 w1, p_X8_sharpen na w = some (.inl r, na1, w1) ∧ (r, na1, w1) = z
  else if v = 14 then ∃ r na1 w1, p_X8_setChisel (1 + n % 40) (m % 100) na w = some (.inl r, na1, w1) ∧ (r, na1, w1) = z
  else p_L_flawed (n % wide) (m % high) 1 na w = some z
def ActOK (xs : Nat → Int32) (L : Nat) (k parts high wide : Int) (na : Nat) (w : Wd) (z : Int × Nat × Wd) : Prop :=
  p_Y8_property 4 w = some (parts, w) ∧ p_Y8_property 1 w = some (high, w) ∧ p_Y8_property 0 w = some (wide, w) ∧ (0 ≤ parts ∧ parts ≤ 100) ∧ (1 ≤ high ∧ high ≤ 100) ∧ (1 ≤ wide ∧ wide ≤ 100) ∧ actB (drw xs L k 18) (drw xs L (k + 1) 100000) (drw xs L (k + 2) 100000) parts high wide na w z

theorem cL_act_ (l : Launch) (G : Gd) (hfl : l.stackTraces = false) {na : Nat} {ad : Nat → Nat} {b L : Nat} {xs : Nat → Int32} (hL : L ≤ 260) {w : Wd} {k parts high wide : Int} (hk : 0 ≤ k ∧ k ≤ 900) {z : Int × Nat × Wd} (hact : ActOK xs L k parts high wide na w z) : mX l yL_act cL_act 9 (some .int) (rmv 10 280 50 28000) G na ad b L xs [.ref (ad 1), .ref b, iV k] w z 50 28000 := by
  refine met_X [(0, .ref (ad 1)), (1, .ref b), (2, iV k)] (by decide) (Nat.le_of_ble_eq_true rfl) rfl .int rfl (fun g d C S hR => ?_)
  obtain ⟨rfl, hR0, rfl, hdm, rfl, hA, hX, hbs, hbA⟩ := S
  have hL9 := hL
  have hS : SX g na ad b L xs (rmv 10 280 50 28000) := ⟨hA, hR0, hX, hbs, hbA, hL9⟩
  obtain ⟨p4, p1, p0, hpp, hhh, hww, hB⟩ := hact
  refine x_aload_n C 1 dL_act_0 rfl ?_
  refine x_iload_n C 2 dL_act_1 rfl ?_
  refine x_iconst C dL_act_2 ?_
  refine x_iadd C dL_act_3 ?_
  refine x_ldc (v := 100000) C rfl tk_SlabCutterLaw_123 dL_act_4 ?_
  refine q_draw C hA hR0 hX hbs hbA (k := (k + 1)) (n := 100000) (by omega) hL9 (by decide +kernel) tl_SlabCutterLaw_50 ⟨Nat.le_of_ble_eq_true rfl, Nat.le_of_ble_eq_true rfl⟩ (Nat.le_of_ble_eq_true rfl) ⟨(by omega : 0 ≤ 50), (by omega : 0 ≤ 28000)⟩ dL_act_6 ?_
  refine x_istore_n (lv' := [(3, iV (drw xs L (k + 1) 100000)), (0, .ref (ad 1)), (1, .ref b), (2, iV k)]) C dL_act_9 (by decide) rfl ?_
  refine x_aload_n C 2 dL_act_10 rfl ?_
  refine x_iload_n C 3 dL_act_11 rfl ?_
  refine x_iconst C dL_act_12 ?_
  refine x_iadd C dL_act_13 ?_
  refine x_ldc (v := 100000) C rfl tk_SlabCutterLaw_123 dL_act_14 ?_
  refine q_draw C hA hR0 hX hbs hbA (k := (k + 2)) (n := 100000) (by omega) hL9 (by decide +kernel) tl_SlabCutterLaw_50 ⟨Nat.le_of_ble_eq_true rfl, Nat.le_of_ble_eq_true rfl⟩ (Nat.le_of_ble_eq_true rfl) ⟨(by omega : 0 ≤ 50), (by omega : 0 ≤ 28000)⟩ dL_act_16 ?_
  refine x_istore (lv' := [(4, iV (drw xs L (k + 2) 100000)), (3, iV (drw xs L (k + 1) 100000)), (0, .ref (ad 1)), (1, .ref b), (2, iV k)]) C dL_act_19 (by decide) rfl ?_
  refine x_aload_n C 2 dL_act_21 rfl ?_
  refine x_iconst C dL_act_22 ?_
  refine q_pr C hA hR0 tl_SlabCutterLaw_94 ⟨Nat.le_of_ble_eq_true rfl, Nat.le_of_ble_eq_true rfl⟩ (Nat.le_of_ble_eq_true rfl) ⟨(by omega : 0 ≤ 50), (by omega : 0 ≤ 28000)⟩ dL_act_23 p4 ?_
  refine x_istore (lv' := [(5, iV parts), (4, iV (drw xs L (k + 2) 100000)), (3, iV (drw xs L (k + 1) 100000)), (0, .ref (ad 1)), (1, .ref b), (2, iV k)]) C dL_act_26 (by decide) rfl ?_
  refine x_aload_n C 3 dL_act_28 rfl ?_
  refine x_iconst C dL_act_29 ?_
  refine q_pr C hA hR0 tl_SlabCutterLaw_94 ⟨Nat.le_of_ble_eq_true rfl, Nat.le_of_ble_eq_true rfl⟩ (Nat.le_of_ble_eq_true rfl) ⟨(by omega : 0 ≤ 50), (by omega : 0 ≤ 28000)⟩ dL_act_30 p1 ?_
  refine x_istore (lv' := [(6, iV high), (5, iV parts), (4, iV (drw xs L (k + 2) 100000)), (3, iV (drw xs L (k + 1) 100000)), (0, .ref (ad 1)), (1, .ref b), (2, iV k)]) C dL_act_33 (by decide) rfl ?_
  refine x_aload_n C 5 dL_act_35 rfl ?_
  refine x_iload_n C 6 dL_act_36 rfl ?_
  refine x_bipush (v := 18) C dL_act_37 (by decide +kernel) ?_
  refine q_draw C hA hR0 hX hbs hbA (k := k) (n := 18) (by omega) hL9 (by decide +kernel) tl_SlabCutterLaw_50 ⟨Nat.le_of_ble_eq_true rfl, Nat.le_of_ble_eq_true rfl⟩ (Nat.le_of_ble_eq_true rfl) ⟨(by omega : 0 ≤ 50), (by omega : 0 ≤ 28000)⟩ dL_act_39 ?_
  have r1 := drw_rng (xs := xs) (L := L) (k := k) (n := 18) (by decide)
  have r2 := drw_rng (xs := xs) (L := L) (k := k + 1) (n := 100000) (by decide)
  have r3 := drw_rng (xs := xs) (L := L) (k := k + 2) (n := 100000) (by decide)
  generalize drw xs L k 18 = v at r1 hB ⊢
  generalize drw xs L (k + 1) 100000 = n at r2 hB ⊢
  generalize drw xs L (k + 2) 100000 = m at r3 hB ⊢
  unfold actB at hB
  rcases (show v = 0 ∨ v = 1 ∨ v = 2 ∨ v = 3 ∨ v = 4 ∨ v = 5 ∨ v = 6 ∨ v = 7 ∨ v = 8 ∨ v = 9 ∨ v = 10 ∨ v = 11 ∨ v = 12 ∨ v = 13 ∨ v = 14 ∨ 14 < v by omega) with rfl | rfl | rfl | rfl | rfl | rfl | rfl | rfl | rfl | rfl | rfl | rfl | rfl | rfl | rfl | hv
  · refine x_tswk (tgt := 116) C (0) (by decide +kernel) (by decide +kernel) (by decide +kernel) dL_act_42 rfl (by decide) ?_
    refine XG.sub [4, 5, 6, 3, 2, 1, 0] rfl ?_
    rw [if_pos (by decide)] at hB
    obtain ⟨fu, w1, hfd, hB⟩ := hB
    exact L_a116 C hS hfl hR r2 r3 hpp hhh hww p0 hfd hB
  · refine x_tswk (tgt := 116) C (1) (by decide +kernel) (by decide +kernel) (by decide +kernel) dL_act_42 rfl (by decide) ?_
    refine XG.sub [4, 5, 6, 3, 2, 1, 0] rfl ?_
    rw [if_pos (by decide)] at hB
    obtain ⟨fu, w1, hfd, hB⟩ := hB
    exact L_a116 C hS hfl hR r2 r3 hpp hhh hww p0 hfd hB
  · refine x_tswk (tgt := 116) C (2) (by decide +kernel) (by decide +kernel) (by decide +kernel) dL_act_42 rfl (by decide) ?_
    refine XG.sub [4, 5, 6, 3, 2, 1, 0] rfl ?_
    rw [if_pos (by decide)] at hB
    obtain ⟨fu, w1, hfd, hB⟩ := hB
    exact L_a116 C hS hfl hR r2 r3 hpp hhh hww p0 hfd hB
  · refine x_tswk (tgt := 181) C (3) (by decide +kernel) (by decide +kernel) (by decide +kernel) dL_act_42 rfl (by decide) ?_
    refine XG.sub [4, 5, 6, 3, 2, 1, 0] rfl ?_
    rw [if_neg (by decide)] at hB
    rw [if_pos (by decide)] at hB
    exact L_a181 C hS hfl hR r2 r3 hpp hhh hww p0 hB
  · refine x_tswk (tgt := 200) C (4) (by decide +kernel) (by decide +kernel) (by decide +kernel) dL_act_42 rfl (by decide) ?_
    refine XG.sub [4, 5, 6, 3, 2, 1, 0] rfl ?_
    rw [if_neg (by decide)] at hB
    rw [if_neg (by decide)] at hB
    rw [if_pos (by decide)] at hB
    exact L_a200 C hS hfl hR r2 r3 hpp hhh hww p0 hB
  · refine x_tswk (tgt := 224) C (5) (by decide +kernel) (by decide +kernel) (by decide +kernel) dL_act_42 rfl (by decide) ?_
    refine XG.sub [4, 5, 6, 3, 2, 1, 0] rfl ?_
    rw [if_neg (by decide)] at hB
    rw [if_neg (by decide)] at hB
    rw [if_neg (by decide)] at hB
    rw [if_pos (by decide)] at hB
    exact L_a224 C hS hfl hR r2 r3 hpp hhh hww p0 hB
  · refine x_tswk (tgt := 224) C (6) (by decide +kernel) (by decide +kernel) (by decide +kernel) dL_act_42 rfl (by decide) ?_
    refine XG.sub [4, 5, 6, 3, 2, 1, 0] rfl ?_
    rw [if_neg (by decide)] at hB
    rw [if_neg (by decide)] at hB
    rw [if_neg (by decide)] at hB
    rw [if_pos (by decide)] at hB
    exact L_a224 C hS hfl hR r2 r3 hpp hhh hww p0 hB
  · refine x_tswk (tgt := 224) C (7) (by decide +kernel) (by decide +kernel) (by decide +kernel) dL_act_42 rfl (by decide) ?_
    refine XG.sub [4, 5, 6, 3, 2, 1, 0] rfl ?_
    rw [if_neg (by decide)] at hB
    rw [if_neg (by decide)] at hB
    rw [if_neg (by decide)] at hB
    rw [if_pos (by decide)] at hB
    exact L_a224 C hS hfl hR r2 r3 hpp hhh hww p0 hB
  · refine x_tswk (tgt := 252) C (8) (by decide +kernel) (by decide +kernel) (by decide +kernel) dL_act_42 rfl (by decide) ?_
    refine XG.sub [4, 5, 6, 3, 2, 1, 0] rfl ?_
    rw [if_neg (by decide)] at hB
    rw [if_neg (by decide)] at hB
    rw [if_neg (by decide)] at hB
    rw [if_neg (by decide)] at hB
    rw [if_pos (by decide)] at hB
    exact L_a252 C hS hfl hR r2 r3 hpp hhh hww p0 hB
  · refine x_tswk (tgt := 260) C (9) (by decide +kernel) (by decide +kernel) (by decide +kernel) dL_act_42 rfl (by decide) ?_
    refine XG.sub [4, 5, 6, 3, 2, 1, 0] rfl ?_
    rw [if_neg (by decide)] at hB
    rw [if_neg (by decide)] at hB
    rw [if_neg (by decide)] at hB
    rw [if_neg (by decide)] at hB
    rw [if_neg (by decide)] at hB
    rw [if_pos (by decide)] at hB
    exact L_a260 C hS hfl hR r2 r3 hpp hhh hww p0 hB
  · refine x_tswk (tgt := 265) C (10) (by decide +kernel) (by decide +kernel) (by decide +kernel) dL_act_42 rfl (by decide) ?_
    refine XG.sub [4, 5, 6, 3, 2, 1, 0] rfl ?_
    rw [if_neg (by decide)] at hB
    rw [if_neg (by decide)] at hB
    rw [if_neg (by decide)] at hB
    rw [if_neg (by decide)] at hB
    rw [if_neg (by decide)] at hB
    rw [if_neg (by decide)] at hB
    rw [if_pos (by decide)] at hB
    exact L_a265 C hS hfl hR r2 r3 hpp hhh hww p0 hB
  · refine x_tswk (tgt := 308) C (11) (by decide +kernel) (by decide +kernel) (by decide +kernel) dL_act_42 rfl (by decide) ?_
    refine XG.sub [4, 5, 6, 3, 2, 1, 0] rfl ?_
    rw [if_neg (by decide)] at hB
    rw [if_neg (by decide)] at hB
    rw [if_neg (by decide)] at hB
    rw [if_neg (by decide)] at hB
    rw [if_neg (by decide)] at hB
    rw [if_neg (by decide)] at hB
    rw [if_neg (by decide)] at hB
    rw [if_pos (by decide)] at hB
    exact L_a308 C hS hfl hR r2 r3 hpp hhh hww p0 hB
  · refine x_tswk (tgt := 308) C (12) (by decide +kernel) (by decide +kernel) (by decide +kernel) dL_act_42 rfl (by decide) ?_
    refine XG.sub [4, 5, 6, 3, 2, 1, 0] rfl ?_
    rw [if_neg (by decide)] at hB
    rw [if_neg (by decide)] at hB
    rw [if_neg (by decide)] at hB
    rw [if_neg (by decide)] at hB
    rw [if_neg (by decide)] at hB
    rw [if_neg (by decide)] at hB
    rw [if_neg (by decide)] at hB
    rw [if_pos (by decide)] at hB
    exact L_a308 C hS hfl hR r2 r3 hpp hhh hww p0 hB
  · refine x_tswk (tgt := 331) C (13) (by decide +kernel) (by decide +kernel) (by decide +kernel) dL_act_42 rfl (by decide) ?_
    refine XG.sub [4, 5, 6, 3, 2, 1, 0] rfl ?_
    rw [if_neg (by decide)] at hB
    rw [if_neg (by decide)] at hB
    rw [if_neg (by decide)] at hB
    rw [if_neg (by decide)] at hB
    rw [if_neg (by decide)] at hB
    rw [if_neg (by decide)] at hB
    rw [if_neg (by decide)] at hB
    rw [if_neg (by decide)] at hB
    rw [if_pos (by decide)] at hB
    exact L_a331 C hS hfl hR r2 r3 hpp hhh hww p0 hB
  · refine x_tswk (tgt := 336) C (14) (by decide +kernel) (by decide +kernel) (by decide +kernel) dL_act_42 rfl (by decide) ?_
    refine XG.sub [4, 5, 6, 3, 2, 1, 0] rfl ?_
    rw [if_neg (by decide)] at hB
    rw [if_neg (by decide)] at hB
    rw [if_neg (by decide)] at hB
    rw [if_neg (by decide)] at hB
    rw [if_neg (by decide)] at hB
    rw [if_neg (by decide)] at hB
    rw [if_neg (by decide)] at hB
    rw [if_neg (by decide)] at hB
    rw [if_neg (by decide)] at hB
    rw [if_pos (by decide)] at hB
    exact L_a336 C hS hfl hR r2 r3 hpp hhh hww p0 hB
  · refine x_tswd (tgt := 352) C (Or.inr (by rw [ltq (by omega)]; exact hv)) (by decide +kernel) dL_act_42 (by decide) ?_
    refine XG.sub [4, 5, 6, 3, 2, 1, 0] rfl ?_
    rw [if_neg (by omega), if_neg (by omega), if_neg (by omega), if_neg (by omega), if_neg (by omega), if_neg (by omega), if_neg (by omega), if_neg (by omega), if_neg (by omega), if_neg (by omega)] at hB
    exact L_a352 C hS hfl hR r2 r3 hpp hhh hww p0 hB

