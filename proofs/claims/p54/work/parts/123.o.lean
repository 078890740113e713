set_option maxRecDepth 100000 in
set_option maxHeartbeats 4000000 in
theorem L_Y8_append {g : Cx} {d : Dl} (C : CX g cX8_append 6 (some .int) RX8) (hdm : g.dm = 0) (hA : ∀ q : Nat, g.s.heap.size ≤ q → g.A q) (hR0 : g.R = rmv 6 89 0 0) (hce : d.ce ≤ g.R.cells ∧ d.so ≤ g.R.slots) {res : Int × Wd} (hR : rtI g d cX8_append .int res) (x1 : Int) (x2 : Int) (x3 : Int) (x4 : Int) (x5 : Int) (w : Wd) (hq : p_Y8_append x1 x2 x3 x4 x5 w = some res) : XG g d (hP g d w) [(0, .ref (d.ad (1))), (1, iV (x1)), (2, iV (x2)), (3, iV (x3)), (4, iV (x4)), (5, iV (x5))] [] 0 := by
  refine x_aload_n C 0 dX8_append_0 rfl ?_
  refine x_getr (K := 9) (k := 0) (o2 := 2) C (isK_lit hdm rfl rfl) (by decide) cl_X8 (by decide) ⟨rfl, rfl, rfl⟩ fl_X8_14 rfl dX8_append_1 ?_
  refine x_get (K := 1) (k := 1) C (isK_lit hdm rfl rfl) (by decide) cl_X0 (by decide) ⟨rfl, rfl, rfl⟩ fl_X8_77 dX8_append_4 ?_
  refine x_sipush (v := 480) C dX8_append_7 (by decide +kernel) ?_
  refine x_icmp_le (tgt := 21) C dX8_append_10 (by decide) hq (fun hq => ?_) (fun hq => ?_)
  · refine x_aload_n C 0 dX8_append_21 rfl ?_
    refine x_getr (K := 9) (k := 0) (o2 := 2) C (isK_lit hdm rfl rfl) (by decide) cl_X8 (by decide) ⟨rfl, rfl, rfl⟩ fl_X8_14 rfl dX8_append_22 ?_
    refine x_iload_n C 1 dX8_append_25 rfl ?_
    refine x_callVv (K := 1) (rm := rmv 2 43 0 0) (As := [iV (x1)]) (rest := []) C hA hR0 mf_X0_addFour lk_X8_84 rfl (isK_lit hdm rfl rfl) (by decide) ⟨rfl, rfl⟩ ⟨Nat.le_of_ble_eq_true rfl, Nat.le_of_ble_eq_true rfl⟩ rfl rfl (Nat.le_of_ble_eq_true rfl) hce dX8_append_26 hq (fun _ h => c_X0_addFour g.l g.G hdm (isK_lit hdm rfl rfl) h) (fun w1 _ hq => ?_)
    refine x_aload_n C 0 dX8_append_29 rfl ?_
    refine x_getr (K := 9) (k := 0) (o2 := 2) C (isK_lit hdm rfl rfl) (by decide) cl_X8 (by decide) ⟨rfl, rfl, rfl⟩ fl_X8_14 rfl dX8_append_30 ?_
    refine x_iload_n C 2 dX8_append_33 rfl ?_
    refine x_callVv (K := 1) (rm := rmv 2 43 0 0) (As := [iV (x2)]) (rest := []) C hA hR0 mf_X0_addFour lk_X8_84 rfl (isK_lit hdm rfl rfl) (by decide) ⟨rfl, rfl⟩ ⟨Nat.le_of_ble_eq_true rfl, Nat.le_of_ble_eq_true rfl⟩ rfl rfl (Nat.le_of_ble_eq_true rfl) hce dX8_append_34 hq (fun _ h => c_X0_addFour g.l g.G hdm (isK_lit hdm rfl rfl) h) (fun w2 _ hq => ?_)
    refine x_aload_n C 0 dX8_append_37 rfl ?_
    refine x_getr (K := 9) (k := 0) (o2 := 2) C (isK_lit hdm rfl rfl) (by decide) cl_X8 (by decide) ⟨rfl, rfl, rfl⟩ fl_X8_14 rfl dX8_append_38 ?_
    refine x_iload_n C 3 dX8_append_41 rfl ?_
    refine x_callVv (K := 1) (rm := rmv 2 43 0 0) (As := [iV (x3)]) (rest := []) C hA hR0 mf_X0_addFour lk_X8_84 rfl (isK_lit hdm rfl rfl) (by decide) ⟨rfl, rfl⟩ ⟨Nat.le_of_ble_eq_true rfl, Nat.le_of_ble_eq_true rfl⟩ rfl rfl (Nat.le_of_ble_eq_true rfl) hce dX8_append_42 hq (fun _ h => c_X0_addFour g.l g.G hdm (isK_lit hdm rfl rfl) h) (fun w3 _ hq => ?_)
    refine x_aload_n C 0 dX8_append_45 rfl ?_
    refine x_getr (K := 9) (k := 0) (o2 := 2) C (isK_lit hdm rfl rfl) (by decide) cl_X8 (by decide) ⟨rfl, rfl, rfl⟩ fl_X8_14 rfl dX8_append_46 ?_
    refine x_iload C 4 dX8_append_49 rfl ?_
    refine x_callVv (K := 1) (rm := rmv 2 43 0 0) (As := [iV (x4)]) (rest := []) C hA hR0 mf_X0_addFour lk_X8_84 rfl (isK_lit hdm rfl rfl) (by decide) ⟨rfl, rfl⟩ ⟨Nat.le_of_ble_eq_true rfl, Nat.le_of_ble_eq_true rfl⟩ rfl rfl (Nat.le_of_ble_eq_true rfl) hce dX8_append_51 hq (fun _ h => c_X0_addFour g.l g.G hdm (isK_lit hdm rfl rfl) h) (fun w4 _ hq => ?_)
    refine x_aload_n C 0 dX8_append_54 rfl ?_
    refine x_getr (K := 9) (k := 0) (o2 := 2) C (isK_lit hdm rfl rfl) (by decide) cl_X8 (by decide) ⟨rfl, rfl, rfl⟩ fl_X8_14 rfl dX8_append_55 ?_
    refine x_iload C 5 dX8_append_58 rfl ?_
    refine x_callVv (K := 1) (rm := rmv 2 43 0 0) (As := [iV (x5)]) (rest := []) C hA hR0 mf_X0_addFour lk_X8_84 rfl (isK_lit hdm rfl rfl) (by decide) ⟨rfl, rfl⟩ ⟨Nat.le_of_ble_eq_true rfl, Nat.le_of_ble_eq_true rfl⟩ rfl rfl (Nat.le_of_ble_eq_true rfl) hce dX8_append_60 hq (fun _ h => c_X0_addFour g.l g.G hdm (isK_lit hdm rfl rfl) h) (fun w5 _ hq => ?_)
    refine x_aload_n C 0 dX8_append_63 rfl ?_
    refine x_getr (K := 9) (k := 0) (o2 := 2) C (isK_lit hdm rfl rfl) (by decide) cl_X8 (by decide) ⟨rfl, rfl, rfl⟩ fl_X8_14 rfl dX8_append_64 ?_
    refine x_get (K := 1) (k := 1) C (isK_lit hdm rfl rfl) (by decide) cl_X0 (by decide) ⟨rfl, rfl, rfl⟩ fl_X8_77 dX8_append_67 ?_
    exact hR _ _ _ _ hq rfl dX8_append_70
  · cases hq
set_option maxRecDepth 100000 in
set_option maxHeartbeats 4000000 in
theorem c_Y8_append (l : Launch) (G : Gd) {dm na : Nat} {ad : Nat → Nat} (hdm : dm = 0) {x1 : Int} {x2 : Int} {x3 : Int} {x4 : Int} {x5 : Int} {w w' : Wd} {r : Int}  (hq : p_Y8_append x1 x2 x3 x4 x5 w = some (r, w')) : mI l yX8_append cX8_append 6 (some .int) (rmv 6 89 0 0) G dm na ad [.ref (ad (1)), iV (x1), iV (x2), iV (x3), iV (x4), iV (x5)] w r w' := by
  refine met_I [(0, .ref (ad (1))), (1, iV (x1)), (2, iV (x2)), (3, iV (x3)), (4, iV (x4)), (5, iV (x5))] (by decide) (Nat.le_of_ble_eq_true rfl) rfl .int rfl (fun g d C S hR => ?_)
  obtain ⟨rfl, hR0, rfl, rfl, rfl, hA⟩ := S
  exact L_Y8_append (d := (na, ad, 0, 0)) C hdm hA hR0 ⟨Nat.zero_le _, Nat.zero_le _⟩ hR  _ _ _ _ _ w hq
set_option maxRecDepth 100000 in
set_option maxHeartbeats 4000000 in
theorem L_Y8_truncate_15 {g : Cx} {d : Dl} (C : CX g cX8_truncate 2 none RX8) (hdm : g.dm = 0) (hA : ∀ q : Nat, g.s.heap.size ≤ q → g.A q) (hR0 : g.R = rmv 6 89 0 0) (hce : d.ce ≤ g.R.cells ∧ d.so ≤ g.R.slots) {res : Wd} (hR : rtV g d cX8_truncate res)  (w : Wd) (hq : p_Y8_truncate_15 w = some res) : XG g d (hP g d w) [] [] 15 := by
  cases hq
set_option maxRecDepth 100000 in
set_option maxHeartbeats 4000000 in
theorem L_Y8_truncate {g : Cx} {d : Dl} (C : CX g cX8_truncate 2 none RX8) (hdm : g.dm = 0) (hA : ∀ q : Nat, g.s.heap.size ≤ q → g.A q) (hR0 : g.R = rmv 6 89 0 0) (hce : d.ce ≤ g.R.cells ∧ d.so ≤ g.R.slots) {res : Wd} (hR : rtV g d cX8_truncate res) (x1 : Int) (w : Wd) (hq : p_Y8_truncate x1 w = some res) : XG g d (hP g d w) [(0, .ref (d.ad (1))), (1, iV (x1))] [] 0 := by
  refine x_iload_n C 1 dX8_truncate_0 rfl ?_
  refine x_if_lt (tgt := 15) C dX8_truncate_1 (by decide) hq (fun hq => ?_) (fun hq => ?_)
  · refine XG.sub [] rfl ?_
    exact L_Y8_truncate_15 C hdm hA hR0 hce hR _ hq
  · refine x_iload_n C 1 dX8_truncate_4 rfl ?_
    refine x_aload_n C 0 dX8_truncate_5 rfl ?_
    refine x_getr (K := 9) (k := 0) (o2 := 2) C (isK_lit hdm rfl rfl) (by decide) cl_X8 (by decide) ⟨rfl, rfl, rfl⟩ fl_X8_14 rfl dX8_truncate_6 ?_
    refine x_get (K := 1) (k := 1) C (isK_lit hdm rfl rfl) (by decide) cl_X0 (by decide) ⟨rfl, rfl, rfl⟩ fl_X8_77 dX8_truncate_9 ?_
    refine x_icmp_le (tgt := 23) C dX8_truncate_12 (by decide) hq (fun hq => ?_) (fun hq => ?_)
    · refine x_aload_n C 0 dX8_truncate_23 rfl ?_
      refine x_getr (K := 9) (k := 0) (o2 := 2) C (isK_lit hdm rfl rfl) (by decide) cl_X8 (by decide) ⟨rfl, rfl, rfl⟩ fl_X8_14 rfl dX8_truncate_24 ?_
      refine x_iload_n C 1 dX8_truncate_27 rfl ?_
      refine x_put (K := 1) (k := 1) C (isK_lit hdm rfl rfl) (by decide) cl_X0 (by decide) ⟨rfl, rfl, rfl, rfl⟩ fl_X8_77 ⟨rfl, rfl⟩ dX8_truncate_28 ?_
      exact hR _ _ _ hq dX8_truncate_31
    · refine XG.sub [] rfl ?_
      exact L_Y8_truncate_15 C hdm hA hR0 hce hR _ hq
set_option maxRecDepth 100000 in
set_option maxHeartbeats 4000000 in
theorem c_Y8_truncate (l : Launch) (G : Gd) {dm na : Nat} {ad : Nat → Nat} (hdm : dm = 0) {x1 : Int} {w w' : Wd}   (hq : p_Y8_truncate x1 w = some w') : mV l yX8_truncate cX8_truncate 2 none (rmv 6 89 0 0) G dm na ad [.ref (ad (1)), iV (x1)] w w' := by
  refine met_V [(0, .ref (ad (1))), (1, iV (x1))] (by decide) (Nat.le_of_ble_eq_true rfl) rfl rfl (fun g d C S hR => ?_)
  obtain ⟨rfl, hR0, rfl, rfl, rfl, hA⟩ := S
  exact L_Y8_truncate (d := (na, ad, 0, 0)) C hdm hA hR0 ⟨Nat.zero_le _, Nat.zero_le _⟩ hR  _ w hq
set_option maxRecDepth 100000 in
set_option maxHeartbeats 4000000 in
theorem L_Y8_property {g : Cx} {d : Dl} (C : CX g cX8_property 2 (some .int) RX8) (hdm : g.dm = 0) (hA : ∀ q : Nat, g.s.heap.size ≤ q → g.A q) (hR0 : g.R = rmv 6 89 0 0) (hce : d.ce ≤ g.R.cells ∧ d.so ≤ g.R.slots) {res : Int × Wd} (hR : rtI g d cX8_property .int res) (x1 : Int) (w : Wd) (hq : p_Y8_property x1 w = some res) : XG g d (hP g d w) [(0, .ref (d.ad (1))), (1, iV (x1))] [] 0 := by
  refine x_iload_n C 1 dX8_property_0 rfl ?_
  refine ite_2 hq (fun s1 hq => ?_) (fun s2 hq => ?_)
  · refine x_tswd (tgt := 199) C (Or.inl s1) (by decide +kernel) dX8_property_1 (by decide) ?_
    cases hq
  refine ite_2 hq (fun s3 hq => ?_) (fun s4 hq => ?_)
  · refine x_tswd (tgt := 199) C (Or.inr s3) (by decide +kernel) dX8_property_1 (by decide) ?_
    cases hq
  refine ite_2 hq (fun s5 hq => ?_) (fun s6 hq => ?_)
  · refine ite_2 hq (fun s7 hq => ?_) (fun s8 hq => ?_)
    · refine ite_2 hq (fun s9 hq => ?_) (fun s10 hq => ?_)
      · refine x_tswk (tgt := 72) C (0) s2 (lt_sw (k := 0) s9 (by decide +kernel)) (by decide +kernel) dX8_property_1 rfl (by decide) ?_
        refine x_aload_n C 0 dX8_property_72 rfl ?_
        refine x_getr (K := 9) (k := 4) (o2 := 100) C (isK_lit hdm rfl rfl) (by decide) cl_X8 (by decide) ⟨rfl, rfl, rfl⟩ fl_X8_42 rfl dX8_property_73 ?_
        refine x_get (K := 7) (k := 0) C (isK_lit hdm rfl rfl) (by decide) cl_X6 (by decide) ⟨rfl, rfl, rfl⟩ fl_X8_106 dX8_property_76 ?_
        exact hR _ _ _ _ hq rfl dX8_property_79
      · refine ite_2 hq (fun s11 hq => ?_) (fun s12 hq => ?_)
        · refine x_tswk (tgt := 80) C (1) s10 (lt_sw (k := 1) s11 (by decide +kernel)) (by decide +kernel) dX8_property_1 rfl (by decide) ?_
          refine x_aload_n C 0 dX8_property_80 rfl ?_
          refine x_getr (K := 9) (k := 4) (o2 := 100) C (isK_lit hdm rfl rfl) (by decide) cl_X8 (by decide) ⟨rfl, rfl, rfl⟩ fl_X8_42 rfl dX8_property_81 ?_
          refine x_get (K := 7) (k := 1) C (isK_lit hdm rfl rfl) (by decide) cl_X6 (by decide) ⟨rfl, rfl, rfl⟩ fl_X8_109 dX8_property_84 ?_
          exact hR _ _ _ _ hq rfl dX8_property_87
        · refine x_tswk (tgt := 88) C (2) s12 (lt_sw (k := 2) s7 (by decide +kernel)) (by decide +kernel) dX8_property_1 rfl (by decide) ?_
          refine x_aload_n C 0 dX8_property_88 rfl ?_
          refine x_getr (K := 9) (k := 4) (o2 := 100) C (isK_lit hdm rfl rfl) (by decide) cl_X8 (by decide) ⟨rfl, rfl, rfl⟩ fl_X8_42 rfl dX8_property_89 ?_
          refine x_callVi (K := 7) (rm := rmv 1 21 0 0) (As := []) (rest := []) C hA hR0 mf_X6_flawCount lk_X8_112 rfl (isK_lit hdm rfl rfl) (by decide) ⟨rfl, rfl⟩ ⟨Nat.le_of_ble_eq_true rfl, Nat.le_of_ble_eq_true rfl⟩ rfl rfl (Nat.le_of_ble_eq_true rfl) hce dX8_property_92 hq (fun _ _ h => c_X6_flawCount g.l g.G hdm (isK_lit hdm rfl rfl) h) (fun r14 w13 _ hq => ?_)
          exact hR _ _ _ _ hq rfl dX8_property_95
    · refine ite_2 hq (fun s15 hq => ?_) (fun s16 hq => ?_)
      · refine ite_2 hq (fun s17 hq => ?_) (fun s18 hq => ?_)
        · refine x_tswk (tgt := 96) C (3) s8 (lt_sw (k := 3) s17 (by decide +kernel)) (by decide +kernel) dX8_property_1 rfl (by decide) ?_
          refine x_aload_n C 0 dX8_property_96 rfl ?_
          refine x_getr (K := 9) (k := 4) (o2 := 100) C (isK_lit hdm rfl rfl) (by decide) cl_X8 (by decide) ⟨rfl, rfl, rfl⟩ fl_X8_42 rfl dX8_property_97 ?_
          refine x_get (K := 7) (k := 2) C (isK_lit hdm rfl rfl) (by decide) cl_X6 (by decide) ⟨rfl, rfl, rfl⟩ fl_X8_116 dX8_property_100 ?_
          exact hR _ _ _ _ hq rfl dX8_property_103
        · refine x_tswk (tgt := 104) C (4) s18 (lt_sw (k := 4) s15 (by decide +kernel)) (by decide +kernel) dX8_property_1 rfl (by decide) ?_
          refine x_aload_n C 0 dX8_property_104 rfl ?_
          refine x_getr (K := 9) (k := 4) (o2 := 100) C (isK_lit hdm rfl rfl) (by decide) cl_X8 (by decide) ⟨rfl, rfl, rfl⟩ fl_X8_42 rfl dX8_property_105 ?_
          refine x_get (K := 7) (k := 4) C (isK_lit hdm rfl rfl) (by decide) cl_X6 (by decide) ⟨rfl, rfl, rfl⟩ fl_X8_119 dX8_property_108 ?_
          exact hR _ _ _ _ hq rfl dX8_property_111
      · refine ite_2 hq (fun s19 hq => ?_) (fun s20 hq => ?_)
        · refine x_tswk (tgt := 112) C (5) s16 (lt_sw (k := 5) s19 (by decide +kernel)) (by decide +kernel) dX8_property_1 rfl (by decide) ?_
          refine x_aload_n C 0 dX8_property_112 rfl ?_
          refine x_getr (K := 9) (k := 4) (o2 := 100) C (isK_lit hdm rfl rfl) (by decide) cl_X8 (by decide) ⟨rfl, rfl, rfl⟩ fl_X8_42 rfl dX8_property_113 ?_
          refine x_get (K := 7) (k := 7) C (isK_lit hdm rfl rfl) (by decide) cl_X6 (by decide) ⟨rfl, rfl, rfl⟩ fl_X8_122 dX8_property_116 ?_
          exact hR _ _ _ _ hq rfl dX8_property_119
        · refine x_tswk (tgt := 120) C (6) s20 (lt_sw (k := 6) s5 (by decide +kernel)) (by decide +kernel) dX8_property_1 rfl (by decide) ?_
          refine x_aload_n C 0 dX8_property_120 rfl ?_
          refine x_getr (K := 9) (k := 5) (o2 := 10) C (isK_lit hdm rfl rfl) (by decide) cl_X8 (by decide) ⟨rfl, rfl, rfl⟩ fl_X8_49 rfl dX8_property_121 ?_
          refine x_get (K := 3) (k := 4) C (isK_lit hdm rfl rfl) (by decide) cl_X2 (by decide) ⟨rfl, rfl, rfl⟩ fl_X8_97 dX8_property_124 ?_
          exact hR _ _ _ _ hq rfl dX8_property_127
  · refine ite_2 hq (fun s21 hq => ?_) (fun s22 hq => ?_)
    · refine ite_2 hq (fun s23 hq => ?_) (fun s24 hq => ?_)
      · refine x_tswk (tgt := 128) C (7) s6 (lt_sw (k := 7) s23 (by decide +kernel)) (by decide +kernel) dX8_property_1 rfl (by decide) ?_
        refine x_aload_n C 0 dX8_property_128 rfl ?_
        refine x_getr (K := 9) (k := 5) (o2 := 10) C (isK_lit hdm rfl rfl) (by decide) cl_X8 (by decide) ⟨rfl, rfl, rfl⟩ fl_X8_49 rfl dX8_property_129 ?_
        refine x_get (K := 3) (k := 5) C (isK_lit hdm rfl rfl) (by decide) cl_X2 (by decide) ⟨rfl, rfl, rfl⟩ fl_X8_125 dX8_property_132 ?_
        exact hR _ _ _ _ hq rfl dX8_property_135
      · refine ite_2 hq (fun s25 hq => ?_) (fun s26 hq => ?_)
        · refine x_tswk (tgt := 136) C (8) s24 (lt_sw (k := 8) s25 (by decide +kernel)) (by decide +kernel) dX8_property_1 rfl (by decide) ?_
          refine x_aload_n C 0 dX8_property_136 rfl ?_
          refine x_getr (K := 9) (k := 4) (o2 := 100) C (isK_lit hdm rfl rfl) (by decide) cl_X8 (by decide) ⟨rfl, rfl, rfl⟩ fl_X8_42 rfl dX8_property_137 ?_
          refine x_get (K := 7) (k := 11) C (isK_lit hdm rfl rfl) (by decide) cl_X6 (by decide) ⟨rfl, rfl, rfl⟩ fl_X8_128 dX8_property_140 ?_
          exact hR _ _ _ _ hq rfl dX8_property_143
        · refine x_tswk (tgt := 144) C (9) s26 (lt_sw (k := 9) s21 (by decide +kernel)) (by decide +kernel) dX8_property_1 rfl (by decide) ?_
          refine x_aload_n C 0 dX8_property_144 rfl ?_
          refine x_getr (K := 9) (k := 4) (o2 := 100) C (isK_lit hdm rfl rfl) (by decide) cl_X8 (by decide) ⟨rfl, rfl, rfl⟩ fl_X8_42 rfl dX8_property_145 ?_
          refine x_getr (K := 7) (k := 10) (o2 := 111) C (isK_lit hdm rfl rfl) (by decide) cl_X6 (by decide) ⟨rfl, rfl, rfl⟩ fl_X8_131 rfl dX8_property_148 ?_
          refine x_get (K := 2) (k := 2) C (isK_lit hdm rfl rfl) (by decide) cl_X1 (by decide) ⟨rfl, rfl, rfl⟩ fl_X8_134 dX8_property_151 ?_
          exact hR _ _ _ _ hq rfl dX8_property_154
    · refine ite_2 hq (fun s27 hq => ?_) (fun s28 hq => ?_)
      · refine ite_2 hq (fun s29 hq => ?_) (fun s30 hq => ?_)
        · refine x_tswk (tgt := 155) C (10) s22 (lt_sw (k := 10) s29 (by decide +kernel)) (by decide +kernel) dX8_property_1 rfl (by decide) ?_
          refine x_aload_n C 0 dX8_property_155 rfl ?_
          refine x_getr (K := 9) (k := 4) (o2 := 100) C (isK_lit hdm rfl rfl) (by decide) cl_X8 (by decide) ⟨rfl, rfl, rfl⟩ fl_X8_42 rfl dX8_property_156 ?_
          refine x_getr (K := 7) (k := 10) (o2 := 111) C (isK_lit hdm rfl rfl) (by decide) cl_X6 (by decide) ⟨rfl, rfl, rfl⟩ fl_X8_131 rfl dX8_property_159 ?_
          refine x_get (K := 2) (k := 0) C (isK_lit hdm rfl rfl) (by decide) cl_X1 (by decide) ⟨rfl, rfl, rfl⟩ fl_X8_137 dX8_property_162 ?_
          exact hR _ _ _ _ hq rfl dX8_property_165
        · refine x_tswk (tgt := 166) C (11) s30 (lt_sw (k := 11) s27 (by decide +kernel)) (by decide +kernel) dX8_property_1 rfl (by decide) ?_
          refine x_aload_n C 0 dX8_property_166 rfl ?_
          refine x_getr (K := 9) (k := 4) (o2 := 100) C (isK_lit hdm rfl rfl) (by decide) cl_X8 (by decide) ⟨rfl, rfl, rfl⟩ fl_X8_42 rfl dX8_property_167 ?_
          refine x_getr (K := 7) (k := 10) (o2 := 111) C (isK_lit hdm rfl rfl) (by decide) cl_X6 (by decide) ⟨rfl, rfl, rfl⟩ fl_X8_131 rfl dX8_property_170 ?_
          refine x_get (K := 2) (k := 1) C (isK_lit hdm rfl rfl) (by decide) cl_X1 (by decide) ⟨rfl, rfl, rfl⟩ fl_X8_140 dX8_property_173 ?_
          exact hR _ _ _ _ hq rfl dX8_property_176
      · refine ite_2 hq (fun s31 hq => ?_) (fun s32 hq => ?_)
        · refine x_tswk (tgt := 177) C (12) s28 (lt_sw (k := 12) s31 (by decide +kernel)) (by decide +kernel) dX8_property_1 rfl (by decide) ?_
          refine x_aload_n C 0 dX8_property_177 rfl ?_
          refine x_getr (K := 9) (k := 4) (o2 := 100) C (isK_lit hdm rfl rfl) (by decide) cl_X8 (by decide) ⟨rfl, rfl, rfl⟩ fl_X8_42 rfl dX8_property_178 ?_
          refine x_getr (K := 7) (k := 10) (o2 := 111) C (isK_lit hdm rfl rfl) (by decide) cl_X6 (by decide) ⟨rfl, rfl, rfl⟩ fl_X8_131 rfl dX8_property_181 ?_
          refine x_get (K := 2) (k := 3) C (isK_lit hdm rfl rfl) (by decide) cl_X1 (by decide) ⟨rfl, rfl, rfl⟩ fl_X8_143 dX8_property_184 ?_
          exact hR _ _ _ _ hq rfl dX8_property_187
        · refine x_tswk (tgt := 188) C (13) s32 s4 (by decide +kernel) dX8_property_1 rfl (by decide) ?_
          refine x_aload_n C 0 dX8_property_188 rfl ?_
          refine x_getr (K := 9) (k := 4) (o2 := 100) C (isK_lit hdm rfl rfl) (by decide) cl_X8 (by decide) ⟨rfl, rfl, rfl⟩ fl_X8_42 rfl dX8_property_189 ?_
          refine x_getr (K := 7) (k := 10) (o2 := 111) C (isK_lit hdm rfl rfl) (by decide) cl_X6 (by decide) ⟨rfl, rfl, rfl⟩ fl_X8_131 rfl dX8_property_192 ?_
          refine x_get (K := 2) (k := 4) C (isK_lit hdm rfl rfl) (by decide) cl_X1 (by decide) ⟨rfl, rfl, rfl⟩ fl_X8_146 dX8_property_195 ?_
          exact hR _ _ _ _ hq rfl dX8_property_198
set_option maxRecDepth 100000 in
set_option maxHeartbeats 4000000 in
theorem c_Y8_property (l : Launch) (G : Gd) {dm na : Nat} {ad : Nat → Nat} (hdm : dm = 0) {x1 : Int} {w w' : Wd} {r : Int}  (hq : p_Y8_property x1 w = some (r, w')) : mI l yX8_property cX8_property 2 (some .int) (rmv 6 89 0 0) G dm na ad [.ref (ad (1)), iV (x1)] w r w' := by
  refine met_I [(0, .ref (ad (1))), (1, iV (x1))] (by decide) (Nat.le_of_ble_eq_true rfl) rfl .int rfl (fun g d C S hR => ?_)
  obtain ⟨rfl, hR0, rfl, rfl, rfl, hA⟩ := S
  exact L_Y8_property (d := (na, ad, 0, 0)) C hdm hA hR0 ⟨Nat.zero_le _, Nat.zero_le _⟩ hR  _ w hq
set_option maxRecDepth 100000 in
set_option maxHeartbeats 4000000 in
theorem L_Y8_needWord_15 {g : Cx} {d : Dl} (C : CX g cX8_needWord 2 none RX8) (hdm : g.dm = 0) (hA : ∀ q : Nat, g.s.heap.size ≤ q → g.A q) (hR0 : g.R = rmv 6 89 0 0) (hce : d.ce ≤ g.R.cells ∧ d.so ≤ g.R.slots) {res : Wd} (hR : rtV g d cX8_needWord res)  (w : Wd) (hq : p_Y8_needWord_15 w = some res) : XG g d (hP g d w) [] [] 15 := by
  cases hq
set_option maxRecDepth 100000 in
set_option maxHeartbeats 4000000 in
theorem L_Y8_needWord {g : Cx} {d : Dl} (C : CX g cX8_needWord 2 none RX8) (hdm : g.dm = 0) (hA : ∀ q : Nat, g.s.heap.size ≤ q → g.A q) (hR0 : g.R = rmv 6 89 0 0) (hce : d.ce ≤ g.R.cells ∧ d.so ≤ g.R.slots) {res : Wd} (hR : rtV g d cX8_needWord res) (x1 : Int) (w : Wd) (hq : p_Y8_needWord x1 w = some res) : XG g d (hP g d w) [(0, .ref (d.ad (1))), (1, iV (x1))] [] 0 := by
  refine x_iload_n C 1 dX8_needWord_0 rfl ?_
  refine x_if_lt (tgt := 15) C dX8_needWord_1 (by decide) hq (fun hq => ?_) (fun hq => ?_)
  · refine XG.sub [] rfl ?_
    exact L_Y8_needWord_15 C hdm hA hR0 hce hR _ hq
  · refine x_iload_n C 1 dX8_needWord_4 rfl ?_
    refine x_aload_n C 0 dX8_needWord_5 rfl ?_
    refine x_getr (K := 9) (k := 4) (o2 := 100) C (isK_lit hdm rfl rfl) (by decide) cl_X8 (by decide) ⟨rfl, rfl, rfl⟩ fl_X8_42 rfl dX8_needWord_6 ?_
    refine x_get (K := 7) (k := 7) C (isK_lit hdm rfl rfl) (by decide) cl_X6 (by decide) ⟨rfl, rfl, rfl⟩ fl_X8_122 dX8_needWord_9 ?_
    refine x_icmp_lt (tgt := 23) C dX8_needWord_12 (by decide) hq (fun hq => ?_) (fun hq => ?_)
    · exact hR _ _ _ hq dX8_needWord_23
    · refine XG.sub [] rfl ?_
      exact L_Y8_needWord_15 C hdm hA hR0 hce hR _ hq
set_option maxRecDepth 100000 in
set_option maxHeartbeats 4000000 in
theorem c_Y8_needWord (l : Launch) (G : Gd) {dm na : Nat} {ad : Nat → Nat} (hdm : dm = 0) {x1 : Int} {w w' : Wd}   (hq : p_Y8_needWord x1 w = some w') : mV l yX8_needWord cX8_needWord 2 none (rmv 6 89 0 0) G dm na ad [.ref (ad (1)), iV (x1)] w w' := by
  refine met_V [(0, .ref (ad (1))), (1, iV (x1))] (by decide) (Nat.le_of_ble_eq_true rfl) rfl rfl (fun g d C S hR => ?_)
  obtain ⟨rfl, hR0, rfl, rfl, rfl, hA⟩ := S
  exact L_Y8_needWord (d := (na, ad, 0, 0)) C hdm hA hR0 ⟨Nat.zero_le _, Nat.zero_le _⟩ hR  _ w hq
set_option maxRecDepth 100000 in
set_option maxHeartbeats 4000000 in
theorem L_Y8_word {g : Cx} {d : Dl} (C : CX g cX8_word 3 (some .int) RX8) (hdm : g.dm = 0) (hA : ∀ q : Nat, g.s.heap.size ≤ q → g.A q) (hR0 : g.R = rmv 7 110 0 0) (hce : d.ce ≤ g.R.cells ∧ d.so ≤ g.R.slots) {res : Int × Wd} (hR : rtI g d cX8_word .int res) (x1 : Int) (x2 : Int) (w : Wd) (hq : p_Y8_word x1 x2 w = some res) : XG g d (hP g d w) [(0, .ref (d.ad (1))), (1, iV (x1)), (2, iV (x2))] [] 0 := by
  refine x_aload_n C 0 dX8_word_0 rfl ?_
  refine x_iload_n C 1 dX8_word_1 rfl ?_
  refine x_callVv (K := 9) (rm := rmv 6 89 0 0) (As := [iV (x1)]) (rest := []) C hA hR0 mf_X8_needWord lk_X8_180 rfl (isK_lit hdm rfl rfl) (by decide) ⟨rfl, rfl⟩ ⟨Nat.le_of_ble_eq_true rfl, Nat.le_of_ble_eq_true rfl⟩ rfl rfl (Nat.le_of_ble_eq_true rfl) hce dX8_word_2 hq (fun _ h => c_Y8_needWord g.l g.G hdm  h) (fun w1 _ hq => ?_)
  refine x_iload_n C 2 dX8_word_5 rfl ?_
  refine ite_2 hq (fun s2 hq => ?_) (fun s3 hq => ?_)
  · refine x_tswd (tgt := 101) C (Or.inl s2) (by decide +kernel) dX8_word_6 (by decide) ?_
    cases hq
  refine ite_2 hq (fun s4 hq => ?_) (fun s5 hq => ?_)
  · refine x_tswd (tgt := 101) C (Or.inr s4) (by decide +kernel) dX8_word_6 (by decide) ?_
    cases hq
  refine ite_2 hq (fun s6 hq => ?_) (fun s7 hq => ?_)
  · refine ite_2 hq (fun s8 hq => ?_) (fun s9 hq => ?_)
    · refine x_tswk (tgt := 44) C (0) s3 (lt_sw (k := 0) s8 (by decide +kernel)) (by decide +kernel) dX8_word_6 rfl (by decide) ?_
      refine x_aload_n C 0 dX8_word_44 rfl ?_
      refine x_getr (K := 9) (k := 4) (o2 := 100) C (isK_lit hdm rfl rfl) (by decide) cl_X8 (by decide) ⟨rfl, rfl, rfl⟩ fl_X8_42 rfl dX8_word_45 ?_
      refine x_iload_n C 1 dX8_word_48 rfl ?_
      refine x_callVi (K := 7) (rm := rmv 1 21 0 0) (As := [iV (x1)]) (rest := []) C hA hR0 mf_X6_partOf lk_X8_183 rfl (isK_lit hdm rfl rfl) (by decide) ⟨rfl, rfl⟩ ⟨Nat.le_of_ble_eq_true rfl, Nat.le_of_ble_eq_true rfl⟩ rfl rfl (Nat.le_of_ble_eq_true rfl) hce dX8_word_49 hq (fun _ _ h => c_X6_partOf g.l g.G hdm (isK_lit hdm rfl rfl) h) (fun r11 w10 _ hq => ?_)
      exact hR _ _ _ _ hq rfl dX8_word_52
    · refine ite_2 hq (fun s12 hq => ?_) (fun s13 hq => ?_)
      · refine x_tswk (tgt := 53) C (1) s9 (lt_sw (k := 1) s12 (by decide +kernel)) (by decide +kernel) dX8_word_6 rfl (by decide) ?_
        refine x_aload_n C 0 dX8_word_53 rfl ?_
        refine x_getr (K := 9) (k := 4) (o2 := 100) C (isK_lit hdm rfl rfl) (by decide) cl_X8 (by decide) ⟨rfl, rfl, rfl⟩ fl_X8_42 rfl dX8_word_54 ?_
        refine x_getr (K := 7) (k := 8) (o2 := 107) C (isK_lit hdm rfl rfl) (by decide) cl_X6 (by decide) ⟨rfl, rfl, rfl⟩ fl_X8_186 rfl dX8_word_57 ?_
        refine x_iload_n C 1 dX8_word_60 rfl ?_
        refine x_callVi (K := 6) (rm := rmv 0 0 0 0) (As := [iV (x1)]) (rest := []) C hA hR0 mf_X5_at lk_X8_160 rfl (isK_lit hdm rfl rfl) (by decide) ⟨rfl, rfl⟩ ⟨Nat.le_of_ble_eq_true rfl, Nat.le_of_ble_eq_true rfl⟩ rfl rfl (Nat.le_of_ble_eq_true rfl) hce dX8_word_61 hq (fun _ _ h => c_X5_at g.l g.G hdm (isK_lit hdm rfl rfl) h) (fun r15 w14 _ hq => ?_)
        exact hR _ _ _ _ hq rfl dX8_word_64
      · refine x_tswk (tgt := 65) C (2) s13 (lt_sw (k := 2) s6 (by decide +kernel)) (by decide +kernel) dX8_word_6 rfl (by decide) ?_
        refine x_aload_n C 0 dX8_word_65 rfl ?_
        refine x_getr (K := 9) (k := 5) (o2 := 10) C (isK_lit hdm rfl rfl) (by decide) cl_X8 (by decide) ⟨rfl, rfl, rfl⟩ fl_X8_49 rfl dX8_word_66 ?_
        refine x_getr (K := 3) (k := 0) (o2 := 11) C (isK_lit hdm rfl rfl) (by decide) cl_X2 (by decide) ⟨rfl, rfl, rfl⟩ fl_X8_177 rfl dX8_word_69 ?_
        refine x_iload_n C 1 dX8_word_72 rfl ?_
        refine x_callVi (K := 6) (rm := rmv 0 0 0 0) (As := [iV (x1)]) (rest := []) C hA hR0 mf_X5_at lk_X8_160 rfl (isK_lit hdm rfl rfl) (by decide) ⟨rfl, rfl⟩ ⟨Nat.le_of_ble_eq_true rfl, Nat.le_of_ble_eq_true rfl⟩ rfl rfl (Nat.le_of_ble_eq_true rfl) hce dX8_word_73 hq (fun _ _ h => c_X5_at g.l g.G hdm (isK_lit hdm rfl rfl) h) (fun r17 w16 _ hq => ?_)
        exact hR _ _ _ _ hq rfl dX8_word_76
  · refine ite_2 hq (fun s18 hq => ?_) (fun s19 hq => ?_)
    · refine x_tswk (tgt := 77) C (3) s7 (lt_sw (k := 3) s18 (by decide +kernel)) (by decide +kernel) dX8_word_6 rfl (by decide) ?_
      refine x_aload_n C 0 dX8_word_77 rfl ?_
      refine x_getr (K := 9) (k := 5) (o2 := 10) C (isK_lit hdm rfl rfl) (by decide) cl_X8 (by decide) ⟨rfl, rfl, rfl⟩ fl_X8_49 rfl dX8_word_78 ?_
      refine x_getr (K := 3) (k := 1) (o2 := 13) C (isK_lit hdm rfl rfl) (by decide) cl_X2 (by decide) ⟨rfl, rfl, rfl⟩ fl_X8_189 rfl dX8_word_81 ?_
      refine x_iload_n C 1 dX8_word_84 rfl ?_
      refine x_callVi (K := 6) (rm := rmv 0 0 0 0) (As := [iV (x1)]) (rest := []) C hA hR0 mf_X5_at lk_X8_160 rfl (isK_lit hdm rfl rfl) (by decide) ⟨rfl, rfl⟩ ⟨Nat.le_of_ble_eq_true rfl, Nat.le_of_ble_eq_true rfl⟩ rfl rfl (Nat.le_of_ble_eq_true rfl) hce dX8_word_85 hq (fun _ _ h => c_X5_at g.l g.G hdm (isK_lit hdm rfl rfl) h) (fun r21 w20 _ hq => ?_)
      exact hR _ _ _ _ hq rfl dX8_word_88
    · refine ite_2 hq (fun s22 hq => ?_) (fun s23 hq => ?_)
      · refine x_tswk (tgt := 89) C (4) s19 (lt_sw (k := 4) s22 (by decide +kernel)) (by decide +kernel) dX8_word_6 rfl (by decide) ?_
        refine x_aload_n C 0 dX8_word_89 rfl ?_
        refine x_iload_n C 1 dX8_word_90 rfl ?_
        refine x_callVi (K := 9) (rm := rmv 2 45 0 0) (As := [iV (x1)]) (rest := []) C hA hR0 mf_X8_strokesOfWord lk_X8_192 rfl (isK_lit hdm rfl rfl) (by decide) ⟨rfl, rfl⟩ ⟨Nat.le_of_ble_eq_true rfl, Nat.le_of_ble_eq_true rfl⟩ rfl rfl (Nat.le_of_ble_eq_true rfl) hce dX8_word_91 hq (fun _ _ h => c_X8_strokesOfWord g.l g.G hdm  h) (fun r25 w24 _ hq => ?_)
        exact hR _ _ _ _ hq rfl dX8_word_94
      · refine x_tswk (tgt := 95) C (5) s23 s5 (by decide +kernel) dX8_word_6 rfl (by decide) ?_
        refine x_aload_n C 0 dX8_word_95 rfl ?_
        refine x_iload_n C 1 dX8_word_96 rfl ?_
        refine x_callVi (K := 9) (rm := rmv 2 44 0 0) (As := [iV (x1)]) (rest := []) C hA hR0 mf_X8_carvedOfWord lk_X8_195 rfl (isK_lit hdm rfl rfl) (by decide) ⟨rfl, rfl⟩ ⟨Nat.le_of_ble_eq_true rfl, Nat.le_of_ble_eq_true rfl⟩ rfl rfl (Nat.le_of_ble_eq_true rfl) hce dX8_word_97 hq (fun _ _ h => c_X8_carvedOfWord g.l g.G hdm  h) (fun r27 w26 _ hq => ?_)
        exact hR _ _ _ _ hq rfl dX8_word_100
set_option maxRecDepth 100000 in
set_option maxHeartbeats 4000000 in
theorem c_Y8_word (l : Launch) (G : Gd) {dm na : Nat} {ad : Nat → Nat} (hdm : dm = 0) {x1 : Int} {x2 : Int} {w w' : Wd} {r : Int}  (hq : p_Y8_word x1 x2 w = some (r, w')) : mI l yX8_word cX8_word 3 (some .int) (rmv 7 110 0 0) G dm na ad [.ref (ad (1)), iV (x1), iV (x2)] w r w' := by
  refine met_I [(0, .ref (ad (1))), (1, iV (x1)), (2, iV (x2))] (by decide) (Nat.le_of_ble_eq_true rfl) rfl .int rfl (fun g d C S hR => ?_)
  obtain ⟨rfl, hR0, rfl, rfl, rfl, hA⟩ := S
  exact L_Y8_word (d := (na, ad, 0, 0)) C hdm hA hR0 ⟨Nat.zero_le _, Nat.zero_le _⟩ hR  _ _ w hq
set_option maxRecDepth 100000 in
set_option maxHeartbeats 4000000 in
theorem L_Y8_letter_24 {g : Cx} {d : Dl} (C : CX g cX8_letter 3 (some .int) RX8) (hdm : g.dm = 0) (hA : ∀ q : Nat, g.s.heap.size ≤ q → g.A q) (hR0 : g.R = rmv 7 110 0 0) (hce : d.ce ≤ g.R.cells ∧ d.so ≤ g.R.slots) {res : Int × Wd} (hR : rtI g d cX8_letter .int res)  (w : Wd) (hq : p_Y8_letter_24 w = some res) : XG g d (hP g d w) [] [] 24 := by
  cases hq
set_option maxRecDepth 100000 in
set_option maxHeartbeats 4000000 in
theorem L_Y8_letter {g : Cx} {d : Dl} (C : CX g cX8_letter 3 (some .int) RX8) (hdm : g.dm = 0) (hA : ∀ q : Nat, g.s.heap.size ≤ q → g.A q) (hR0 : g.R = rmv 7 110 0 0) (hce : d.ce ≤ g.R.cells ∧ d.so ≤ g.R.slots) {res : Int × Wd} (hR : rtI g d cX8_letter .int res) (x1 : Int) (x2 : Int) (w : Wd) (hq : p_Y8_letter x1 x2 w = some res) : XG g d (hP g d w) [(0, .ref (d.ad (1))), (1, iV (x1)), (2, iV (x2))] [] 0 := by
  refine x_aload_n C 0 dX8_letter_0 rfl ?_
  refine x_iload_n C 1 dX8_letter_1 rfl ?_
  refine x_callVv (K := 9) (rm := rmv 6 89 0 0) (As := [iV (x1)]) (rest := []) C hA hR0 mf_X8_needWord lk_X8_180 rfl (isK_lit hdm rfl rfl) (by decide) ⟨rfl, rfl⟩ ⟨Nat.le_of_ble_eq_true rfl, Nat.le_of_ble_eq_true rfl⟩ rfl rfl (Nat.le_of_ble_eq_true rfl) hce dX8_letter_2 hq (fun _ h => c_Y8_needWord g.l g.G hdm  h) (fun w1 _ hq => ?_)
  refine x_iload_n C 2 dX8_letter_5 rfl ?_
  refine x_if_lt (tgt := 24) C dX8_letter_6 (by decide) hq (fun hq => ?_) (fun hq => ?_)
  · refine XG.sub [] rfl ?_
    exact L_Y8_letter_24 C hdm hA hR0 hce hR _ hq
  · refine x_iload_n C 2 dX8_letter_9 rfl ?_
    refine x_aload_n C 0 dX8_letter_10 rfl ?_
    refine x_getr (K := 9) (k := 4) (o2 := 100) C (isK_lit hdm rfl rfl) (by decide) cl_X8 (by decide) ⟨rfl, rfl, rfl⟩ fl_X8_42 rfl dX8_letter_11 ?_
    refine x_getr (K := 7) (k := 8) (o2 := 107) C (isK_lit hdm rfl rfl) (by decide) cl_X6 (by decide) ⟨rfl, rfl, rfl⟩ fl_X8_186 rfl dX8_letter_14 ?_
    refine x_iload_n C 1 dX8_letter_17 rfl ?_
    refine x_callVi (K := 6) (rm := rmv 0 0 0 0) (As := [iV (x1)]) (rest := [iV (x2)]) C hA hR0 mf_X5_at lk_X8_160 rfl (isK_lit hdm rfl rfl) (by decide) ⟨rfl, rfl⟩ ⟨Nat.le_of_ble_eq_true rfl, Nat.le_of_ble_eq_true rfl⟩ rfl rfl (Nat.le_of_ble_eq_true rfl) hce dX8_letter_18 hq (fun _ _ h => c_X5_at g.l g.G hdm (isK_lit hdm rfl rfl) h) (fun r3 w2 _ hq => ?_)
    refine x_icmp_lt (tgt := 32) C dX8_letter_21 (by decide) hq (fun hq => ?_) (fun hq => ?_)
    · refine x_aload_n C 0 dX8_letter_32 rfl ?_
      refine x_getr (K := 9) (k := 4) (o2 := 100) C (isK_lit hdm rfl rfl) (by decide) cl_X8 (by decide) ⟨rfl, rfl, rfl⟩ fl_X8_42 rfl dX8_letter_33 ?_
      refine x_iload_n C 1 dX8_letter_36 rfl ?_
      refine x_iload_n C 2 dX8_letter_37 rfl ?_
      refine x_callVi (K := 7) (rm := rmv 1 21 0 0) (As := [iV (x1), iV (x2)]) (rest := []) C hA hR0 mf_X6_byteOf lk_X8_201 rfl (isK_lit hdm rfl rfl) (by decide) ⟨rfl, rfl⟩ ⟨Nat.le_of_ble_eq_true rfl, Nat.le_of_ble_eq_true rfl⟩ rfl rfl (Nat.le_of_ble_eq_true rfl) hce dX8_letter_38 hq (fun _ _ h => c_X6_byteOf g.l g.G hdm (isK_lit hdm rfl rfl) h) (fun r5 w4 _ hq => ?_)
      exact hR _ _ _ _ hq rfl dX8_letter_41
    · refine XG.sub [] rfl ?_
      exact L_Y8_letter_24 C hdm hA hR0 hce hR _ hq
set_option maxRecDepth 100000 in
set_option maxHeartbeats 4000000 in
theorem c_Y8_letter (l : Launch) (G : Gd) {dm na : Nat} {ad : Nat → Nat} (hdm : dm = 0) {x1 : Int} {x2 : Int} {w w' : Wd} {r : Int}  (hq : p_Y8_letter x1 x2 w = some (r, w')) : mI l yX8_letter cX8_letter 3 (some .int) (rmv 7 110 0 0) G dm na ad [.ref (ad (1)), iV (x1), iV (x2)] w r w' := by
  refine met_I [(0, .ref (ad (1))), (1, iV (x1)), (2, iV (x2))] (by decide) (Nat.le_of_ble_eq_true rfl) rfl .int rfl (fun g d C S hR => ?_)
  obtain ⟨rfl, hR0, rfl, rfl, rfl, hA⟩ := S
  exact L_Y8_letter (d := (na, ad, 0, 0)) C hdm hA hR0 ⟨Nat.zero_le _, Nat.zero_le _⟩ hR  _ _ w hq
set_option maxRecDepth 100000 in
set_option maxHeartbeats 4000000 in
theorem L_Y8_needRow_15 {g : Cx} {d : Dl} (C : CX g cX8_needRow 2 none RX8) (hdm : g.dm = 0) (hA : ∀ q : Nat, g.s.heap.size ≤ q → g.A q) (hR0 : g.R = rmv 6 89 0 0) (hce : d.ce ≤ g.R.cells ∧ d.so ≤ g.R.slots) {res : Wd} (hR : rtV g d cX8_needRow res)  (w : Wd) (hq : p_Y8_needRow_15 w = some res) : XG g d (hP g d w) [] [] 15 := by
  cases hq
set_option maxRecDepth 100000 in
set_option maxHeartbeats 4000000 in
theorem L_Y8_needRow {g : Cx} {d : Dl} (C : CX g cX8_needRow 2 none RX8) (hdm : g.dm = 0) (hA : ∀ q : Nat, g.s.heap.size ≤ q → g.A q) (hR0 : g.R = rmv 6 89 0 0) (hce : d.ce ≤ g.R.cells ∧ d.so ≤ g.R.slots) {res : Wd} (hR : rtV g d cX8_needRow res) (x1 : Int) (w : Wd) (hq : p_Y8_needRow x1 w = some res) : XG g d (hP g d w) [(0, .ref (d.ad (1))), (1, iV (x1))] [] 0 := by
  refine x_iload_n C 1 dX8_needRow_0 rfl ?_
  refine x_if_lt (tgt := 15) C dX8_needRow_1 (by decide) hq (fun hq => ?_) (fun hq => ?_)
  · refine XG.sub [] rfl ?_
    exact L_Y8_needRow_15 C hdm hA hR0 hce hR _ hq
  · refine x_iload_n C 1 dX8_needRow_4 rfl ?_
    refine x_aload_n C 0 dX8_needRow_5 rfl ?_
    refine x_getr (K := 9) (k := 4) (o2 := 100) C (isK_lit hdm rfl rfl) (by decide) cl_X8 (by decide) ⟨rfl, rfl, rfl⟩ fl_X8_42 rfl dX8_needRow_6 ?_
    refine x_get (K := 7) (k := 1) C (isK_lit hdm rfl rfl) (by decide) cl_X6 (by decide) ⟨rfl, rfl, rfl⟩ fl_X8_109 dX8_needRow_9 ?_
    refine x_icmp_lt (tgt := 23) C dX8_needRow_12 (by decide) hq (fun hq => ?_) (fun hq => ?_)
    · exact hR _ _ _ hq dX8_needRow_23
    · refine XG.sub [] rfl ?_
      exact L_Y8_needRow_15 C hdm hA hR0 hce hR _ hq
set_option maxRecDepth 100000 in
set_option maxHeartbeats 4000000 in
theorem c_Y8_needRow (l : Launch) (G : Gd) {dm na : Nat} {ad : Nat → Nat} (hdm : dm = 0) {x1 : Int} {w w' : Wd}   (hq : p_Y8_needRow x1 w = some w') : mV l yX8_needRow cX8_needRow 2 none (rmv 6 89 0 0) G dm na ad [.ref (ad (1)), iV (x1)] w w' := by
  refine met_V [(0, .ref (ad (1))), (1, iV (x1))] (by decide) (Nat.le_of_ble_eq_true rfl) rfl rfl (fun g d C S hR => ?_)
  obtain ⟨rfl, hR0, rfl, rfl, rfl, hA⟩ := S
  exact L_Y8_needRow (d := (na, ad, 0, 0)) C hdm hA hR0 ⟨Nat.zero_le _, Nat.zero_le _⟩ hR  _ w hq
set_option maxRecDepth 100000 in
set_option maxHeartbeats 4000000 in
theorem L_Y8_needCell_20 {g : Cx} {d : Dl} (C : CX g cX8_needCell 3 none RX8) (hdm : g.dm = 0) (hA : ∀ q : Nat, g.s.heap.size ≤ q → g.A q) (hR0 : g.R = rmv 7 110 0 0) (hce : d.ce ≤ g.R.cells ∧ d.so ≤ g.R.slots) {res : Wd} (hR : rtV g d cX8_needCell res)  (w : Wd) (hq : p_Y8_needCell_20 w = some res) : XG g d (hP g d w) [] [] 20 := by
  cases hq
set_option maxRecDepth 100000 in
set_option maxHeartbeats 4000000 in
theorem L_Y8_needCell {g : Cx} {d : Dl} (C : CX g cX8_needCell 3 none RX8) (hdm : g.dm = 0) (hA : ∀ q : Nat, g.s.heap.size ≤ q → g.A q) (hR0 : g.R = rmv 7 110 0 0) (hce : d.ce ≤ g.R.cells ∧ d.so ≤ g.R.slots) {res : Wd} (hR : rtV g d cX8_needCell res) (x1 : Int) (x2 : Int) (w : Wd) (hq : p_Y8_needCell x1 x2 w = some res) : XG g d (hP g d w) [(0, .ref (d.ad (1))), (1, iV (x1)), (2, iV (x2))] [] 0 := by
  refine x_aload_n C 0 dX8_needCell_0 rfl ?_
  refine x_iload_n C 2 dX8_needCell_1 rfl ?_
  refine x_callVv (K := 9) (rm := rmv 6 89 0 0) (As := [iV (x2)]) (rest := []) C hA hR0 mf_X8_needRow lk_X8_216 rfl (isK_lit hdm rfl rfl) (by decide) ⟨rfl, rfl⟩ ⟨Nat.le_of_ble_eq_true rfl, Nat.le_of_ble_eq_true rfl⟩ rfl rfl (Nat.le_of_ble_eq_true rfl) hce dX8_needCell_2 hq (fun _ h => c_Y8_needRow g.l g.G hdm  h) (fun w1 _ hq => ?_)
  refine x_iload_n C 1 dX8_needCell_5 rfl ?_
  refine x_if_lt (tgt := 20) C dX8_needCell_6 (by decide) hq (fun hq => ?_) (fun hq => ?_)
  · refine XG.sub [] rfl ?_
    exact L_Y8_needCell_20 C hdm hA hR0 hce hR _ hq
  · refine x_iload_n C 1 dX8_needCell_9 rfl ?_
    refine x_aload_n C 0 dX8_needCell_10 rfl ?_
    refine x_getr (K := 9) (k := 4) (o2 := 100) C (isK_lit hdm rfl rfl) (by decide) cl_X8 (by decide) ⟨rfl, rfl, rfl⟩ fl_X8_42 rfl dX8_needCell_11 ?_
    refine x_get (K := 7) (k := 0) C (isK_lit hdm rfl rfl) (by decide) cl_X6 (by decide) ⟨rfl, rfl, rfl⟩ fl_X8_106 dX8_needCell_14 ?_
    refine x_icmp_lt (tgt := 28) C dX8_needCell_17 (by decide) hq (fun hq => ?_) (fun hq => ?_)
    · exact hR _ _ _ hq dX8_needCell_28
    · refine XG.sub [] rfl ?_
      exact L_Y8_needCell_20 C hdm hA hR0 hce hR _ hq
set_option maxRecDepth 100000 in
set_option maxHeartbeats 4000000 in
theorem c_Y8_needCell (l : Launch) (G : Gd) {dm na : Nat} {ad : Nat → Nat} (hdm : dm = 0) {x1 : Int} {x2 : Int} {w w' : Wd}   (hq : p_Y8_needCell x1 x2 w = some w') : mV l yX8_needCell cX8_needCell 3 none (rmv 7 110 0 0) G dm na ad [.ref (ad (1)), iV (x1), iV (x2)] w w' := by
  refine met_V [(0, .ref (ad (1))), (1, iV (x1)), (2, iV (x2))] (by decide) (Nat.le_of_ble_eq_true rfl) rfl rfl (fun g d C S hR => ?_)
  obtain ⟨rfl, hR0, rfl, rfl, rfl, hA⟩ := S
  exact L_Y8_needCell (d := (na, ad, 0, 0)) C hdm hA hR0 ⟨Nat.zero_le _, Nat.zero_le _⟩ hR  _ _ w hq
set_option maxRecDepth 100000 in
set_option maxHeartbeats 4000000 in
theorem L_Y8_cell {g : Cx} {d : Dl} (C : CX g cX8_cell 4 (some .int) RX8) (hdm : g.dm = 0) (hA : ∀ q : Nat, g.s.heap.size ≤ q → g.A q) (hR0 : g.R = rmv 8 132 0 0) (hce : d.ce ≤ g.R.cells ∧ d.so ≤ g.R.slots) {res : Int × Wd} (hR : rtI g d cX8_cell .int res) (x1 : Int) (x2 : Int) (w : Wd) (hq : p_Y8_cell x1 x2 w = some res) : XG g d (hP g d w) [(0, .ref (d.ad (1))), (1, iV (x1)), (2, iV (x2))] [] 0 := by
  refine x_aload_n C 0 dX8_cell_0 rfl ?_
  refine x_iload_n C 1 dX8_cell_1 rfl ?_
  refine x_iload_n C 2 dX8_cell_2 rfl ?_
  refine x_callVv (K := 9) (rm := rmv 7 110 0 0) (As := [iV (x1), iV (x2)]) (rest := []) C hA hR0 mf_X8_needCell lk_X8_204 rfl (isK_lit hdm rfl rfl) (by decide) ⟨rfl, rfl⟩ ⟨Nat.le_of_ble_eq_true rfl, Nat.le_of_ble_eq_true rfl⟩ rfl rfl (Nat.le_of_ble_eq_true rfl) hce dX8_cell_3 hq (fun _ h => c_Y8_needCell g.l g.G hdm  h) (fun w1 _ hq => ?_)
  refine x_aload_n C 0 dX8_cell_6 rfl ?_
  refine x_getr (K := 9) (k := 4) (o2 := 100) C (isK_lit hdm rfl rfl) (by decide) cl_X8 (by decide) ⟨rfl, rfl, rfl⟩ fl_X8_42 rfl dX8_cell_7 ?_
  refine x_iload_n C 1 dX8_cell_10 rfl ?_
  refine x_iload_n C 2 dX8_cell_11 rfl ?_
  refine x_callVi (K := 7) (rm := rmv 1 21 0 0) (As := [iV (x1), iV (x2)]) (rest := []) C hA hR0 mf_X6_flawed lk_X8_208 rfl (isK_lit hdm rfl rfl) (by decide) ⟨rfl, rfl⟩ ⟨Nat.le_of_ble_eq_true rfl, Nat.le_of_ble_eq_true rfl⟩ rfl rfl (Nat.le_of_ble_eq_true rfl) hce dX8_cell_12 hq (fun _ _ h => c_X6_flawed g.l g.G hdm (isK_lit hdm rfl rfl) h) (fun r3 w2 _ hq => ?_)
  refine x_if_eq (tgt := 20) C dX8_cell_15 (by decide) hq (fun hq => ?_) (fun hq => ?_)
  · refine x_aload_n C 0 dX8_cell_20 rfl ?_
    refine x_getr (K := 9) (k := 5) (o2 := 10) C (isK_lit hdm rfl rfl) (by decide) cl_X8 (by decide) ⟨rfl, rfl, rfl⟩ fl_X8_49 rfl dX8_cell_21 ?_
    refine x_aload_n C 0 dX8_cell_24 rfl ?_
    refine x_getr (K := 9) (k := 4) (o2 := 100) C (isK_lit hdm rfl rfl) (by decide) cl_X8 (by decide) ⟨rfl, rfl, rfl⟩ fl_X8_42 rfl dX8_cell_25 ?_
    refine x_iload_n C 1 dX8_cell_28 rfl ?_
    refine x_iload_n C 2 dX8_cell_29 rfl ?_
    refine x_callVi (K := 3) (rm := rmv 1 21 0 0) (As := [.ref (d.ad (100)), iV (x1), iV (x2)]) (rest := []) C hA hR0 mf_X2_wordOn lk_X8_212 rfl (isK_lit hdm rfl rfl) (by decide) ⟨rfl, rfl⟩ ⟨Nat.le_of_ble_eq_true rfl, Nat.le_of_ble_eq_true rfl⟩ rfl rfl (Nat.le_of_ble_eq_true rfl) hce dX8_cell_30 hq (fun _ _ h => c_X2_wordOn g.l g.G hdm (isK_lit hdm rfl rfl) (isK_lit hdm rfl rfl) h) (fun r5 w4 _ hq => ?_)
    refine x_istore_n (lv' := [(3, iV (r5)), (0, .ref (d.ad (1))), (1, iV (x1)), (2, iV (x2))]) C dX8_cell_33 (by decide) rfl ?_
    refine x_iload_n C 0 dX8_cell_34 rfl ?_
    refine x_iconst C dX8_cell_35 ?_
    refine x_icmp_ne (tgt := 43) C dX8_cell_36 (by decide) hq (fun hq => ?_) (fun hq => ?_)
    · refine x_aload_n C 1 dX8_cell_43 rfl ?_
      refine x_getr (K := 9) (k := 4) (o2 := 100) C (isK_lit hdm rfl rfl) (by decide) cl_X8 (by decide) ⟨rfl, rfl, rfl⟩ fl_X8_42 rfl dX8_cell_44 ?_
      refine x_iload_n C 0 dX8_cell_47 rfl ?_
      refine x_iload_n C 2 dX8_cell_48 rfl ?_
      refine x_aload_n C 1 dX8_cell_49 rfl ?_
      refine x_getr (K := 9) (k := 5) (o2 := 10) C (isK_lit hdm rfl rfl) (by decide) cl_X8 (by decide) ⟨rfl, rfl, rfl⟩ fl_X8_49 rfl dX8_cell_50 ?_
      refine x_getr (K := 3) (k := 1) (o2 := 13) C (isK_lit hdm rfl rfl) (by decide) cl_X2 (by decide) ⟨rfl, rfl, rfl⟩ fl_X8_189 rfl dX8_cell_53 ?_
      refine x_iload_n C 0 dX8_cell_56 rfl ?_
      refine x_callVi (K := 6) (rm := rmv 0 0 0 0) (As := [iV (r5)]) (rest := [iV (x1), iV (r5), .ref (d.ad (100))]) C hA hR0 mf_X5_at lk_X8_160 rfl (isK_lit hdm rfl rfl) (by decide) ⟨rfl, rfl⟩ ⟨Nat.le_of_ble_eq_true rfl, Nat.le_of_ble_eq_true rfl⟩ rfl rfl (Nat.le_of_ble_eq_true rfl) hce dX8_cell_57 hq (fun _ _ h => c_X5_at g.l g.G hdm (isK_lit hdm rfl rfl) h) (fun r7 w6 _ hq => ?_)
      refine x_isub C dX8_cell_60 ?_
      refine x_callVi (K := 7) (rm := rmv 1 21 0 0) (As := [iV (r5), iV (x1 - r7)]) (rest := []) C hA hR0 mf_X6_byteOf lk_X8_201 rfl (isK_lit hdm rfl rfl) (by decide) ⟨rfl, rfl⟩ ⟨Nat.le_of_ble_eq_true rfl, Nat.le_of_ble_eq_true rfl⟩ rfl rfl (Nat.le_of_ble_eq_true rfl) hce dX8_cell_61 hq (fun _ _ h => c_X6_byteOf g.l g.G hdm (isK_lit hdm rfl rfl) h) (fun r9 w8 _ hq => ?_)
      exact hR _ _ _ _ hq rfl dX8_cell_64
    · refine x_iconst C dX8_cell_39 ?_
      refine x_goto (tgt := 64) C dX8_cell_40 (by decide) ?_
      exact hR _ _ _ _ hq rfl dX8_cell_64
  · refine x_iconst C dX8_cell_18 ?_
    exact hR _ _ _ _ hq rfl dX8_cell_19
set_option maxRecDepth 100000 in
set_option maxHeartbeats 4000000 in
theorem c_Y8_cell (l : Launch) (G : Gd) {dm na : Nat} {ad : Nat → Nat} (hdm : dm = 0) {x1 : Int} {x2 : Int} {w w' : Wd} {r : Int}  (hq : p_Y8_cell x1 x2 w = some (r, w')) : mI l yX8_cell cX8_cell 4 (some .int) (rmv 8 132 0 0) G dm na ad [.ref (ad (1)), iV (x1), iV (x2)] w r w' := by
  refine met_I [(0, .ref (ad (1))), (1, iV (x1)), (2, iV (x2))] (by decide) (Nat.le_of_ble_eq_true rfl) rfl .int rfl (fun g d C S hR => ?_)
  obtain ⟨rfl, hR0, rfl, rfl, rfl, hA⟩ := S
  exact L_Y8_cell (d := (na, ad, 0, 0)) C hdm hA hR0 ⟨Nat.zero_le _, Nat.zero_le _⟩ hR  _ _ w hq
set_option maxRecDepth 100000 in
set_option maxHeartbeats 4000000 in
theorem L_Y8_wordAt {g : Cx} {d : Dl} (C : CX g cX8_wordAt 3 (some .int) RX8) (hdm : g.dm = 0) (hA : ∀ q : Nat, g.s.heap.size ≤ q → g.A q) (hR0 : g.R = rmv 8 132 0 0) (hce : d.ce ≤ g.R.cells ∧ d.so ≤ g.R.slots) {res : Int × Wd} (hR : rtI g d cX8_wordAt .int res) (x1 : Int) (x2 : Int) (w : Wd) (hq : p_Y8_wordAt x1 x2 w = some res) : XG g d (hP g d w) [(0, .ref (d.ad (1))), (1, iV (x1)), (2, iV (x2))] [] 0 := by
  refine x_aload_n C 0 dX8_wordAt_0 rfl ?_
  refine x_iload_n C 1 dX8_wordAt_1 rfl ?_
  refine x_iload_n C 2 dX8_wordAt_2 rfl ?_
  refine x_callVv (K := 9) (rm := rmv 7 110 0 0) (As := [iV (x1), iV (x2)]) (rest := []) C hA hR0 mf_X8_needCell lk_X8_204 rfl (isK_lit hdm rfl rfl) (by decide) ⟨rfl, rfl⟩ ⟨Nat.le_of_ble_eq_true rfl, Nat.le_of_ble_eq_true rfl⟩ rfl rfl (Nat.le_of_ble_eq_true rfl) hce dX8_wordAt_3 hq (fun _ h => c_Y8_needCell g.l g.G hdm  h) (fun w1 _ hq => ?_)
  refine x_aload_n C 0 dX8_wordAt_6 rfl ?_
  refine x_getr (K := 9) (k := 5) (o2 := 10) C (isK_lit hdm rfl rfl) (by decide) cl_X8 (by decide) ⟨rfl, rfl, rfl⟩ fl_X8_49 rfl dX8_wordAt_7 ?_
  refine x_aload_n C 0 dX8_wordAt_10 rfl ?_
  refine x_getr (K := 9) (k := 4) (o2 := 100) C (isK_lit hdm rfl rfl) (by decide) cl_X8 (by decide) ⟨rfl, rfl, rfl⟩ fl_X8_42 rfl dX8_wordAt_11 ?_
  refine x_iload_n C 1 dX8_wordAt_14 rfl ?_
  refine x_iload_n C 2 dX8_wordAt_15 rfl ?_
  refine x_callVi (K := 3) (rm := rmv 1 21 0 0) (As := [.ref (d.ad (100)), iV (x1), iV (x2)]) (rest := []) C hA hR0 mf_X2_wordOn lk_X8_212 rfl (isK_lit hdm rfl rfl) (by decide) ⟨rfl, rfl⟩ ⟨Nat.le_of_ble_eq_true rfl, Nat.le_of_ble_eq_true rfl⟩ rfl rfl (Nat.le_of_ble_eq_true rfl) hce dX8_wordAt_16 hq (fun _ _ h => c_X2_wordOn g.l g.G hdm (isK_lit hdm rfl rfl) (isK_lit hdm rfl rfl) h) (fun r3 w2 _ hq => ?_)
  exact hR _ _ _ _ hq rfl dX8_wordAt_19
set_option maxRecDepth 100000 in
set_option maxHeartbeats 4000000 in
theorem c_Y8_wordAt (l : Launch) (G : Gd) {dm na : Nat} {ad : Nat → Nat} (hdm : dm = 0) {x1 : Int} {x2 : Int} {w w' : Wd} {r : Int}  (hq : p_Y8_wordAt x1 x2 w = some (r, w')) : mI l yX8_wordAt cX8_wordAt 3 (some .int) (rmv 8 132 0 0) G dm na ad [.ref (ad (1)), iV (x1), iV (x2)] w r w' := by
  refine met_I [(0, .ref (ad (1))), (1, iV (x1)), (2, iV (x2))] (by decide) (Nat.le_of_ble_eq_true rfl) rfl .int rfl (fun g d C S hR => ?_)
  obtain ⟨rfl, hR0, rfl, rfl, rfl, hA⟩ := S
  exact L_Y8_wordAt (d := (na, ad, 0, 0)) C hdm hA hR0 ⟨Nat.zero_le _, Nat.zero_le _⟩ hR  _ _ w hq
set_option maxRecDepth 100000 in
set_option maxHeartbeats 4000000 in
theorem L_Y8_freeIn_52 {g : Cx} {d : Dl} (C : CX g cX8_freeIn 4 (some .int) RX8) (hdm : g.dm = 0) (hA : ∀ q : Nat, g.s.heap.size ≤ q → g.A q) (hR0 : g.R = rmv 7 110 0 0) (hce : d.ce ≤ g.R.cells ∧ d.so ≤ g.R.slots) {res : Int × Wd} (hR : rtI g d cX8_freeIn .int res) {k9 : Int → Int → Int → Wd → Option (Int × Wd)} (hk9 : ∀ (x1 : Int) (x2 : Int) (x3 : Int) (w : Wd), k9 x1 x2 x3 w = some res → XG g d (hP g d w) [(0, .ref (d.ad (1))), (1, iV (x1)), (2, iV (x2)), (3, iV (x3))] [] 9) (x1 : Int) (x2 : Int) (x3 : Int) (w : Wd) (hq : p_Y8_freeIn_52 k9 x1 x2 x3 w = some res) : XG g d (hP g d w) [(0, .ref (d.ad (1))), (1, iV (x1)), (2, iV (x2)), (3, iV (x3))] [] 52 := by
  refine x_iinc (lv' := [(3, iV (x3 + 1)), (0, .ref (d.ad (1))), (1, iV (x1)), (2, iV (x2))]) C 3 dX8_freeIn_52 rfl (by decide) rfl ?_
  refine x_goto (tgt := 9) C dX8_freeIn_55 (by decide) ?_
  refine XG.sub [1, 2, 3, 0] rfl ?_
  exact hk9 _ _ _ _ hq
set_option maxRecDepth 100000 in
set_option maxHeartbeats 4000000 in
theorem L_Y8_freeIn_9 {g : Cx} {d : Dl} (C : CX g cX8_freeIn 4 (some .int) RX8) (hdm : g.dm = 0) (hA : ∀ q : Nat, g.s.heap.size ≤ q → g.A q) (hR0 : g.R = rmv 7 110 0 0) (hce : d.ce ≤ g.R.cells ∧ d.so ≤ g.R.slots) {res : Int × Wd} (hR : rtI g d cX8_freeIn .int res) : ∀ (n : Nat) (x1 : Int) (x2 : Int) (x3 : Int) (w : Wd), p_Y8_freeIn_9 n x1 x2 x3 w = some res → XG g d (hP g d w) [(0, .ref (d.ad (1))), (1, iV (x1)), (2, iV (x2)), (3, iV (x3))] [] 9 := by
  intro n
  induction n with
  | zero => intro x1 x2 x3 w  hq; exact nomatch (show none = some _ from hq)
  | succ n ih =>
    intro x1 x2 x3 w  hq
    refine x_iload_n C 3 dX8_freeIn_9 rfl ?_
    refine x_aload_n C 0 dX8_freeIn_10 rfl ?_
    refine x_getr (K := 9) (k := 4) (o2 := 100) C (isK_lit hdm rfl rfl) (by decide) cl_X8 (by decide) ⟨rfl, rfl, rfl⟩ fl_X8_42 rfl dX8_freeIn_11 ?_
    refine x_get (K := 7) (k := 0) C (isK_lit hdm rfl rfl) (by decide) cl_X6 (by decide) ⟨rfl, rfl, rfl⟩ fl_X8_106 dX8_freeIn_14 ?_
    refine x_icmp_ge (tgt := 58) C dX8_freeIn_17 (by decide) hq (fun hq => ?_) (fun hq => ?_)
    · refine x_iload_n C 2 dX8_freeIn_58 rfl ?_
      exact hR _ _ _ _ hq rfl dX8_freeIn_59
    · refine x_aload_n C 0 dX8_freeIn_20 rfl ?_
      refine x_getr (K := 9) (k := 4) (o2 := 100) C (isK_lit hdm rfl rfl) (by decide) cl_X8 (by decide) ⟨rfl, rfl, rfl⟩ fl_X8_42 rfl dX8_freeIn_21 ?_
      refine x_iload_n C 3 dX8_freeIn_24 rfl ?_
      refine x_iload_n C 1 dX8_freeIn_25 rfl ?_
      refine x_callVi (K := 7) (rm := rmv 1 21 0 0) (As := [iV (x3), iV (x1)]) (rest := []) C hA hR0 mf_X6_flawed lk_X8_208 rfl (isK_lit hdm rfl rfl) (by decide) ⟨rfl, rfl⟩ ⟨Nat.le_of_ble_eq_true rfl, Nat.le_of_ble_eq_true rfl⟩ rfl rfl (Nat.le_of_ble_eq_true rfl) hce dX8_freeIn_26 hq (fun _ _ h => c_X6_flawed g.l g.G hdm (isK_lit hdm rfl rfl) h) (fun r2 w1 _ hq => ?_)
      refine x_if_ne (tgt := 52) C dX8_freeIn_29 (by decide) hq (fun hq => ?_) (fun hq => ?_)
      · exact L_Y8_freeIn_52 C hdm hA hR0 hce hR ih _ _ _ _ hq
      · refine x_aload_n C 0 dX8_freeIn_32 rfl ?_
        refine x_getr (K := 9) (k := 5) (o2 := 10) C (isK_lit hdm rfl rfl) (by decide) cl_X8 (by decide) ⟨rfl, rfl, rfl⟩ fl_X8_49 rfl dX8_freeIn_33 ?_
        refine x_aload_n C 0 dX8_freeIn_36 rfl ?_
        refine x_getr (K := 9) (k := 4) (o2 := 100) C (isK_lit hdm rfl rfl) (by decide) cl_X8 (by decide) ⟨rfl, rfl, rfl⟩ fl_X8_42 rfl dX8_freeIn_37 ?_
        refine x_iload_n C 3 dX8_freeIn_40 rfl ?_
        refine x_iload_n C 1 dX8_freeIn_41 rfl ?_
        refine x_callVi (K := 3) (rm := rmv 1 21 0 0) (As := [.ref (d.ad (100)), iV (x3), iV (x1)]) (rest := []) C hA hR0 mf_X2_wordOn lk_X8_212 rfl (isK_lit hdm rfl rfl) (by decide) ⟨rfl, rfl⟩ ⟨Nat.le_of_ble_eq_true rfl, Nat.le_of_ble_eq_true rfl⟩ rfl rfl (Nat.le_of_ble_eq_true rfl) hce dX8_freeIn_42 hq (fun _ _ h => c_X2_wordOn g.l g.G hdm (isK_lit hdm rfl rfl) (isK_lit hdm rfl rfl) h) (fun r4 w3 _ hq => ?_)
        refine x_iconst C dX8_freeIn_45 ?_
        refine x_icmp_ne (tgt := 52) C dX8_freeIn_46 (by decide) hq (fun hq => ?_) (fun hq => ?_)
        · exact L_Y8_freeIn_52 C hdm hA hR0 hce hR ih _ _ _ _ hq
        · refine x_iinc (lv' := [(2, iV (x2 + 1)), (0, .ref (d.ad (1))), (1, iV (x1)), (3, iV (x3))]) C 2 dX8_freeIn_49 rfl (by decide) rfl ?_
          refine XG.sub [1, 2, 0, 3] rfl ?_
          exact L_Y8_freeIn_52 C hdm hA hR0 hce hR ih _ _ _ _ hq
set_option maxRecDepth 100000 in
set_option maxHeartbeats 4000000 in
theorem L_Y8_freeIn {g : Cx} {d : Dl} (C : CX g cX8_freeIn 4 (some .int) RX8) (hdm : g.dm = 0) (hA : ∀ q : Nat, g.s.heap.size ≤ q → g.A q) (hR0 : g.R = rmv 7 110 0 0) (hce : d.ce ≤ g.R.cells ∧ d.so ≤ g.R.slots) {res : Int × Wd} (hR : rtI g d cX8_freeIn .int res) (x1 : Int) (w : Wd) (hq : p_Y8_freeIn x1 w = some res) : XG g d (hP g d w) [(0, .ref (d.ad (1))), (1, iV (x1))] [] 0 := by
  refine x_aload_n C 0 dX8_freeIn_0 rfl ?_
  refine x_iload_n C 1 dX8_freeIn_1 rfl ?_
  refine x_callVv (K := 9) (rm := rmv 6 89 0 0) (As := [iV (x1)]) (rest := []) C hA hR0 mf_X8_needRow lk_X8_216 rfl (isK_lit hdm rfl rfl) (by decide) ⟨rfl, rfl⟩ ⟨Nat.le_of_ble_eq_true rfl, Nat.le_of_ble_eq_true rfl⟩ rfl rfl (Nat.le_of_ble_eq_true rfl) hce dX8_freeIn_2 hq (fun _ h => c_Y8_needRow g.l g.G hdm  h) (fun w1 _ hq => ?_)
  refine x_iconst C dX8_freeIn_5 ?_
  refine x_istore_n (lv' := [(2, iV (0)), (0, .ref (d.ad (1))), (1, iV (x1))]) C dX8_freeIn_6 (by decide) rfl ?_
  refine x_iconst C dX8_freeIn_7 ?_
  refine x_istore_n (lv' := [(3, iV (0)), (2, iV (0)), (0, .ref (d.ad (1))), (1, iV (x1))]) C dX8_freeIn_8 (by decide) rfl ?_
  refine XG.sub [2, 3, 1, 0] rfl ?_
  exact L_Y8_freeIn_9 C hdm hA hR0 hce hR _ _ _ _ _ hq
set_option maxRecDepth 100000 in
set_option maxHeartbeats 4000000 in
theorem c_Y8_freeIn (l : Launch) (G : Gd) {dm na : Nat} {ad : Nat → Nat} (hdm : dm = 0) {x1 : Int} {w w' : Wd} {r : Int}  (hq : p_Y8_freeIn x1 w = some (r, w')) : mI l yX8_freeIn cX8_freeIn 4 (some .int) (rmv 7 110 0 0) G dm na ad [.ref (ad (1)), iV (x1)] w r w' := by
  refine met_I [(0, .ref (ad (1))), (1, iV (x1))] (by decide) (Nat.le_of_ble_eq_true rfl) rfl .int rfl (fun g d C S hR => ?_)
  obtain ⟨rfl, hR0, rfl, rfl, rfl, hA⟩ := S
  exact L_Y8_freeIn (d := (na, ad, 0, 0)) C hdm hA hR0 ⟨Nat.zero_le _, Nat.zero_le _⟩ hR  _ w hq
set_option maxRecDepth 100000 in
set_option maxHeartbeats 4000000 in
theorem L_L_flaw {g : Cx} {d : Dl} (C : CX g cL_flaw 3 (some .boolean) RL) (hdm : g.dm = 0) (hA : ∀ q : Nat, g.s.heap.size ≤ q → g.A q) (hR0 : g.R = rmv 9 155 0 0) (hce : d.ce ≤ g.R.cells ∧ d.so ≤ g.R.slots) {res : Int × Wd} (hR : rtI g d cL_flaw .boolean res) (x1 : Int) (x2 : Int) (w : Wd) (hq : p_L_flaw x1 x2 w = some res) : XG g d (hP g d w) [(0, .ref (d.ad (1))), (1, iV (x1)), (2, iV (x2))] [] 0 := by
  refine x_iload_n C 1 dL_flaw_0 rfl ?_
  refine x_if_lt (tgt := 40) C dL_flaw_1 (by decide) hq (fun hq => ?_) (fun hq => ?_)
  · refine x_iconst C dL_flaw_40 ?_
    exact hR _ _ _ _ hq (by decide +kernel) dL_flaw_41
  · refine x_iload_n C 2 dL_flaw_4 rfl ?_
    refine x_if_lt (tgt := 40) C dL_flaw_5 (by decide) hq (fun hq => ?_) (fun hq => ?_)
    · refine x_iconst C dL_flaw_40 ?_
      exact hR _ _ _ _ hq (by decide +kernel) dL_flaw_41
    · refine x_iload_n C 1 dL_flaw_8 rfl ?_
      refine x_aload_n C 0 dL_flaw_9 rfl ?_
      refine x_iconst C dL_flaw_10 ?_
      refine x_callVi (K := 9) (rm := rmv 6 89 0 0) (As := [iV (0)]) (rest := [iV (x1)]) C hA hR0 mf_X8_property lk_L_94 rfl (isK_lit hdm rfl rfl) (by decide) ⟨rfl, rfl⟩ ⟨Nat.le_of_ble_eq_true rfl, Nat.le_of_ble_eq_true rfl⟩ rfl rfl (Nat.le_of_ble_eq_true rfl) hce dL_flaw_11 hq (fun _ _ h => c_Y8_property g.l g.G hdm  h) (fun r2 w1 _ hq => ?_)
      refine x_icmp_ge (tgt := 40) C dL_flaw_14 (by decide) hq (fun hq => ?_) (fun hq => ?_)
      · refine x_iconst C dL_flaw_40 ?_
        exact hR _ _ _ _ hq (by decide +kernel) dL_flaw_41
      · refine x_iload_n C 2 dL_flaw_17 rfl ?_
        refine x_aload_n C 0 dL_flaw_18 rfl ?_
        refine x_iconst C dL_flaw_19 ?_
        refine x_callVi (K := 9) (rm := rmv 6 89 0 0) (As := [iV (1)]) (rest := [iV (x2)]) C hA hR0 mf_X8_property lk_L_94 rfl (isK_lit hdm rfl rfl) (by decide) ⟨rfl, rfl⟩ ⟨Nat.le_of_ble_eq_true rfl, Nat.le_of_ble_eq_true rfl⟩ rfl rfl (Nat.le_of_ble_eq_true rfl) hce dL_flaw_20 hq (fun _ _ h => c_Y8_property g.l g.G hdm  h) (fun r4 w3 _ hq => ?_)
        refine x_icmp_ge (tgt := 40) C dL_flaw_23 (by decide) hq (fun hq => ?_) (fun hq => ?_)
        · refine x_iconst C dL_flaw_40 ?_
          exact hR _ _ _ _ hq (by decide +kernel) dL_flaw_41
        · refine x_aload_n C 0 dL_flaw_26 rfl ?_
          refine x_iload_n C 1 dL_flaw_27 rfl ?_
          refine x_iload_n C 2 dL_flaw_28 rfl ?_
          refine x_callVi (K := 9) (rm := rmv 8 132 0 0) (As := [iV (x1), iV (x2)]) (rest := []) C hA hR0 mf_X8_cell lk_L_178 rfl (isK_lit hdm rfl rfl) (by decide) ⟨rfl, rfl⟩ ⟨Nat.le_of_ble_eq_true rfl, Nat.le_of_ble_eq_true rfl⟩ rfl rfl (Nat.le_of_ble_eq_true rfl) hce dL_flaw_29 hq (fun _ _ h => c_Y8_cell g.l g.G hdm  h) (fun r6 w5 _ hq => ?_)
          refine x_iconst C dL_flaw_32 ?_
          refine x_icmp_ne (tgt := 40) C dL_flaw_33 (by decide) hq (fun hq => ?_) (fun hq => ?_)
          · refine x_iconst C dL_flaw_40 ?_
            exact hR _ _ _ _ hq (by decide +kernel) dL_flaw_41
          · refine x_iconst C dL_flaw_36 ?_
            refine x_goto (tgt := 41) C dL_flaw_37 (by decide) ?_
            exact hR _ _ _ _ hq (by decide +kernel) dL_flaw_41
set_option maxRecDepth 100000 in
set_option maxHeartbeats 4000000 in
theorem c_L_flaw (l : Launch) (G : Gd) {dm na : Nat} {ad : Nat → Nat} (hdm : dm = 0) {x1 : Int} {x2 : Int} {w w' : Wd} {r : Int}  (hq : p_L_flaw x1 x2 w = some (r, w')) : mI l yL_flaw cL_flaw 3 (some .boolean) (rmv 9 155 0 0) G dm na ad [.ref (ad (1)), iV (x1), iV (x2)] w r w' := by
  refine met_I [(0, .ref (ad (1))), (1, iV (x1)), (2, iV (x2))] (by decide) (Nat.le_of_ble_eq_true rfl) rfl .boolean rfl (fun g d C S hR => ?_)
  obtain ⟨rfl, hR0, rfl, rfl, rfl, hA⟩ := S
  exact L_L_flaw (d := (na, ad, 0, 0)) C hdm hA hR0 ⟨Nat.zero_le _, Nat.zero_le _⟩ hR  _ _ w hq
set_option maxRecDepth 100000 in
set_option maxHeartbeats 4000000 in
theorem L_L_touched_44 {g : Cx} {d : Dl} (C : CX g cL_touched 3 (some .boolean) RL) (hdm : g.dm = 0) (hA : ∀ q : Nat, g.s.heap.size ≤ q → g.A q) (hR0 : g.R = rmv 10 177 0 0) (hce : d.ce ≤ g.R.cells ∧ d.so ≤ g.R.slots) {res : Int × Wd} (hR : rtI g d cL_touched .boolean res)  (w : Wd) (hq : p_L_touched_44 w = some res) : XG g d (hP g d w) [] [] 44 := by
  refine x_iconst C dL_touched_44 ?_
  refine x_goto (tgt := 49) C dL_touched_45 (by decide) ?_
  exact hR _ _ _ _ hq (by decide +kernel) dL_touched_49
set_option maxRecDepth 100000 in
set_option maxHeartbeats 4000000 in
theorem L_L_touched {g : Cx} {d : Dl} (C : CX g cL_touched 3 (some .boolean) RL) (hdm : g.dm = 0) (hA : ∀ q : Nat, g.s.heap.size ≤ q → g.A q) (hR0 : g.R = rmv 10 177 0 0) (hce : d.ce ≤ g.R.cells ∧ d.so ≤ g.R.slots) {res : Int × Wd} (hR : rtI g d cL_touched .boolean res) (x1 : Int) (x2 : Int) (w : Wd) (hq : p_L_touched x1 x2 w = some res) : XG g d (hP g d w) [(0, .ref (d.ad (1))), (1, iV (x1)), (2, iV (x2))] [] 0 := by
  refine x_aload_n C 0 dL_touched_0 rfl ?_
  refine x_iload_n C 1 dL_touched_1 rfl ?_
  refine x_iconst C dL_touched_2 ?_
  refine x_isub C dL_touched_3 ?_
  refine x_iload_n C 2 dL_touched_4 rfl ?_
  refine x_callSi (rm := rmv 9 155 0 0) (As := [.ref (d.ad (1)), iV (x1 - 1), iV (x2)]) (rest := []) C hA hR0 mf_L_flaw lk_L_181 ⟨rfl, rfl⟩ ⟨Nat.le_of_ble_eq_true rfl, Nat.le_of_ble_eq_true rfl⟩ rfl rfl (Nat.le_of_ble_eq_true rfl) hce dL_touched_5 hq (fun _ _ h => c_L_flaw g.l g.G hdm  h) (fun r2 w1 _ hq => ?_)
  refine x_if_ne (tgt := 44) C dL_touched_8 (by decide) hq (fun hq => ?_) (fun hq => ?_)
  · refine XG.sub [] rfl ?_
    exact L_L_touched_44 C hdm hA hR0 hce hR _ hq
  · refine x_aload_n C 0 dL_touched_11 rfl ?_
    refine x_iload_n C 1 dL_touched_12 rfl ?_
    refine x_iconst C dL_touched_13 ?_
    refine x_iadd C dL_touched_14 ?_
    refine x_iload_n C 2 dL_touched_15 rfl ?_
    refine x_callSi (rm := rmv 9 155 0 0) (As := [.ref (d.ad (1)), iV (x1 + 1), iV (x2)]) (rest := []) C hA hR0 mf_L_flaw lk_L_181 ⟨rfl, rfl⟩ ⟨Nat.le_of_ble_eq_true rfl, Nat.le_of_ble_eq_true rfl⟩ rfl rfl (Nat.le_of_ble_eq_true rfl) hce dL_touched_16 hq (fun _ _ h => c_L_flaw g.l g.G hdm  h) (fun r4 w3 _ hq => ?_)
    refine x_if_ne (tgt := 44) C dL_touched_19 (by decide) hq (fun hq => ?_) (fun hq => ?_)
    · refine XG.sub [] rfl ?_
      exact L_L_touched_44 C hdm hA hR0 hce hR _ hq
    · refine x_aload_n C 0 dL_touched_22 rfl ?_
      refine x_iload_n C 1 dL_touched_23 rfl ?_
      refine x_iload_n C 2 dL_touched_24 rfl ?_
      refine x_iconst C dL_touched_25 ?_
      refine x_isub C dL_touched_26 ?_
      refine x_callSi (rm := rmv 9 155 0 0) (As := [.ref (d.ad (1)), iV (x1), iV (x2 - 1)]) (rest := []) C hA hR0 mf_L_flaw lk_L_181 ⟨rfl, rfl⟩ ⟨Nat.le_of_ble_eq_true rfl, Nat.le_of_ble_eq_true rfl⟩ rfl rfl (Nat.le_of_ble_eq_true rfl) hce dL_touched_27 hq (fun _ _ h => c_L_flaw g.l g.G hdm  h) (fun r6 w5 _ hq => ?_)
      refine x_if_ne (tgt := 44) C dL_touched_30 (by decide) hq (fun hq => ?_) (fun hq => ?_)
      · refine XG.sub [] rfl ?_
        exact L_L_touched_44 C hdm hA hR0 hce hR _ hq
      · refine x_aload_n C 0 dL_touched_33 rfl ?_
        refine x_iload_n C 1 dL_touched_34 rfl ?_
        refine x_iload_n C 2 dL_touched_35 rfl ?_
        refine x_iconst C dL_touched_36 ?_
        refine x_iadd C dL_touched_37 ?_
        refine x_callSi (rm := rmv 9 155 0 0) (As := [.ref (d.ad (1)), iV (x1), iV (x2 + 1)]) (rest := []) C hA hR0 mf_L_flaw lk_L_181 ⟨rfl, rfl⟩ ⟨Nat.le_of_ble_eq_true rfl, Nat.le_of_ble_eq_true rfl⟩ rfl rfl (Nat.le_of_ble_eq_true rfl) hce dL_touched_38 hq (fun _ _ h => c_L_flaw g.l g.G hdm  h) (fun r8 w7 _ hq => ?_)
        refine x_if_eq (tgt := 48) C dL_touched_41 (by decide) hq (fun hq => ?_) (fun hq => ?_)
        · refine x_iconst C dL_touched_48 ?_
          exact hR _ _ _ _ hq (by decide +kernel) dL_touched_49
        · refine XG.sub [] rfl ?_
          exact L_L_touched_44 C hdm hA hR0 hce hR _ hq
set_option maxRecDepth 100000 in
set_option maxHeartbeats 4000000 in
theorem c_L_touched (l : Launch) (G : Gd) {dm na : Nat} {ad : Nat → Nat} (hdm : dm = 0) {x1 : Int} {x2 : Int} {w w' : Wd} {r : Int}  (hq : p_L_touched x1 x2 w = some (r, w')) : mI l yL_touched cL_touched 3 (some .boolean) (rmv 10 177 0 0) G dm na ad [.ref (ad (1)), iV (x1), iV (x2)] w r w' := by
  refine met_I [(0, .ref (ad (1))), (1, iV (x1)), (2, iV (x2))] (by decide) (Nat.le_of_ble_eq_true rfl) rfl .boolean rfl (fun g d C S hR => ?_)
  obtain ⟨rfl, hR0, rfl, rfl, rfl, hA⟩ := S
  exact L_L_touched (d := (na, ad, 0, 0)) C hdm hA hR0 ⟨Nat.zero_le _, Nat.zero_le _⟩ hR  _ _ w hq
set_option maxRecDepth 100000 in
set_option maxHeartbeats 4000000 in
theorem L_L_plain {g : Cx} {d : Dl} (C : CX g cL_plain 1 (some .int) RL) (hdm : g.dm = 0) (hA : ∀ q : Nat, g.s.heap.size ≤ q → g.A q) (hR0 : g.R = rmv 0 0 0 0) (hce : d.ce ≤ g.R.cells ∧ d.so ≤ g.R.slots) {res : Int × Wd} (hR : rtI g d cL_plain .int res) (x0 : Int) (w : Wd) (hq : p_L_plain x0 w = some res) : XG g d (hP g d w) [(0, iV (x0))] [] 0 := by
  refine x_iload_n C 0 dL_plain_0 rfl ?_
  refine x_bipush (v := 97) C dL_plain_1 (by decide +kernel) ?_
  refine x_icmp_lt (tgt := 20) C dL_plain_3 (by decide) hq (fun hq => ?_) (fun hq => ?_)
  · refine x_iconst C dL_plain_20 ?_
    refine x_iload_n C 0 dL_plain_21 rfl ?_
    refine x_bipush (v := 48) C dL_plain_22 (by decide +kernel) ?_
    refine x_isub C dL_plain_24 ?_
    refine x_iconst C dL_plain_25 ?_
    refine x_irem C (by decide +kernel) dL_plain_26 ?_
    refine x_iadd C dL_plain_27 ?_
    exact hR _ _ _ _ hq rfl dL_plain_28
  · refine x_iconst C dL_plain_6 ?_
    refine x_bipush (v := 7) C dL_plain_7 (by decide +kernel) ?_
    refine x_iload_n C 0 dL_plain_9 rfl ?_
    refine x_bipush (v := 97) C dL_plain_10 (by decide +kernel) ?_
    refine x_isub C dL_plain_12 ?_
    refine x_imul C dL_plain_13 ?_
    refine x_iconst C dL_plain_14 ?_
    refine x_irem C (by decide +kernel) dL_plain_15 ?_
    refine x_iadd C dL_plain_16 ?_
    refine x_goto (tgt := 28) C dL_plain_17 (by decide) ?_
    exact hR _ _ _ _ hq rfl dL_plain_28
set_option maxRecDepth 100000 in
set_option maxHeartbeats 4000000 in
theorem c_L_plain (l : Launch) (G : Gd) {dm na : Nat} {ad : Nat → Nat} (hdm : dm = 0) {x0 : Int} {w w' : Wd} {r : Int}  (hq : p_L_plain x0 w = some (r, w')) : mI l yL_plain cL_plain 1 (some .int) (rmv 0 0 0 0) G dm na ad [iV (x0)] w r w' := by
  refine met_I [(0, iV (x0))] (by decide) (Nat.le_of_ble_eq_true rfl) rfl .int rfl (fun g d C S hR => ?_)
  obtain ⟨rfl, hR0, rfl, rfl, rfl, hA⟩ := S
  exact L_L_plain (d := (na, ad, 0, 0)) C hdm hA hR0 ⟨Nat.zero_le _, Nat.zero_le _⟩ hR  _ w hq
set_option maxRecDepth 100000 in
set_option maxHeartbeats 4000000 in
theorem L_L_stands_327 {g : Cx} {d : Dl} (C : CX g cL_stands 15 (some .boolean) RL) (hdm : g.dm = 0) (hA : ∀ q : Nat, g.s.heap.size ≤ q → g.A q) (hR0 : g.R = rmv 11 199 0 0) (hce : d.ce ≤ g.R.cells ∧ d.so ≤ g.R.slots) {res : Int × Wd} (hR : rtI g d cL_stands .boolean res) {k75 : Int → Int → Int → Int → Int → Int → Int → Wd → Option (Int × Wd)} {k190 : Int → Int → Int → Int → Int → Int → Int → Int → Int → Int → Int → Int → Wd → Option (Int × Wd)} (hk75 : ∀ (x1 : Int) (x2 : Int) (x3 : Int) (x4 : Int) (x5 : Int) (x6 : Int) (x7 : Int) (w : Wd), k75 x1 x2 x3 x4 x5 x6 x7 w = some res → XG g d (hP g d w) [(0, .ref (d.ad (1))), (1, iV (x1)), (2, iV (x2)), (3, iV (x3)), (4, iV (x4)), (5, iV (x5)), (6, iV (x6)), (7, iV (x7))] [] 75) (hk190 : ∀ (x1 : Int) (x2 : Int) (x3 : Int) (x4 : Int) (x5 : Int) (x6 : Int) (x7 : Int) (x8 : Int) (x9 : Int) (x10 : Int) (x11 : Int) (x12 : Int) (w : Wd), k190 x1 x2 x3 x4 x5 x6 x7 x8 x9 x10 x11 x12 w = some res → XG g d (hP g d w) [(0, .ref (d.ad (1))), (1, iV (x1)), (2, iV (x2)), (3, iV (x3)), (4, iV (x4)), (5, iV (x5)), (6, iV (x6)), (7, iV (x7)), (8, iV (x8)), (9, iV (x9)), (10, iV (x10)), (11, iV (x11)), (12, iV (x12))] [] 190) (x1 : Int) (x2 : Int) (x3 : Int) (x5 : Int) (x6 : Int) (x7 : Int) (x8 : Int) (x9 : Int) (x10 : Int) (x11 : Int) (x12 : Int) (s0 : Int) (s1 : Int) (w : Wd) (hq : p_L_stands_327 k75 k190 x1 x2 x3 x5 x6 x7 x8 x9 x10 x11 x12 s0 s1 w = some res) : XG g d (hP g d w) [(0, .ref (d.ad (1))), (1, iV (x1)), (2, iV (x2)), (3, iV (x3)), (5, iV (x5)), (6, iV (x6)), (7, iV (x7)), (8, iV (x8)), (9, iV (x9)), (10, iV (x10)), (11, iV (x11)), (12, iV (x12))] [iV (s0), iV (s1)] 327 := by
  refine x_iadd C dL_stands_327 ?_
  refine x_istore (lv' := [(4, iV (s1 + s0)), (0, .ref (d.ad (1))), (1, iV (x1)), (2, iV (x2)), (3, iV (x3)), (5, iV (x5)), (6, iV (x6)), (7, iV (x7)), (8, iV (x8)), (9, iV (x9)), (10, iV (x10)), (11, iV (x11)), (12, iV (x12))]) C dL_stands_328 (by decide) rfl ?_
  refine x_iinc (lv' := [(2, iV (x2 + 1)), (4, iV (s1 + s0)), (0, .ref (d.ad (1))), (1, iV (x1)), (3, iV (x3)), (5, iV (x5)), (6, iV (x6)), (7, iV (x7)), (8, iV (x8)), (9, iV (x9)), (10, iV (x10)), (11, iV (x11)), (12, iV (x12))]) C 3 dL_stands_330 rfl (by decide) rfl ?_
  refine x_iinc (lv' := [(12, iV (x12 + 1)), (2, iV (x2 + 1)), (4, iV (s1 + s0)), (0, .ref (d.ad (1))), (1, iV (x1)), (3, iV (x3)), (5, iV (x5)), (6, iV (x6)), (7, iV (x7)), (8, iV (x8)), (9, iV (x9)), (10, iV (x10)), (11, iV (x11))]) C 12 dL_stands_333 rfl (by decide) rfl ?_
  refine x_goto (tgt := 190) C dL_stands_336 (by decide) ?_
  refine XG.sub [3, 4, 1, 5, 2, 6, 7, 8, 9, 10, 11, 12, 0] rfl ?_
  exact hk190 _ _ _ _ _ _ _ _ _ _ _ _ _ hq
set_option maxRecDepth 100000 in
set_option maxHeartbeats 4000000 in
theorem L_L_stands_310 {g : Cx} {d : Dl} (C : CX g cL_stands 15 (some .boolean) RL) (hdm : g.dm = 0) (hA : ∀ q : Nat, g.s.heap.size ≤ q → g.A q) (hR0 : g.R = rmv 11 199 0 0) (hce : d.ce ≤ g.R.cells ∧ d.so ≤ g.R.slots) {res : Int × Wd} (hR : rtI g d cL_stands .boolean res) {k75 : Int → Int → Int → Int → Int → Int → Int → Wd → Option (Int × Wd)} {k190 : Int → Int → Int → Int → Int → Int → Int → Int → Int → Int → Int → Int → Wd → Option (Int × Wd)} (hk75 : ∀ (x1 : Int) (x2 : Int) (x3 : Int) (x4 : Int) (x5 : Int) (x6 : Int) (x7 : Int) (w : Wd), k75 x1 x2 x3 x4 x5 x6 x7 w = some res → XG g d (hP g d w) [(0, .ref (d.ad (1))), (1, iV (x1)), (2, iV (x2)), (3, iV (x3)), (4, iV (x4)), (5, iV (x5)), (6, iV (x6)), (7, iV (x7))] [] 75) (hk190 : ∀ (x1 : Int) (x2 : Int) (x3 : Int) (x4 : Int) (x5 : Int) (x6 : Int) (x7 : Int) (x8 : Int) (x9 : Int) (x10 : Int) (x11 : Int) (x12 : Int) (w : Wd), k190 x1 x2 x3 x4 x5 x6 x7 x8 x9 x10 x11 x12 w = some res → XG g d (hP g d w) [(0, .ref (d.ad (1))), (1, iV (x1)), (2, iV (x2)), (3, iV (x3)), (4, iV (x4)), (5, iV (x5)), (6, iV (x6)), (7, iV (x7)), (8, iV (x8)), (9, iV (x9)), (10, iV (x10)), (11, iV (x11)), (12, iV (x12))] [] 190) (x1 : Int) (x2 : Int) (x3 : Int) (x4 : Int) (x5 : Int) (x6 : Int) (x7 : Int) (x8 : Int) (x9 : Int) (x10 : Int) (x12 : Int) (x14 : Int) (s0 : Int) (s1 : Int) (w : Wd) (hq : p_L_stands_310 k75 k190 x1 x2 x3 x4 x5 x6 x7 x8 x9 x10 x12 x14 s0 s1 w = some res) : XG g d (hP g d w) [(0, .ref (d.ad (1))), (1, iV (x1)), (2, iV (x2)), (3, iV (x3)), (4, iV (x4)), (5, iV (x5)), (6, iV (x6)), (7, iV (x7)), (8, iV (x8)), (9, iV (x9)), (10, iV (x10)), (12, iV (x12)), (14, iV (x14))] [iV (s0), iV (s1)] 310 := by
  refine x_iadd C dL_stands_310 ?_
  refine x_istore (lv' := [(11, iV (s1 + s0)), (0, .ref (d.ad (1))), (1, iV (x1)), (2, iV (x2)), (3, iV (x3)), (4, iV (x4)), (5, iV (x5)), (6, iV (x6)), (7, iV (x7)), (8, iV (x8)), (9, iV (x9)), (10, iV (x10)), (12, iV (x12)), (14, iV (x14))]) C dL_stands_311 (by decide) rfl ?_
  refine x_iload C 5 dL_stands_313 rfl ?_
  refine x_iload_n C 3 dL_stands_315 rfl ?_
  refine x_iload C 7 dL_stands_316 rfl ?_
  refine x_icmp_ge (tgt := 325) C dL_stands_318 (by decide) hq (fun hq => ?_) (fun hq => ?_)
  · refine x_iload C 13 dL_stands_325 rfl ?_
    refine XG.sub [1, 2, 3, 4, 6, 7, 8, 9, 10, 11, 0, 12] rfl ?_
    exact L_L_stands_327 C hdm hA hR0 hce hR hk75 hk190 _ _ _ _ _ _ _ _ _ _ _ _ _ _ hq
  · refine x_iconst C dL_stands_321 ?_
    refine x_goto (tgt := 327) C dL_stands_322 (by decide) ?_
    refine XG.sub [1, 2, 3, 4, 6, 7, 8, 9, 10, 11, 0, 12] rfl ?_
    exact L_L_stands_327 C hdm hA hR0 hce hR hk75 hk190 _ _ _ _ _ _ _ _ _ _ _ _ _ _ hq
set_option maxRecDepth 100000 in
set_option maxHeartbeats 4000000 in
theorem L_L_stands_275 {g : Cx} {d : Dl} (C : CX g cL_stands 15 (some .boolean) RL) (hdm : g.dm = 0) (hA : ∀ q : Nat, g.s.heap.size ≤ q → g.A q) (hR0 : g.R = rmv 11 199 0 0) (hce : d.ce ≤ g.R.cells ∧ d.so ≤ g.R.slots) {res : Int × Wd} (hR : rtI g d cL_stands .boolean res) {k75 : Int → Int → Int → Int → Int → Int → Int → Wd → Option (Int × Wd)} {k190 : Int → Int → Int → Int → Int → Int → Int → Int → Int → Int → Int → Int → Wd → Option (Int × Wd)} (hk75 : ∀ (x1 : Int) (x2 : Int) (x3 : Int) (x4 : Int) (x5 : Int) (x6 : Int) (x7 : Int) (w : Wd), k75 x1 x2 x3 x4 x5 x6 x7 w = some res → XG g d (hP g d w) [(0, .ref (d.ad (1))), (1, iV (x1)), (2, iV (x2)), (3, iV (x3)), (4, iV (x4)), (5, iV (x5)), (6, iV (x6)), (7, iV (x7))] [] 75) (hk190 : ∀ (x1 : Int) (x2 : Int) (x3 : Int) (x4 : Int) (x5 : Int) (x6 : Int) (x7 : Int) (x8 : Int) (x9 : Int) (x10 : Int) (x11 : Int) (x12 : Int) (w : Wd), k190 x1 x2 x3 x4 x5 x6 x7 x8 x9 x10 x11 x12 w = some res → XG g d (hP g d w) [(0, .ref (d.ad (1))), (1, iV (x1)), (2, iV (x2)), (3, iV (x3)), (4, iV (x4)), (5, iV (x5)), (6, iV (x6)), (7, iV (x7)), (8, iV (x8)), (9, iV (x9)), (10, iV (x10)), (11, iV (x11)), (12, iV (x12))] [] 190) (x1 : Int) (x2 : Int) (x3 : Int) (x4 : Int) (x5 : Int) (x6 : Int) (x7 : Int) (x8 : Int) (x9 : Int) (x10 : Int) (x11 : Int) (x12 : Int) (x13 : Int) (s0 : Int) (w : Wd) (hq : p_L_stands_275 k75 k190 x1 x2 x3 x4 x5 x6 x7 x8 x9 x10 x11 x12 x13 s0 w = some res) : XG g d (hP g d w) [(0, .ref (d.ad (1))), (1, iV (x1)), (2, iV (x2)), (3, iV (x3)), (4, iV (x4)), (5, iV (x5)), (6, iV (x6)), (7, iV (x7)), (8, iV (x8)), (9, iV (x9)), (10, iV (x10)), (11, iV (x11)), (12, iV (x12)), (13, iV (x13))] [iV (s0)] 275 := by
  refine x_istore (lv' := [(14, iV (s0)), (0, .ref (d.ad (1))), (1, iV (x1)), (2, iV (x2)), (3, iV (x3)), (4, iV (x4)), (5, iV (x5)), (6, iV (x6)), (7, iV (x7)), (8, iV (x8)), (9, iV (x9)), (10, iV (x10)), (11, iV (x11)), (12, iV (x12)), (13, iV (x13))]) C dL_stands_275 (by decide) rfl ?_
  refine x_iload C 11 dL_stands_277 rfl ?_
  refine x_iload C 0 dL_stands_279 rfl ?_
  refine x_iadd C dL_stands_281 ?_
  refine x_istore (lv' := [(10, iV (x10 + s0)), (14, iV (s0)), (0, .ref (d.ad (1))), (1, iV (x1)), (2, iV (x2)), (3, iV (x3)), (4, iV (x4)), (5, iV (x5)), (6, iV (x6)), (7, iV (x7)), (8, iV (x8)), (9, iV (x9)), (11, iV (x11)), (12, iV (x12)), (13, iV (x13))]) C dL_stands_282 (by decide) rfl ?_
  refine x_iload C 7 dL_stands_284 rfl ?_
  refine x_iload C 1 dL_stands_286 rfl ?_
  refine x_iload C 14 dL_stands_288 rfl ?_
  refine x_callSi (rm := rmv 0 0 0 0) (As := [iV (x13)]) (rest := [iV (s0), iV (x5)]) C hA hR0 mf_L_plain lk_L_194 ⟨rfl, rfl⟩ ⟨Nat.le_of_ble_eq_true rfl, Nat.le_of_ble_eq_true rfl⟩ rfl rfl (Nat.le_of_ble_eq_true rfl) hce dL_stands_290 hq (fun _ _ h => c_L_plain g.l g.G hdm  h) (fun r2 w1 _ hq => ?_)
  refine x_isub C dL_stands_293 ?_
  refine x_iadd C dL_stands_294 ?_
  refine x_istore (lv' := [(5, iV (x5 + (s0 - r2))), (10, iV (x10 + s0)), (14, iV (s0)), (0, .ref (d.ad (1))), (1, iV (x1)), (2, iV (x2)), (3, iV (x3)), (4, iV (x4)), (6, iV (x6)), (7, iV (x7)), (8, iV (x8)), (9, iV (x9)), (11, iV (x11)), (12, iV (x12)), (13, iV (x13))]) C dL_stands_295 (by decide) rfl ?_
  refine x_iload C 12 dL_stands_297 rfl ?_
  refine x_iload_n C 5 dL_stands_299 rfl ?_
  refine x_iload C 8 dL_stands_300 rfl ?_
  refine x_icmp_ge (tgt := 309) C dL_stands_302 (by decide) hq (fun hq => ?_) (fun hq => ?_)
  · refine x_iconst C dL_stands_309 ?_
    refine XG.sub [3, 4, 5, 6, 7, 0, 8, 9, 10, 11, 1, 13, 2] rfl ?_
    exact L_L_stands_310 C hdm hA hR0 hce hR hk75 hk190 _ _ _ _ _ _ _ _ _ _ _ _ _ _ _ hq
  · refine x_iconst C dL_stands_305 ?_
    refine x_goto (tgt := 310) C dL_stands_306 (by decide) ?_
    refine XG.sub [3, 4, 5, 6, 7, 0, 8, 9, 10, 11, 1, 13, 2] rfl ?_
    exact L_L_stands_310 C hdm hA hR0 hce hR hk75 hk190 _ _ _ _ _ _ _ _ _ _ _ _ _ _ _ hq
set_option maxRecDepth 100000 in
set_option maxHeartbeats 4000000 in
theorem L_L_stands_495 {g : Cx} {d : Dl} (C : CX g cL_stands 15 (some .boolean) RL) (hdm : g.dm = 0) (hA : ∀ q : Nat, g.s.heap.size ≤ q → g.A q) (hR0 : g.R = rmv 11 199 0 0) (hce : d.ce ≤ g.R.cells ∧ d.so ≤ g.R.slots) {res : Int × Wd} (hR : rtI g d cL_stands .boolean res) {k75 : Int → Int → Int → Int → Int → Int → Int → Wd → Option (Int × Wd)} (hk75 : ∀ (x1 : Int) (x2 : Int) (x3 : Int) (x4 : Int) (x5 : Int) (x6 : Int) (x7 : Int) (w : Wd), k75 x1 x2 x3 x4 x5 x6 x7 w = some res → XG g d (hP g d w) [(0, .ref (d.ad (1))), (1, iV (x1)), (2, iV (x2)), (3, iV (x3)), (4, iV (x4)), (5, iV (x5)), (6, iV (x6)), (7, iV (x7))] [] 75) (x1 : Int) (x2 : Int) (x3 : Int) (x4 : Int) (x5 : Int) (x6 : Int) (x7 : Int) (w : Wd) (hq : p_L_stands_495 k75 x1 x2 x3 x4 x5 x6 x7 w = some res) : XG g d (hP g d w) [(0, .ref (d.ad (1))), (1, iV (x1)), (2, iV (x2)), (3, iV (x3)), (4, iV (x4)), (5, iV (x5)), (6, iV (x6)), (7, iV (x7))] [] 495 := by
  refine x_iinc (lv' := [(7, iV (x7 + 1)), (0, .ref (d.ad (1))), (1, iV (x1)), (2, iV (x2)), (3, iV (x3)), (4, iV (x4)), (5, iV (x5)), (6, iV (x6))]) C 7 dL_stands_495 rfl (by decide) rfl ?_
  refine x_goto (tgt := 75) C dL_stands_498 (by decide) ?_
  refine XG.sub [1, 2, 3, 4, 5, 6, 7, 0] rfl ?_
  exact hk75 _ _ _ _ _ _ _ _ hq
set_option maxRecDepth 100000 in
set_option maxHeartbeats 4000000 in
theorem L_L_stands_468 {g : Cx} {d : Dl} (C : CX g cL_stands 15 (some .boolean) RL) (hdm : g.dm = 0) (hA : ∀ q : Nat, g.s.heap.size ≤ q → g.A q) (hR0 : g.R = rmv 11 199 0 0) (hce : d.ce ≤ g.R.cells ∧ d.so ≤ g.R.slots) {res : Int × Wd} (hR : rtI g d cL_stands .boolean res) {k75 : Int → Int → Int → Int → Int → Int → Int → Wd → Option (Int × Wd)} (hk75 : ∀ (x1 : Int) (x2 : Int) (x3 : Int) (x4 : Int) (x5 : Int) (x6 : Int) (x7 : Int) (w : Wd), k75 x1 x2 x3 x4 x5 x6 x7 w = some res → XG g d (hP g d w) [(0, .ref (d.ad (1))), (1, iV (x1)), (2, iV (x2)), (3, iV (x3)), (4, iV (x4)), (5, iV (x5)), (6, iV (x6)), (7, iV (x7))] [] 75) (x1 : Int) (x2 : Int) (x3 : Int) (x4 : Int) (x5 : Int) (x6 : Int) (x7 : Int) (x9 : Int) (x12 : Int) (x13 : Int) (w : Wd) (hq : p_L_stands_468 k75 x1 x2 x3 x4 x5 x6 x7 x9 x12 x13 w = some res) : XG g d (hP g d w) [(0, .ref (d.ad (1))), (1, iV (x1)), (2, iV (x2)), (3, iV (x3)), (4, iV (x4)), (5, iV (x5)), (6, iV (x6)), (7, iV (x7)), (9, iV (x9)), (12, iV (x12)), (13, iV (x13))] [] 468 := by
  refine x_iload C 7 dL_stands_468 rfl ?_
  refine x_if_le (tgt := 495) C dL_stands_470 (by decide) hq (fun hq => ?_) (fun hq => ?_)
  · refine XG.sub [0, 1, 2, 3, 4, 5, 6, 7] rfl ?_
    exact L_L_stands_495 C hdm hA hR0 hce hR hk75 _ _ _ _ _ _ _ _ hq
  · refine x_iload C 9 dL_stands_473 rfl ?_
    refine x_if_ne (tgt := 495) C dL_stands_475 (by decide) hq (fun hq => ?_) (fun hq => ?_)
    · refine XG.sub [0, 1, 2, 3, 4, 5, 6, 7] rfl ?_
      exact L_L_stands_495 C hdm hA hR0 hce hR hk75 _ _ _ _ _ _ _ _ hq
    · refine x_iload C 8 dL_stands_478 rfl ?_
      refine x_iload C 10 dL_stands_480 rfl ?_
      refine x_aload_n C 0 dL_stands_482 rfl ?_
      refine x_iconst C dL_stands_483 ?_
      refine x_callVi (K := 9) (rm := rmv 6 89 0 0) (As := [iV (3)]) (rest := [iV (x13), iV (x9)]) C hA hR0 mf_X8_property lk_L_94 rfl (isK_lit hdm rfl rfl) (by decide) ⟨rfl, rfl⟩ ⟨Nat.le_of_ble_eq_true rfl, Nat.le_of_ble_eq_true rfl⟩ rfl rfl (Nat.le_of_ble_eq_true rfl) hce dL_stands_484 hq (fun _ _ h => c_Y8_property g.l g.G hdm  h) (fun r2 w1 _ hq => ?_)
      refine x_iadd C dL_stands_487 ?_
      refine x_iconst C dL_stands_488 ?_
      refine x_iadd C dL_stands_489 ?_
      refine x_icmp_ge (tgt := 495) C dL_stands_490 (by decide) hq (fun hq => ?_) (fun hq => ?_)
      · refine XG.sub [0, 1, 2, 3, 4, 5, 6, 7] rfl ?_
        exact L_L_stands_495 C hdm hA hR0 hce hR hk75 _ _ _ _ _ _ _ _ hq
      · refine x_iconst C dL_stands_493 ?_
        exact hR _ _ _ _ hq (by decide +kernel) dL_stands_494
set_option maxRecDepth 100000 in
set_option maxHeartbeats 4000000 in
theorem L_L_stands_419 {g : Cx} {d : Dl} (C : CX g cL_stands 15 (some .boolean) RL) (hdm : g.dm = 0) (hA : ∀ q : Nat, g.s.heap.size ≤ q → g.A q) (hR0 : g.R = rmv 11 199 0 0) (hce : d.ce ≤ g.R.cells ∧ d.so ≤ g.R.slots) {res : Int × Wd} (hR : rtI g d cL_stands .boolean res) {k75 : Int → Int → Int → Int → Int → Int → Int → Wd → Option (Int × Wd)} (hk75 : ∀ (x1 : Int) (x2 : Int) (x3 : Int) (x4 : Int) (x5 : Int) (x6 : Int) (x7 : Int) (w : Wd), k75 x1 x2 x3 x4 x5 x6 x7 w = some res → XG g d (hP g d w) [(0, .ref (d.ad (1))), (1, iV (x1)), (2, iV (x2)), (3, iV (x3)), (4, iV (x4)), (5, iV (x5)), (6, iV (x6)), (7, iV (x7))] [] 75) (x1 : Int) (x2 : Int) (x3 : Int) (x4 : Int) (x5 : Int) (x6 : Int) (x7 : Int) (x8 : Int) (x9 : Int) (x12 : Int) (s0 : Int) (w : Wd) (hq : p_L_stands_419 k75 x1 x2 x3 x4 x5 x6 x7 x8 x9 x12 s0 w = some res) : XG g d (hP g d w) [(0, .ref (d.ad (1))), (1, iV (x1)), (2, iV (x2)), (3, iV (x3)), (4, iV (x4)), (5, iV (x5)), (6, iV (x6)), (7, iV (x7)), (8, iV (x8)), (9, iV (x9)), (12, iV (x12))] [iV (s0)] 419 := by
  refine x_istore (lv' := [(13, iV (s0)), (0, .ref (d.ad (1))), (1, iV (x1)), (2, iV (x2)), (3, iV (x3)), (4, iV (x4)), (5, iV (x5)), (6, iV (x6)), (7, iV (x7)), (8, iV (x8)), (9, iV (x9)), (12, iV (x12))]) C dL_stands_419 (by decide) rfl ?_
  refine x_iload C 11 dL_stands_421 rfl ?_
  refine x_if_eq (tgt := 468) C dL_stands_423 (by decide) hq (fun hq => ?_) (fun hq => ?_)
  · refine XG.sub [1, 2, 3, 4, 5, 6, 7, 8, 10, 11, 0] rfl ?_
    exact L_L_stands_468 C hdm hA hR0 hce hR hk75 _ _ _ _ _ _ _ _ _ _ _ hq
  · refine x_iload C 10 dL_stands_426 rfl ?_
    refine x_iload C 0 dL_stands_428 rfl ?_
    refine x_icmp_lt (tgt := 466) C dL_stands_430 (by decide) hq (fun hq => ?_) (fun hq => ?_)
    · refine x_iconst C dL_stands_466 ?_
      exact hR _ _ _ _ hq (by decide +kernel) dL_stands_467
    · refine x_iload C 10 dL_stands_433 rfl ?_
      refine x_iload C 0 dL_stands_435 rfl ?_
      refine x_icmp_ne (tgt := 468) C dL_stands_437 (by decide) hq (fun hq => ?_) (fun hq => ?_)
      · refine XG.sub [1, 2, 3, 4, 5, 6, 7, 8, 10, 11, 0] rfl ?_
        exact L_L_stands_468 C hdm hA hR0 hce hR hk75 _ _ _ _ _ _ _ _ _ _ _ hq
      · refine x_iload C 9 dL_stands_440 rfl ?_
        refine x_aload_n C 1 dL_stands_442 rfl ?_
        refine x_iload C 8 dL_stands_443 rfl ?_
        refine x_iconst C dL_stands_445 ?_
        refine x_isub C dL_stands_446 ?_
        refine x_iconst C dL_stands_447 ?_
        refine x_callVi (K := 9) (rm := rmv 7 110 0 0) (As := [iV (x7 - 1), iV (3)]) (rest := [iV (x8)]) C hA hR0 mf_X8_word lk_L_171 rfl (isK_lit hdm rfl rfl) (by decide) ⟨rfl, rfl⟩ ⟨Nat.le_of_ble_eq_true rfl, Nat.le_of_ble_eq_true rfl⟩ rfl rfl (Nat.le_of_ble_eq_true rfl) hce dL_stands_448 hq (fun _ _ h => c_Y8_word g.l g.G hdm  h) (fun r2 w1 _ hq => ?_)
        refine x_aload_n C 1 dL_stands_451 rfl ?_
        refine x_iload C 8 dL_stands_452 rfl ?_
        refine x_iconst C dL_stands_454 ?_
        refine x_isub C dL_stands_455 ?_
        refine x_iconst C dL_stands_456 ?_
        refine x_callVi (K := 9) (rm := rmv 7 110 0 0) (As := [iV (x7 - 1), iV (1)]) (rest := [iV (r2), iV (x8)]) C hA hR0 mf_X8_word lk_L_171 rfl (isK_lit hdm rfl rfl) (by decide) ⟨rfl, rfl⟩ ⟨Nat.le_of_ble_eq_true rfl, Nat.le_of_ble_eq_true rfl⟩ rfl rfl (Nat.le_of_ble_eq_true rfl) hce dL_stands_457 hq (fun _ _ h => c_Y8_word g.l g.G hdm  h) (fun r4 w3 _ hq => ?_)
        refine x_iadd C dL_stands_460 ?_
        refine x_iconst C dL_stands_461 ?_
        refine x_iadd C dL_stands_462 ?_
        refine x_icmp_ge (tgt := 468) C dL_stands_463 (by decide) hq (fun hq => ?_) (fun hq => ?_)
        · refine XG.sub [1, 2, 3, 4, 5, 6, 7, 8, 10, 11, 0] rfl ?_
          exact L_L_stands_468 C hdm hA hR0 hce hR hk75 _ _ _ _ _ _ _ _ _ _ _ hq
        · refine x_iconst C dL_stands_466 ?_
          exact hR _ _ _ _ hq (by decide +kernel) dL_stands_467
set_option maxRecDepth 100000 in
set_option maxHeartbeats 4000000 in
theorem L_L_stands_399 {g : Cx} {d : Dl} (C : CX g cL_stands 15 (some .boolean) RL) (hdm : g.dm = 0) (hA : ∀ q : Nat, g.s.heap.size ≤ q → g.A q) (hR0 : g.R = rmv 11 199 0 0) (hce : d.ce ≤ g.R.cells ∧ d.so ≤ g.R.slots) {res : Int × Wd} (hR : rtI g d cL_stands .boolean res) {k75 : Int → Int → Int → Int → Int → Int → Int → Wd → Option (Int × Wd)} (hk75 : ∀ (x1 : Int) (x2 : Int) (x3 : Int) (x4 : Int) (x5 : Int) (x6 : Int) (x7 : Int) (w : Wd), k75 x1 x2 x3 x4 x5 x6 x7 w = some res → XG g d (hP g d w) [(0, .ref (d.ad (1))), (1, iV (x1)), (2, iV (x2)), (3, iV (x3)), (4, iV (x4)), (5, iV (x5)), (6, iV (x6)), (7, iV (x7))] [] 75) (x1 : Int) (x2 : Int) (x3 : Int) (x4 : Int) (x5 : Int) (x6 : Int) (x7 : Int) (x8 : Int) (x9 : Int) (s0 : Int) (w : Wd) (hq : p_L_stands_399 k75 x1 x2 x3 x4 x5 x6 x7 x8 x9 s0 w = some res) : XG g d (hP g d w) [(0, .ref (d.ad (1))), (1, iV (x1)), (2, iV (x2)), (3, iV (x3)), (4, iV (x4)), (5, iV (x5)), (6, iV (x6)), (7, iV (x7)), (8, iV (x8)), (9, iV (x9))] [iV (s0)] 399 := by
  refine x_istore (lv' := [(12, iV (s0)), (0, .ref (d.ad (1))), (1, iV (x1)), (2, iV (x2)), (3, iV (x3)), (4, iV (x4)), (5, iV (x5)), (6, iV (x6)), (7, iV (x7)), (8, iV (x8)), (9, iV (x9))]) C dL_stands_399 (by decide) rfl ?_
  refine x_iload C 8 dL_stands_401 rfl ?_
  refine x_if_le (tgt := 418) C dL_stands_403 (by decide) hq (fun hq => ?_) (fun hq => ?_)
  · refine x_iconst C dL_stands_418 ?_
    refine XG.sub [1, 2, 3, 4, 5, 6, 7, 8, 9, 10, 0] rfl ?_
    exact L_L_stands_419 C hdm hA hR0 hce hR hk75 _ _ _ _ _ _ _ _ _ _ _ _ hq
  · refine x_aload_n C 1 dL_stands_406 rfl ?_
    refine x_iload C 8 dL_stands_407 rfl ?_
    refine x_iconst C dL_stands_409 ?_
    refine x_isub C dL_stands_410 ?_
    refine x_iconst C dL_stands_411 ?_
    refine x_callVi (K := 9) (rm := rmv 7 110 0 0) (As := [iV (x7 - 1), iV (2)]) (rest := []) C hA hR0 mf_X8_word lk_L_171 rfl (isK_lit hdm rfl rfl) (by decide) ⟨rfl, rfl⟩ ⟨Nat.le_of_ble_eq_true rfl, Nat.le_of_ble_eq_true rfl⟩ rfl rfl (Nat.le_of_ble_eq_true rfl) hce dL_stands_412 hq (fun _ _ h => c_Y8_word g.l g.G hdm  h) (fun r2 w1 _ hq => ?_)
    refine x_goto (tgt := 419) C dL_stands_415 (by decide) ?_
    refine XG.sub [1, 2, 3, 4, 5, 6, 7, 8, 9, 10, 0] rfl ?_
    exact L_L_stands_419 C hdm hA hR0 hce hR hk75 _ _ _ _ _ _ _ _ _ _ _ _ hq
set_option maxRecDepth 100000 in
set_option maxHeartbeats 4000000 in
theorem L_L_stands_398 {g : Cx} {d : Dl} (C : CX g cL_stands 15 (some .boolean) RL) (hdm : g.dm = 0) (hA : ∀ q : Nat, g.s.heap.size ≤ q → g.A q) (hR0 : g.R = rmv 11 199 0 0) (hce : d.ce ≤ g.R.cells ∧ d.so ≤ g.R.slots) {res : Int × Wd} (hR : rtI g d cL_stands .boolean res) {k75 : Int → Int → Int → Int → Int → Int → Int → Wd → Option (Int × Wd)} (hk75 : ∀ (x1 : Int) (x2 : Int) (x3 : Int) (x4 : Int) (x5 : Int) (x6 : Int) (x7 : Int) (w : Wd), k75 x1 x2 x3 x4 x5 x6 x7 w = some res → XG g d (hP g d w) [(0, .ref (d.ad (1))), (1, iV (x1)), (2, iV (x2)), (3, iV (x3)), (4, iV (x4)), (5, iV (x5)), (6, iV (x6)), (7, iV (x7))] [] 75) (x1 : Int) (x2 : Int) (x3 : Int) (x4 : Int) (x5 : Int) (x6 : Int) (x7 : Int) (x8 : Int) (x9 : Int) (w : Wd) (hq : p_L_stands_398 k75 x1 x2 x3 x4 x5 x6 x7 x8 x9 w = some res) : XG g d (hP g d w) [(0, .ref (d.ad (1))), (1, iV (x1)), (2, iV (x2)), (3, iV (x3)), (4, iV (x4)), (5, iV (x5)), (6, iV (x6)), (7, iV (x7)), (8, iV (x8)), (9, iV (x9))] [] 398 := by
  refine x_iconst C dL_stands_398 ?_
  exact L_L_stands_399 C hdm hA hR0 hce hR hk75 _ _ _ _ _ _ _ _ _ _ _ hq
set_option maxRecDepth 100000 in
set_option maxHeartbeats 4000000 in
theorem L_L_stands_339 {g : Cx} {d : Dl} (C : CX g cL_stands 15 (some .boolean) RL) (hdm : g.dm = 0) (hA : ∀ q : Nat, g.s.heap.size ≤ q → g.A q) (hR0 : g.R = rmv 11 199 0 0) (hce : d.ce ≤ g.R.cells ∧ d.so ≤ g.R.slots) {res : Int × Wd} (hR : rtI g d cL_stands .boolean res) {k75 : Int → Int → Int → Int → Int → Int → Int → Wd → Option (Int × Wd)} (hk75 : ∀ (x1 : Int) (x2 : Int) (x3 : Int) (x4 : Int) (x5 : Int) (x6 : Int) (x7 : Int) (w : Wd), k75 x1 x2 x3 x4 x5 x6 x7 w = some res → XG g d (hP g d w) [(0, .ref (d.ad (1))), (1, iV (x1)), (2, iV (x2)), (3, iV (x3)), (4, iV (x4)), (5, iV (x5)), (6, iV (x6)), (7, iV (x7))] [] 75) (x1 : Int) (x2 : Int) (x3 : Int) (x4 : Int) (x5 : Int) (x6 : Int) (x7 : Int) (x8 : Int) (x9 : Int) (x10 : Int) (x11 : Int) (w : Wd) (hq : p_L_stands_339 k75 x1 x2 x3 x4 x5 x6 x7 x8 x9 x10 x11 w = some res) : XG g d (hP g d w) [(0, .ref (d.ad (1))), (1, iV (x1)), (2, iV (x2)), (3, iV (x3)), (4, iV (x4)), (5, iV (x5)), (6, iV (x6)), (7, iV (x7)), (8, iV (x8)), (9, iV (x9)), (10, iV (x10)), (11, iV (x11))] [] 339 := by
  refine x_iload_n C 3 dL_stands_339 rfl ?_
  refine x_iload C 10 dL_stands_340 rfl ?_
  refine x_iadd C dL_stands_342 ?_
  refine x_istore_n (lv' := [(3, iV (x3 + x10)), (0, .ref (d.ad (1))), (1, iV (x1)), (2, iV (x2)), (4, iV (x4)), (5, iV (x5)), (6, iV (x6)), (7, iV (x7)), (8, iV (x8)), (9, iV (x9)), (10, iV (x10)), (11, iV (x11))]) C dL_stands_343 (by decide) rfl ?_
  refine x_aload_n C 1 dL_stands_344 rfl ?_
  refine x_iload C 7 dL_stands_345 rfl ?_
  refine x_iconst C dL_stands_347 ?_
  refine x_callVi (K := 9) (rm := rmv 7 110 0 0) (As := [iV (x7), iV (4)]) (rest := []) C hA hR0 mf_X8_word lk_L_171 rfl (isK_lit hdm rfl rfl) (by decide) ⟨rfl, rfl⟩ ⟨Nat.le_of_ble_eq_true rfl, Nat.le_of_ble_eq_true rfl⟩ rfl rfl (Nat.le_of_ble_eq_true rfl) hce dL_stands_348 hq (fun _ _ h => c_Y8_word g.l g.G hdm  h) (fun r2 w1 _ hq => ?_)
  refine x_iload C 10 dL_stands_351 rfl ?_
  refine x_icmp_ne (tgt := 368) C dL_stands_353 (by decide) hq (fun hq => ?_) (fun hq => ?_)
  · refine x_iconst C dL_stands_368 ?_
    exact hR _ _ _ _ hq (by decide +kernel) dL_stands_369
  · refine x_aload_n C 1 dL_stands_356 rfl ?_
    refine x_iload C 7 dL_stands_357 rfl ?_
    refine x_iconst C dL_stands_359 ?_
    refine x_callVi (K := 9) (rm := rmv 7 110 0 0) (As := [iV (x7), iV (5)]) (rest := []) C hA hR0 mf_X8_word lk_L_171 rfl (isK_lit hdm rfl rfl) (by decide) ⟨rfl, rfl⟩ ⟨Nat.le_of_ble_eq_true rfl, Nat.le_of_ble_eq_true rfl⟩ rfl rfl (Nat.le_of_ble_eq_true rfl) hce dL_stands_360 hq (fun _ _ h => c_Y8_word g.l g.G hdm  h) (fun r4 w3 _ hq => ?_)
    refine x_iload C 11 dL_stands_363 rfl ?_
    refine x_icmp_eq (tgt := 370) C dL_stands_365 (by decide) hq (fun hq => ?_) (fun hq => ?_)
    · refine x_iload C 7 dL_stands_370 rfl ?_
      refine x_if_le (tgt := 398) C dL_stands_372 (by decide) hq (fun hq => ?_) (fun hq => ?_)
      · refine XG.sub [1, 2, 3, 0, 4, 5, 6, 7, 8, 9] rfl ?_
        exact L_L_stands_398 C hdm hA hR0 hce hR hk75 _ _ _ _ _ _ _ _ _ _ hq
      · refine x_aload_n C 1 dL_stands_375 rfl ?_
        refine x_iload C 7 dL_stands_376 rfl ?_
        refine x_iconst C dL_stands_378 ?_
        refine x_isub C dL_stands_379 ?_
        refine x_iconst C dL_stands_380 ?_
        refine x_callVi (K := 9) (rm := rmv 7 110 0 0) (As := [iV (x7 - 1), iV (0)]) (rest := []) C hA hR0 mf_X8_word lk_L_171 rfl (isK_lit hdm rfl rfl) (by decide) ⟨rfl, rfl⟩ ⟨Nat.le_of_ble_eq_true rfl, Nat.le_of_ble_eq_true rfl⟩ rfl rfl (Nat.le_of_ble_eq_true rfl) hce dL_stands_381 hq (fun _ _ h => c_Y8_word g.l g.G hdm  h) (fun r6 w5 _ hq => ?_)
        refine x_aload_n C 1 dL_stands_384 rfl ?_
        refine x_iload C 7 dL_stands_385 rfl ?_
        refine x_iconst C dL_stands_387 ?_
        refine x_callVi (K := 9) (rm := rmv 7 110 0 0) (As := [iV (x7), iV (0)]) (rest := [iV (r6)]) C hA hR0 mf_X8_word lk_L_171 rfl (isK_lit hdm rfl rfl) (by decide) ⟨rfl, rfl⟩ ⟨Nat.le_of_ble_eq_true rfl, Nat.le_of_ble_eq_true rfl⟩ rfl rfl (Nat.le_of_ble_eq_true rfl) hce dL_stands_388 hq (fun _ _ h => c_Y8_word g.l g.G hdm  h) (fun r8 w7 _ hq => ?_)
        refine x_icmp_ne (tgt := 398) C dL_stands_391 (by decide) hq (fun hq => ?_) (fun hq => ?_)
        · refine XG.sub [1, 2, 3, 0, 4, 5, 6, 7, 8, 9] rfl ?_
          exact L_L_stands_398 C hdm hA hR0 hce hR hk75 _ _ _ _ _ _ _ _ _ _ hq
        · refine x_iconst C dL_stands_394 ?_
          refine x_goto (tgt := 399) C dL_stands_395 (by decide) ?_
          refine XG.sub [1, 2, 3, 0, 4, 5, 6, 7, 8, 9] rfl ?_
          exact L_L_stands_399 C hdm hA hR0 hce hR hk75 _ _ _ _ _ _ _ _ _ _ _ hq
    · refine x_iconst C dL_stands_368 ?_
      exact hR _ _ _ _ hq (by decide +kernel) dL_stands_369
set_option maxRecDepth 100000 in
set_option maxHeartbeats 4000000 in
theorem L_L_stands_190 {g : Cx} {d : Dl} (C : CX g cL_stands 15 (some .boolean) RL) (hdm : g.dm = 0) (hA : ∀ q : Nat, g.s.heap.size ≤ q → g.A q) (hR0 : g.R = rmv 11 199 0 0) (hce : d.ce ≤ g.R.cells ∧ d.so ≤ g.R.slots) {res : Int × Wd} (hR : rtI g d cL_stands .boolean res) {k75 : Int → Int → Int → Int → Int → Int → Int → Wd → Option (Int × Wd)} (hk75 : ∀ (x1 : Int) (x2 : Int) (x3 : Int) (x4 : Int) (x5 : Int) (x6 : Int) (x7 : Int) (w : Wd), k75 x1 x2 x3 x4 x5 x6 x7 w = some res → XG g d (hP g d w) [(0, .ref (d.ad (1))), (1, iV (x1)), (2, iV (x2)), (3, iV (x3)), (4, iV (x4)), (5, iV (x5)), (6, iV (x6)), (7, iV (x7))] [] 75) : ∀ (n : Nat) (x1 : Int) (x2 : Int) (x3 : Int) (x4 : Int) (x5 : Int) (x6 : Int) (x7 : Int) (x8 : Int) (x9 : Int) (x10 : Int) (x11 : Int) (x12 : Int) (w : Wd), p_L_stands_190 k75 n x1 x2 x3 x4 x5 x6 x7 x8 x9 x10 x11 x12 w = some res → XG g d (hP g d w) [(0, .ref (d.ad (1))), (1, iV (x1)), (2, iV (x2)), (3, iV (x3)), (4, iV (x4)), (5, iV (x5)), (6, iV (x6)), (7, iV (x7)), (8, iV (x8)), (9, iV (x9)), (10, iV (x10)), (11, iV (x11)), (12, iV (x12))] [] 190 := by
  intro n
  induction n with
  | zero => intro x1 x2 x3 x4 x5 x6 x7 x8 x9 x10 x11 x12 w  hq; exact nomatch (show none = some _ from hq)
  | succ n ih =>
    intro x1 x2 x3 x4 x5 x6 x7 x8 x9 x10 x11 x12 w  hq
    refine x_iload C 12 dL_stands_190 rfl ?_
    refine x_aload_n C 0 dL_stands_192 rfl ?_
    refine x_iload C 7 dL_stands_193 rfl ?_
    refine x_iconst C dL_stands_195 ?_
    refine x_callVi (K := 9) (rm := rmv 7 110 0 0) (As := [iV (x7), iV (1)]) (rest := [iV (x12)]) C hA hR0 mf_X8_word lk_L_171 rfl (isK_lit hdm rfl rfl) (by decide) ⟨rfl, rfl⟩ ⟨Nat.le_of_ble_eq_true rfl, Nat.le_of_ble_eq_true rfl⟩ rfl rfl (Nat.le_of_ble_eq_true rfl) hce dL_stands_196 hq (fun _ _ h => c_Y8_word g.l g.G hdm  h) (fun r2 w1 _ hq => ?_)
    refine x_icmp_ge (tgt := 339) C dL_stands_199 (by decide) hq (fun hq => ?_) (fun hq => ?_)
    · refine XG.sub [0, 1, 2, 3, 4, 5, 6, 7, 8, 9, 10, 11] rfl ?_
      exact L_L_stands_339 C hdm hA hR0 hce hR hk75 _ _ _ _ _ _ _ _ _ _ _ _ hq
    · refine x_aload_n C 0 dL_stands_202 rfl ?_
      refine x_iload C 7 dL_stands_203 rfl ?_
      refine x_iload C 12 dL_stands_205 rfl ?_
      refine x_callVi (K := 9) (rm := rmv 7 110 0 0) (As := [iV (x7), iV (x12)]) (rest := []) C hA hR0 mf_X8_letter lk_L_173 rfl (isK_lit hdm rfl rfl) (by decide) ⟨rfl, rfl⟩ ⟨Nat.le_of_ble_eq_true rfl, Nat.le_of_ble_eq_true rfl⟩ rfl rfl (Nat.le_of_ble_eq_true rfl) hce dL_stands_207 hq (fun _ _ h => c_Y8_letter g.l g.G hdm  h) (fun r4 w3 _ hq => ?_)
      refine x_istore (lv' := [(13, iV (r4)), (0, .ref (d.ad (1))), (1, iV (x1)), (2, iV (x2)), (3, iV (x3)), (4, iV (x4)), (5, iV (x5)), (6, iV (x6)), (7, iV (x7)), (8, iV (x8)), (9, iV (x9)), (10, iV (x10)), (11, iV (x11)), (12, iV (x12))]) C dL_stands_210 (by decide) rfl ?_
      refine x_aload_n C 1 dL_stands_212 rfl ?_
      refine x_iload C 9 dL_stands_213 rfl ?_
      refine x_iload C 13 dL_stands_215 rfl ?_
      refine x_iadd C dL_stands_217 ?_
      refine x_iload C 10 dL_stands_218 rfl ?_
      refine x_callVi (K := 9) (rm := rmv 8 132 0 0) (As := [iV (x8 + x12), iV (x9)]) (rest := []) C hA hR0 mf_X8_cell lk_L_178 rfl (isK_lit hdm rfl rfl) (by decide) ⟨rfl, rfl⟩ ⟨Nat.le_of_ble_eq_true rfl, Nat.le_of_ble_eq_true rfl⟩ rfl rfl (Nat.le_of_ble_eq_true rfl) hce dL_stands_220 hq (fun _ _ h => c_Y8_cell g.l g.G hdm  h) (fun r6 w5 _ hq => ?_)
      refine x_iload C 0 dL_stands_223 rfl ?_
      refine x_icmp_ne (tgt := 244) C dL_stands_225 (by decide) hq (fun hq => ?_) (fun hq => ?_)
      · refine x_iconst C dL_stands_244 ?_
        exact hR _ _ _ _ hq (by decide +kernel) dL_stands_245
      · refine x_aload_n C 1 dL_stands_228 rfl ?_
        refine x_iload C 9 dL_stands_229 rfl ?_
        refine x_iload C 13 dL_stands_231 rfl ?_
        refine x_iadd C dL_stands_233 ?_
        refine x_iload C 10 dL_stands_234 rfl ?_
        refine x_callVi (K := 9) (rm := rmv 8 132 0 0) (As := [iV (x8 + x12), iV (x9)]) (rest := []) C hA hR0 mf_X8_wordAt lk_L_188 rfl (isK_lit hdm rfl rfl) (by decide) ⟨rfl, rfl⟩ ⟨Nat.le_of_ble_eq_true rfl, Nat.le_of_ble_eq_true rfl⟩ rfl rfl (Nat.le_of_ble_eq_true rfl) hce dL_stands_236 hq (fun _ _ h => c_Y8_wordAt g.l g.G hdm  h) (fun r8 w7 _ hq => ?_)
        refine x_iload C 8 dL_stands_239 rfl ?_
        refine x_icmp_eq (tgt := 246) C dL_stands_241 (by decide) hq (fun hq => ?_) (fun hq => ?_)
        · refine x_aload_n C 1 dL_stands_246 rfl ?_
          refine x_iload C 9 dL_stands_247 rfl ?_
          refine x_iload C 13 dL_stands_249 rfl ?_
          refine x_iadd C dL_stands_251 ?_
          refine x_iload C 10 dL_stands_252 rfl ?_
          refine x_callSi (rm := rmv 10 177 0 0) (As := [.ref (d.ad (1)), iV (x8 + x12), iV (x9)]) (rest := []) C hA hR0 mf_L_touched lk_L_191 ⟨rfl, rfl⟩ ⟨Nat.le_of_ble_eq_true rfl, Nat.le_of_ble_eq_true rfl⟩ rfl rfl (Nat.le_of_ble_eq_true rfl) hce dL_stands_254 hq (fun _ _ h => c_L_touched g.l g.G hdm  h) (fun r10 w9 _ hq => ?_)
          refine x_if_eq (tgt := 270) C dL_stands_257 (by decide) hq (fun hq => ?_) (fun hq => ?_)
          · refine x_iload C 0 dL_stands_270 rfl ?_
            refine x_callSi (rm := rmv 0 0 0 0) (As := [iV (r4)]) (rest := []) C hA hR0 mf_L_plain lk_L_194 ⟨rfl, rfl⟩ ⟨Nat.le_of_ble_eq_true rfl, Nat.le_of_ble_eq_true rfl⟩ rfl rfl (Nat.le_of_ble_eq_true rfl) hce dL_stands_272 hq (fun _ _ h => c_L_plain g.l g.G hdm  h) (fun r12 w11 _ hq => ?_)
            refine XG.sub [1, 2, 3, 4, 5, 6, 7, 8, 9, 10, 11, 12, 13, 0] rfl ?_
            exact L_L_stands_275 C hdm hA hR0 hce hR hk75 ih _ _ _ _ _ _ _ _ _ _ _ _ _ _ _ hq
          · refine x_iconst C dL_stands_260 ?_
            refine x_iload C 0 dL_stands_261 rfl ?_
            refine x_callSi (rm := rmv 0 0 0 0) (As := [iV (r4)]) (rest := [iV (2)]) C hA hR0 mf_L_plain lk_L_194 ⟨rfl, rfl⟩ ⟨Nat.le_of_ble_eq_true rfl, Nat.le_of_ble_eq_true rfl⟩ rfl rfl (Nat.le_of_ble_eq_true rfl) hce dL_stands_263 hq (fun _ _ h => c_L_plain g.l g.G hdm  h) (fun r14 w13 _ hq => ?_)
            refine x_imul C dL_stands_266 ?_
            refine x_goto (tgt := 275) C dL_stands_267 (by decide) ?_
            refine XG.sub [1, 2, 3, 4, 5, 6, 7, 8, 9, 10, 11, 12, 13, 0] rfl ?_
            exact L_L_stands_275 C hdm hA hR0 hce hR hk75 ih _ _ _ _ _ _ _ _ _ _ _ _ _ _ _ hq
        · refine x_iconst C dL_stands_244 ?_
          exact hR _ _ _ _ hq (by decide +kernel) dL_stands_245
set_option maxRecDepth 100000 in
set_option maxHeartbeats 4000000 in
theorem L_L_stands_148 {g : Cx} {d : Dl} (C : CX g cL_stands 15 (some .boolean) RL) (hdm : g.dm = 0) (hA : ∀ q : Nat, g.s.heap.size ≤ q → g.A q) (hR0 : g.R = rmv 11 199 0 0) (hce : d.ce ≤ g.R.cells ∧ d.so ≤ g.R.slots) {res : Int × Wd} (hR : rtI g d cL_stands .boolean res) {k75 : Int → Int → Int → Int → Int → Int → Int → Wd → Option (Int × Wd)} (hk75 : ∀ (x1 : Int) (x2 : Int) (x3 : Int) (x4 : Int) (x5 : Int) (x6 : Int) (x7 : Int) (w : Wd), k75 x1 x2 x3 x4 x5 x6 x7 w = some res → XG g d (hP g d w) [(0, .ref (d.ad (1))), (1, iV (x1)), (2, iV (x2)), (3, iV (x3)), (4, iV (x4)), (5, iV (x5)), (6, iV (x6)), (7, iV (x7))] [] 75) (x1 : Int) (x2 : Int) (x3 : Int) (x4 : Int) (x5 : Int) (x6 : Int) (x7 : Int) (x8 : Int) (x9 : Int) (s0 : Int) (s1 : Int) (w : Wd) (hq : p_L_stands_148 k75 x1 x2 x3 x4 x5 x6 x7 x8 x9 s0 s1 w = some res) : XG g d (hP g d w) [(0, .ref (d.ad (1))), (1, iV (x1)), (2, iV (x2)), (3, iV (x3)), (4, iV (x4)), (5, iV (x5)), (6, iV (x6)), (7, iV (x7)), (8, iV (x8)), (9, iV (x9))] [iV (s0), iV (s1)] 148 := by
  refine x_icmp_eq (tgt := 153) C dL_stands_148 (by decide) hq (fun hq => ?_) (fun hq => ?_)
  · refine x_iload C 7 dL_stands_153 rfl ?_
    refine x_iload_n C 1 dL_stands_155 rfl ?_
    refine x_icmp_lt (tgt := 181) C dL_stands_156 (by decide) hq (fun hq => ?_) (fun hq => ?_)
    · refine x_iconst C dL_stands_181 ?_
      refine x_istore (lv' := [(10, iV (0)), (0, .ref (d.ad (1))), (1, iV (x1)), (2, iV (x2)), (3, iV (x3)), (4, iV (x4)), (5, iV (x5)), (6, iV (x6)), (7, iV (x7)), (8, iV (x8)), (9, iV (x9))]) C dL_stands_182 (by decide) rfl ?_
      refine x_iconst C dL_stands_184 ?_
      refine x_istore (lv' := [(11, iV (0)), (10, iV (0)), (0, .ref (d.ad (1))), (1, iV (x1)), (2, iV (x2)), (3, iV (x3)), (4, iV (x4)), (5, iV (x5)), (6, iV (x6)), (7, iV (x7)), (8, iV (x8)), (9, iV (x9))]) C dL_stands_185 (by decide) rfl ?_
      refine x_iconst C dL_stands_187 ?_
      refine x_istore (lv' := [(12, iV (0)), (11, iV (0)), (10, iV (0)), (0, .ref (d.ad (1))), (1, iV (x1)), (2, iV (x2)), (3, iV (x3)), (4, iV (x4)), (5, iV (x5)), (6, iV (x6)), (7, iV (x7)), (8, iV (x8)), (9, iV (x9))]) C dL_stands_188 (by decide) rfl ?_
      refine XG.sub [3, 4, 5, 6, 7, 8, 9, 10, 11, 12, 2, 1, 0] rfl ?_
      exact L_L_stands_190 C hdm hA hR0 hce hR hk75 _ _ _ _ _ _ _ _ _ _ _ _ _ _ hq
    · refine x_aload_n C 0 dL_stands_159 rfl ?_
      refine x_iload C 7 dL_stands_160 rfl ?_
      refine x_iconst C dL_stands_162 ?_
      refine x_callVi (K := 9) (rm := rmv 7 110 0 0) (As := [iV (x7), iV (4)]) (rest := []) C hA hR0 mf_X8_word lk_L_171 rfl (isK_lit hdm rfl rfl) (by decide) ⟨rfl, rfl⟩ ⟨Nat.le_of_ble_eq_true rfl, Nat.le_of_ble_eq_true rfl⟩ rfl rfl (Nat.le_of_ble_eq_true rfl) hce dL_stands_163 hq (fun _ _ h => c_Y8_word g.l g.G hdm  h) (fun r2 w1 _ hq => ?_)
      refine x_if_ne (tgt := 179) C dL_stands_166 (by decide) hq (fun hq => ?_) (fun hq => ?_)
      · refine x_iconst C dL_stands_179 ?_
        exact hR _ _ _ _ hq (by decide +kernel) dL_stands_180
      · refine x_aload_n C 0 dL_stands_169 rfl ?_
        refine x_iload C 7 dL_stands_170 rfl ?_
        refine x_iconst C dL_stands_172 ?_
        refine x_callVi (K := 9) (rm := rmv 7 110 0 0) (As := [iV (x7), iV (5)]) (rest := []) C hA hR0 mf_X8_word lk_L_171 rfl (isK_lit hdm rfl rfl) (by decide) ⟨rfl, rfl⟩ ⟨Nat.le_of_ble_eq_true rfl, Nat.le_of_ble_eq_true rfl⟩ rfl rfl (Nat.le_of_ble_eq_true rfl) hce dL_stands_173 hq (fun _ _ h => c_Y8_word g.l g.G hdm  h) (fun r4 w3 _ hq => ?_)
        refine x_if_eq (tgt := 495) C dL_stands_176 (by decide) hq (fun hq => ?_) (fun hq => ?_)
        · refine XG.sub [0, 1, 2, 3, 4, 5, 6, 7] rfl ?_
          exact L_L_stands_495 C hdm hA hR0 hce hR hk75 _ _ _ _ _ _ _ _ hq
        · refine x_iconst C dL_stands_179 ?_
          exact hR _ _ _ _ hq (by decide +kernel) dL_stands_180
  · refine x_iconst C dL_stands_151 ?_
    exact hR _ _ _ _ hq (by decide +kernel) dL_stands_152
set_option maxRecDepth 100000 in
set_option maxHeartbeats 4000000 in
theorem L_L_stands_137 {g : Cx} {d : Dl} (C : CX g cL_stands 15 (some .boolean) RL) (hdm : g.dm = 0) (hA : ∀ q : Nat, g.s.heap.size ≤ q → g.A q) (hR0 : g.R = rmv 11 199 0 0) (hce : d.ce ≤ g.R.cells ∧ d.so ≤ g.R.slots) {res : Int × Wd} (hR : rtI g d cL_stands .boolean res) {k75 : Int → Int → Int → Int → Int → Int → Int → Wd → Option (Int × Wd)} (hk75 : ∀ (x1 : Int) (x2 : Int) (x3 : Int) (x4 : Int) (x5 : Int) (x6 : Int) (x7 : Int) (w : Wd), k75 x1 x2 x3 x4 x5 x6 x7 w = some res → XG g d (hP g d w) [(0, .ref (d.ad (1))), (1, iV (x1)), (2, iV (x2)), (3, iV (x3)), (4, iV (x4)), (5, iV (x5)), (6, iV (x6)), (7, iV (x7))] [] 75) (x1 : Int) (x2 : Int) (x3 : Int) (x4 : Int) (x5 : Int) (x6 : Int) (x7 : Int) (x8 : Int) (x9 : Int) (s0 : Int) (w : Wd) (hq : p_L_stands_137 k75 x1 x2 x3 x4 x5 x6 x7 x8 x9 s0 w = some res) : XG g d (hP g d w) [(0, .ref (d.ad (1))), (1, iV (x1)), (2, iV (x2)), (3, iV (x3)), (4, iV (x4)), (5, iV (x5)), (6, iV (x6)), (7, iV (x7)), (8, iV (x8)), (9, iV (x9))] [iV (s0)] 137 := by
  refine x_iload C 7 dL_stands_137 rfl ?_
  refine x_iload_n C 1 dL_stands_139 rfl ?_
  refine x_icmp_ge (tgt := 147) C dL_stands_140 (by decide) hq (fun hq => ?_) (fun hq => ?_)
  · refine x_iconst C dL_stands_147 ?_
    exact L_L_stands_148 C hdm hA hR0 hce hR hk75 _ _ _ _ _ _ _ _ _ _ _ _ hq
  · refine x_iconst C dL_stands_143 ?_
    refine x_goto (tgt := 148) C dL_stands_144 (by decide) ?_
    exact L_L_stands_148 C hdm hA hR0 hce hR hk75 _ _ _ _ _ _ _ _ _ _ _ _ hq
set_option maxRecDepth 100000 in
set_option maxHeartbeats 4000000 in
theorem L_L_stands_124 {g : Cx} {d : Dl} (C : CX g cL_stands 15 (some .boolean) RL) (hdm : g.dm = 0) (hA : ∀ q : Nat, g.s.heap.size ≤ q → g.A q) (hR0 : g.R = rmv 11 199 0 0) (hce : d.ce ≤ g.R.cells ∧ d.so ≤ g.R.slots) {res : Int × Wd} (hR : rtI g d cL_stands .boolean res) {k75 : Int → Int → Int → Int → Int → Int → Int → Wd → Option (Int × Wd)} (hk75 : ∀ (x1 : Int) (x2 : Int) (x3 : Int) (x4 : Int) (x5 : Int) (x6 : Int) (x7 : Int) (w : Wd), k75 x1 x2 x3 x4 x5 x6 x7 w = some res → XG g d (hP g d w) [(0, .ref (d.ad (1))), (1, iV (x1)), (2, iV (x2)), (3, iV (x3)), (4, iV (x4)), (5, iV (x5)), (6, iV (x6)), (7, iV (x7))] [] 75) (x1 : Int) (x2 : Int) (x3 : Int) (x4 : Int) (x5 : Int) (x6 : Int) (x7 : Int) (x8 : Int) (x9 : Int) (s0 : Int) (s1 : Int) (w : Wd) (hq : p_L_stands_124 k75 x1 x2 x3 x4 x5 x6 x7 x8 x9 s0 s1 w = some res) : XG g d (hP g d w) [(0, .ref (d.ad (1))), (1, iV (x1)), (2, iV (x2)), (3, iV (x3)), (4, iV (x4)), (5, iV (x5)), (6, iV (x6)), (7, iV (x7)), (8, iV (x8)), (9, iV (x9))] [iV (s0), iV (s1)] 124 := by
  refine x_icmp_ne (tgt := 151) C dL_stands_124 (by decide) hq (fun hq => ?_) (fun hq => ?_)
  · refine x_iconst C dL_stands_151 ?_
    exact hR _ _ _ _ hq (by decide +kernel) dL_stands_152
  · refine x_iload C 9 dL_stands_127 rfl ?_
    refine x_if_lt (tgt := 136) C dL_stands_129 (by decide) hq (fun hq => ?_) (fun hq => ?_)
    · refine x_iconst C dL_stands_136 ?_
      exact L_L_stands_137 C hdm hA hR0 hce hR hk75 _ _ _ _ _ _ _ _ _ _ _ hq
    · refine x_iconst C dL_stands_132 ?_
      refine x_goto (tgt := 137) C dL_stands_133 (by decide) ?_
      exact L_L_stands_137 C hdm hA hR0 hce hR hk75 _ _ _ _ _ _ _ _ _ _ _ hq
set_option maxRecDepth 100000 in
set_option maxHeartbeats 4000000 in
theorem L_L_stands_113 {g : Cx} {d : Dl} (C : CX g cL_stands 15 (some .boolean) RL) (hdm : g.dm = 0) (hA : ∀ q : Nat, g.s.heap.size ≤ q → g.A q) (hR0 : g.R = rmv 11 199 0 0) (hce : d.ce ≤ g.R.cells ∧ d.so ≤ g.R.slots) {res : Int × Wd} (hR : rtI g d cL_stands .boolean res) {k75 : Int → Int → Int → Int → Int → Int → Int → Wd → Option (Int × Wd)} (hk75 : ∀ (x1 : Int) (x2 : Int) (x3 : Int) (x4 : Int) (x5 : Int) (x6 : Int) (x7 : Int) (w : Wd), k75 x1 x2 x3 x4 x5 x6 x7 w = some res → XG g d (hP g d w) [(0, .ref (d.ad (1))), (1, iV (x1)), (2, iV (x2)), (3, iV (x3)), (4, iV (x4)), (5, iV (x5)), (6, iV (x6)), (7, iV (x7))] [] 75) (x1 : Int) (x2 : Int) (x3 : Int) (x4 : Int) (x5 : Int) (x6 : Int) (x7 : Int) (x8 : Int) (x9 : Int) (s0 : Int) (w : Wd) (hq : p_L_stands_113 k75 x1 x2 x3 x4 x5 x6 x7 x8 x9 s0 w = some res) : XG g d (hP g d w) [(0, .ref (d.ad (1))), (1, iV (x1)), (2, iV (x2)), (3, iV (x3)), (4, iV (x4)), (5, iV (x5)), (6, iV (x6)), (7, iV (x7)), (8, iV (x8)), (9, iV (x9))] [iV (s0)] 113 := by
  refine x_iload C 7 dL_stands_113 rfl ?_
  refine x_iload_n C 1 dL_stands_115 rfl ?_
  refine x_icmp_ge (tgt := 123) C dL_stands_116 (by decide) hq (fun hq => ?_) (fun hq => ?_)
  · refine x_iconst C dL_stands_123 ?_
    exact L_L_stands_124 C hdm hA hR0 hce hR hk75 _ _ _ _ _ _ _ _ _ _ _ _ hq
  · refine x_iconst C dL_stands_119 ?_
    refine x_goto (tgt := 124) C dL_stands_120 (by decide) ?_
    exact L_L_stands_124 C hdm hA hR0 hce hR hk75 _ _ _ _ _ _ _ _ _ _ _ _ hq
set_option maxRecDepth 100000 in
set_option maxHeartbeats 4000000 in
theorem L_L_stands_597 {g : Cx} {d : Dl} (C : CX g cL_stands 15 (some .boolean) RL) (hdm : g.dm = 0) (hA : ∀ q : Nat, g.s.heap.size ≤ q → g.A q) (hR0 : g.R = rmv 11 199 0 0) (hce : d.ce ≤ g.R.cells ∧ d.so ≤ g.R.slots) {res : Int × Wd} (hR : rtI g d cL_stands .boolean res) {k510 : Int → Int → Int → Int → Int → Int → Int → Int → Wd → Option (Int × Wd)} {k526 : Int → Int → Int → Int → Int → Int → Int → Int → Int → Int → Wd → Option (Int × Wd)} (hk510 : ∀ (x2 : Int) (x3 : Int) (x4 : Int) (x5 : Int) (x6 : Int) (x7 : Int) (x8 : Int) (x9 : Int) (w : Wd), k510 x2 x3 x4 x5 x6 x7 x8 x9 w = some res → XG g d (hP g d w) [(0, .ref (d.ad (1))), (2, iV (x2)), (3, iV (x3)), (4, iV (x4)), (5, iV (x5)), (6, iV (x6)), (7, iV (x7)), (8, iV (x8)), (9, iV (x9))] [] 510) (hk526 : ∀ (x2 : Int) (x3 : Int) (x4 : Int) (x5 : Int) (x6 : Int) (x7 : Int) (x8 : Int) (x9 : Int) (x10 : Int) (x11 : Int) (w : Wd), k526 x2 x3 x4 x5 x6 x7 x8 x9 x10 x11 w = some res → XG g d (hP g d w) [(0, .ref (d.ad (1))), (2, iV (x2)), (3, iV (x3)), (4, iV (x4)), (5, iV (x5)), (6, iV (x6)), (7, iV (x7)), (8, iV (x8)), (9, iV (x9)), (10, iV (x10)), (11, iV (x11))] [] 526) (x2 : Int) (x3 : Int) (x4 : Int) (x5 : Int) (x6 : Int) (x7 : Int) (x8 : Int) (x9 : Int) (x11 : Int) (s0 : Int) (s1 : Int) (w : Wd) (hq : p_L_stands_597 k510 k526 x2 x3 x4 x5 x6 x7 x8 x9 x11 s0 s1 w = some res) : XG g d (hP g d w) [(0, .ref (d.ad (1))), (2, iV (x2)), (3, iV (x3)), (4, iV (x4)), (5, iV (x5)), (6, iV (x6)), (7, iV (x7)), (8, iV (x8)), (9, iV (x9)), (11, iV (x11))] [iV (s0), iV (s1)] 597 := by
  refine x_iadd C dL_stands_597 ?_
  refine x_istore (lv' := [(10, iV (s1 + s0)), (0, .ref (d.ad (1))), (2, iV (x2)), (3, iV (x3)), (4, iV (x4)), (5, iV (x5)), (6, iV (x6)), (7, iV (x7)), (8, iV (x8)), (9, iV (x9)), (11, iV (x11))]) C dL_stands_598 (by decide) rfl ?_
  refine x_iinc (lv' := [(11, iV (x11 + 1)), (10, iV (s1 + s0)), (0, .ref (d.ad (1))), (2, iV (x2)), (3, iV (x3)), (4, iV (x4)), (5, iV (x5)), (6, iV (x6)), (7, iV (x7)), (8, iV (x8)), (9, iV (x9))]) C 10 dL_stands_600 rfl (by decide) rfl ?_
  refine x_goto (tgt := 526) C dL_stands_603 (by decide) ?_
  refine XG.sub [2, 3, 4, 5, 6, 7, 8, 9, 10, 1, 0] rfl ?_
  exact hk526 _ _ _ _ _ _ _ _ _ _ _ hq
set_option maxRecDepth 100000 in
set_option maxHeartbeats 4000000 in
theorem L_L_stands_576 {g : Cx} {d : Dl} (C : CX g cL_stands 15 (some .boolean) RL) (hdm : g.dm = 0) (hA : ∀ q : Nat, g.s.heap.size ≤ q → g.A q) (hR0 : g.R = rmv 11 199 0 0) (hce : d.ce ≤ g.R.cells ∧ d.so ≤ g.R.slots) {res : Int × Wd} (hR : rtI g d cL_stands .boolean res) {k510 : Int → Int → Int → Int → Int → Int → Int → Int → Wd → Option (Int × Wd)} {k526 : Int → Int → Int → Int → Int → Int → Int → Int → Int → Int → Wd → Option (Int × Wd)} (hk510 : ∀ (x2 : Int) (x3 : Int) (x4 : Int) (x5 : Int) (x6 : Int) (x7 : Int) (x8 : Int) (x9 : Int) (w : Wd), k510 x2 x3 x4 x5 x6 x7 x8 x9 w = some res → XG g d (hP g d w) [(0, .ref (d.ad (1))), (2, iV (x2)), (3, iV (x3)), (4, iV (x4)), (5, iV (x5)), (6, iV (x6)), (7, iV (x7)), (8, iV (x8)), (9, iV (x9))] [] 510) (hk526 : ∀ (x2 : Int) (x3 : Int) (x4 : Int) (x5 : Int) (x6 : Int) (x7 : Int) (x8 : Int) (x9 : Int) (x10 : Int) (x11 : Int) (w : Wd), k526 x2 x3 x4 x5 x6 x7 x8 x9 x10 x11 w = some res → XG g d (hP g d w) [(0, .ref (d.ad (1))), (2, iV (x2)), (3, iV (x3)), (4, iV (x4)), (5, iV (x5)), (6, iV (x6)), (7, iV (x7)), (8, iV (x8)), (9, iV (x9)), (10, iV (x10)), (11, iV (x11))] [] 526) (x2 : Int) (x3 : Int) (x4 : Int) (x5 : Int) (x6 : Int) (x7 : Int) (x9 : Int) (x10 : Int) (x11 : Int) (s0 : Int) (s1 : Int) (w : Wd) (hq : p_L_stands_576 k510 k526 x2 x3 x4 x5 x6 x7 x9 x10 x11 s0 s1 w = some res) : XG g d (hP g d w) [(0, .ref (d.ad (1))), (2, iV (x2)), (3, iV (x3)), (4, iV (x4)), (5, iV (x5)), (6, iV (x6)), (7, iV (x7)), (9, iV (x9)), (10, iV (x10)), (11, iV (x11))] [iV (s0), iV (s1)] 576 := by
  refine x_iadd C dL_stands_576 ?_
  refine x_istore (lv' := [(8, iV (s1 + s0)), (0, .ref (d.ad (1))), (2, iV (x2)), (3, iV (x3)), (4, iV (x4)), (5, iV (x5)), (6, iV (x6)), (7, iV (x7)), (9, iV (x9)), (10, iV (x10)), (11, iV (x11))]) C dL_stands_577 (by decide) rfl ?_
  refine x_iload C 9 dL_stands_579 rfl ?_
  refine x_aload_n C 1 dL_stands_581 rfl ?_
  refine x_iload C 10 dL_stands_582 rfl ?_
  refine x_iload C 8 dL_stands_584 rfl ?_
  refine x_callVi (K := 9) (rm := rmv 8 132 0 0) (As := [iV (x11), iV (x9)]) (rest := [iV (x10)]) C hA hR0 mf_X8_cell lk_L_178 rfl (isK_lit hdm rfl rfl) (by decide) ⟨rfl, rfl⟩ ⟨Nat.le_of_ble_eq_true rfl, Nat.le_of_ble_eq_true rfl⟩ rfl rfl (Nat.le_of_ble_eq_true rfl) hce dL_stands_586 hq (fun _ _ h => c_Y8_cell g.l g.G hdm  h) (fun r2 w1 _ hq => ?_)
  refine x_if_ne (tgt := 596) C dL_stands_589 (by decide) hq (fun hq => ?_) (fun hq => ?_)
  · refine x_iconst C dL_stands_596 ?_
    refine XG.sub [1, 2, 3, 4, 5, 6, 7, 0, 8, 10] rfl ?_
    exact L_L_stands_597 C hdm hA hR0 hce hR hk510 hk526 _ _ _ _ _ _ _ _ _ _ _ _ hq
  · refine x_iconst C dL_stands_592 ?_
    refine x_goto (tgt := 597) C dL_stands_593 (by decide) ?_
    refine XG.sub [1, 2, 3, 4, 5, 6, 7, 0, 8, 10] rfl ?_
    exact L_L_stands_597 C hdm hA hR0 hce hR hk510 hk526 _ _ _ _ _ _ _ _ _ _ _ _ hq
set_option maxRecDepth 100000 in
set_option maxHeartbeats 4000000 in
theorem L_L_stands_554 {g : Cx} {d : Dl} (C : CX g cL_stands 15 (some .boolean) RL) (hdm : g.dm = 0) (hA : ∀ q : Nat, g.s.heap.size ≤ q → g.A q) (hR0 : g.R = rmv 11 199 0 0) (hce : d.ce ≤ g.R.cells ∧ d.so ≤ g.R.slots) {res : Int × Wd} (hR : rtI g d cL_stands .boolean res) {k510 : Int → Int → Int → Int → Int → Int → Int → Int → Wd → Option (Int × Wd)} {k526 : Int → Int → Int → Int → Int → Int → Int → Int → Int → Int → Wd → Option (Int × Wd)} (hk510 : ∀ (x2 : Int) (x3 : Int) (x4 : Int) (x5 : Int) (x6 : Int) (x7 : Int) (x8 : Int) (x9 : Int) (w : Wd), k510 x2 x3 x4 x5 x6 x7 x8 x9 w = some res → XG g d (hP g d w) [(0, .ref (d.ad (1))), (2, iV (x2)), (3, iV (x3)), (4, iV (x4)), (5, iV (x5)), (6, iV (x6)), (7, iV (x7)), (8, iV (x8)), (9, iV (x9))] [] 510) (hk526 : ∀ (x2 : Int) (x3 : Int) (x4 : Int) (x5 : Int) (x6 : Int) (x7 : Int) (x8 : Int) (x9 : Int) (x10 : Int) (x11 : Int) (w : Wd), k526 x2 x3 x4 x5 x6 x7 x8 x9 x10 x11 w = some res → XG g d (hP g d w) [(0, .ref (d.ad (1))), (2, iV (x2)), (3, iV (x3)), (4, iV (x4)), (5, iV (x5)), (6, iV (x6)), (7, iV (x7)), (8, iV (x8)), (9, iV (x9)), (10, iV (x10)), (11, iV (x11))] [] 526) (x2 : Int) (x3 : Int) (x4 : Int) (x5 : Int) (x6 : Int) (x8 : Int) (x9 : Int) (x10 : Int) (x11 : Int) (s0 : Int) (s1 : Int) (w : Wd) (hq : p_L_stands_554 k510 k526 x2 x3 x4 x5 x6 x8 x9 x10 x11 s0 s1 w = some res) : XG g d (hP g d w) [(0, .ref (d.ad (1))), (2, iV (x2)), (3, iV (x3)), (4, iV (x4)), (5, iV (x5)), (6, iV (x6)), (8, iV (x8)), (9, iV (x9)), (10, iV (x10)), (11, iV (x11))] [iV (s0), iV (s1)] 554 := by
  refine x_iadd C dL_stands_554 ?_
  refine x_istore (lv' := [(7, iV (s1 + s0)), (0, .ref (d.ad (1))), (2, iV (x2)), (3, iV (x3)), (4, iV (x4)), (5, iV (x5)), (6, iV (x6)), (8, iV (x8)), (9, iV (x9)), (10, iV (x10)), (11, iV (x11))]) C dL_stands_555 (by decide) rfl ?_
  refine x_iload C 7 dL_stands_557 rfl ?_
  refine x_aload_n C 1 dL_stands_559 rfl ?_
  refine x_iload C 10 dL_stands_560 rfl ?_
  refine x_iload C 8 dL_stands_562 rfl ?_
  refine x_callVi (K := 9) (rm := rmv 8 132 0 0) (As := [iV (x11), iV (x9)]) (rest := [iV (x8)]) C hA hR0 mf_X8_cell lk_L_178 rfl (isK_lit hdm rfl rfl) (by decide) ⟨rfl, rfl⟩ ⟨Nat.le_of_ble_eq_true rfl, Nat.le_of_ble_eq_true rfl⟩ rfl rfl (Nat.le_of_ble_eq_true rfl) hce dL_stands_564 hq (fun _ _ h => c_Y8_cell g.l g.G hdm  h) (fun r2 w1 _ hq => ?_)
  refine x_iconst C dL_stands_567 ?_
  refine x_icmp_ne (tgt := 575) C dL_stands_568 (by decide) hq (fun hq => ?_) (fun hq => ?_)
  · refine x_iconst C dL_stands_575 ?_
    refine XG.sub [1, 2, 3, 4, 5, 6, 0, 8, 9, 10] rfl ?_
    exact L_L_stands_576 C hdm hA hR0 hce hR hk510 hk526 _ _ _ _ _ _ _ _ _ _ _ _ hq
  · refine x_iconst C dL_stands_571 ?_
    refine x_goto (tgt := 576) C dL_stands_572 (by decide) ?_
    refine XG.sub [1, 2, 3, 4, 5, 6, 0, 8, 9, 10] rfl ?_
    exact L_L_stands_576 C hdm hA hR0 hce hR hk510 hk526 _ _ _ _ _ _ _ _ _ _ _ _ hq
set_option maxRecDepth 100000 in
set_option maxHeartbeats 4000000 in
theorem L_L_stands_606 {g : Cx} {d : Dl} (C : CX g cL_stands 15 (some .boolean) RL) (hdm : g.dm = 0) (hA : ∀ q : Nat, g.s.heap.size ≤ q → g.A q) (hR0 : g.R = rmv 11 199 0 0) (hce : d.ce ≤ g.R.cells ∧ d.so ≤ g.R.slots) {res : Int × Wd} (hR : rtI g d cL_stands .boolean res) {k510 : Int → Int → Int → Int → Int → Int → Int → Int → Wd → Option (Int × Wd)} (hk510 : ∀ (x2 : Int) (x3 : Int) (x4 : Int) (x5 : Int) (x6 : Int) (x7 : Int) (x8 : Int) (x9 : Int) (w : Wd), k510 x2 x3 x4 x5 x6 x7 x8 x9 w = some res → XG g d (hP g d w) [(0, .ref (d.ad (1))), (2, iV (x2)), (3, iV (x3)), (4, iV (x4)), (5, iV (x5)), (6, iV (x6)), (7, iV (x7)), (8, iV (x8)), (9, iV (x9))] [] 510) (x2 : Int) (x3 : Int) (x4 : Int) (x5 : Int) (x6 : Int) (x7 : Int) (x8 : Int) (x9 : Int) (x10 : Int) (w : Wd) (hq : p_L_stands_606 k510 x2 x3 x4 x5 x6 x7 x8 x9 x10 w = some res) : XG g d (hP g d w) [(0, .ref (d.ad (1))), (2, iV (x2)), (3, iV (x3)), (4, iV (x4)), (5, iV (x5)), (6, iV (x6)), (7, iV (x7)), (8, iV (x8)), (9, iV (x9)), (10, iV (x10))] [] 606 := by
  refine x_aload_n C 0 dL_stands_606 rfl ?_
  refine x_iload C 8 dL_stands_607 rfl ?_
  refine x_callVi (K := 9) (rm := rmv 7 110 0 0) (As := [iV (x9)]) (rest := []) C hA hR0 mf_X8_freeIn lk_L_197 rfl (isK_lit hdm rfl rfl) (by decide) ⟨rfl, rfl⟩ ⟨Nat.le_of_ble_eq_true rfl, Nat.le_of_ble_eq_true rfl⟩ rfl rfl (Nat.le_of_ble_eq_true rfl) hce dL_stands_609 hq (fun _ _ h => c_Y8_freeIn g.l g.G hdm  h) (fun r2 w1 _ hq => ?_)
  refine x_iload C 9 dL_stands_612 rfl ?_
  refine x_icmp_eq (tgt := 619) C dL_stands_614 (by decide) hq (fun hq => ?_) (fun hq => ?_)
  · refine x_iinc (lv' := [(9, iV (x9 + 1)), (0, .ref (d.ad (1))), (2, iV (x2)), (3, iV (x3)), (4, iV (x4)), (5, iV (x5)), (6, iV (x6)), (7, iV (x7)), (8, iV (x8)), (10, iV (x10))]) C 8 dL_stands_619 rfl (by decide) rfl ?_
    refine x_goto (tgt := 510) C dL_stands_622 (by decide) ?_
    refine XG.sub [1, 2, 3, 4, 5, 6, 7, 8, 0] rfl ?_
    exact hk510 _ _ _ _ _ _ _ _ _ hq
  · refine x_iconst C dL_stands_617 ?_
    exact hR _ _ _ _ hq (by decide +kernel) dL_stands_618
set_option maxRecDepth 100000 in
set_option maxHeartbeats 4000000 in
theorem L_L_stands_526 {g : Cx} {d : Dl} (C : CX g cL_stands 15 (some .boolean) RL) (hdm : g.dm = 0) (hA : ∀ q : Nat, g.s.heap.size ≤ q → g.A q) (hR0 : g.R = rmv 11 199 0 0) (hce : d.ce ≤ g.R.cells ∧ d.so ≤ g.R.slots) {res : Int × Wd} (hR : rtI g d cL_stands .boolean res) {k510 : Int → Int → Int → Int → Int → Int → Int → Int → Wd → Option (Int × Wd)} (hk510 : ∀ (x2 : Int) (x3 : Int) (x4 : Int) (x5 : Int) (x6 : Int) (x7 : Int) (x8 : Int) (x9 : Int) (w : Wd), k510 x2 x3 x4 x5 x6 x7 x8 x9 w = some res → XG g d (hP g d w) [(0, .ref (d.ad (1))), (2, iV (x2)), (3, iV (x3)), (4, iV (x4)), (5, iV (x5)), (6, iV (x6)), (7, iV (x7)), (8, iV (x8)), (9, iV (x9))] [] 510) : ∀ (n : Nat) (x2 : Int) (x3 : Int) (x4 : Int) (x5 : Int) (x6 : Int) (x7 : Int) (x8 : Int) (x9 : Int) (x10 : Int) (x11 : Int) (w : Wd), p_L_stands_526 k510 n x2 x3 x4 x5 x6 x7 x8 x9 x10 x11 w = some res → XG g d (hP g d w) [(0, .ref (d.ad (1))), (2, iV (x2)), (3, iV (x3)), (4, iV (x4)), (5, iV (x5)), (6, iV (x6)), (7, iV (x7)), (8, iV (x8)), (9, iV (x9)), (10, iV (x10)), (11, iV (x11))] [] 526 := by
  intro n
  induction n with
  | zero => intro x2 x3 x4 x5 x6 x7 x8 x9 x10 x11 w  hq; exact nomatch (show none = some _ from hq)
  | succ n ih =>
    intro x2 x3 x4 x5 x6 x7 x8 x9 x10 x11 w  hq
    refine x_iload C 10 dL_stands_526 rfl ?_
    refine x_aload_n C 0 dL_stands_528 rfl ?_
    refine x_iconst C dL_stands_529 ?_
    refine x_callVi (K := 9) (rm := rmv 6 89 0 0) (As := [iV (0)]) (rest := [iV (x11)]) C hA hR0 mf_X8_property lk_L_94 rfl (isK_lit hdm rfl rfl) (by decide) ⟨rfl, rfl⟩ ⟨Nat.le_of_ble_eq_true rfl, Nat.le_of_ble_eq_true rfl⟩ rfl rfl (Nat.le_of_ble_eq_true rfl) hce dL_stands_530 hq (fun _ _ h => c_Y8_property g.l g.G hdm  h) (fun r2 w1 _ hq => ?_)
    refine x_icmp_ge (tgt := 606) C dL_stands_533 (by decide) hq (fun hq => ?_) (fun hq => ?_)
    · refine XG.sub [0, 1, 2, 3, 4, 5, 6, 7, 8, 9] rfl ?_
      exact L_L_stands_606 C hdm hA hR0 hce hR hk510 _ _ _ _ _ _ _ _ _ _ hq
    · refine x_iload C 6 dL_stands_536 rfl ?_
      refine x_aload_n C 0 dL_stands_538 rfl ?_
      refine x_iload C 10 dL_stands_539 rfl ?_
      refine x_iload C 8 dL_stands_541 rfl ?_
      refine x_callVi (K := 9) (rm := rmv 8 132 0 0) (As := [iV (x11), iV (x9)]) (rest := [iV (x7)]) C hA hR0 mf_X8_cell lk_L_178 rfl (isK_lit hdm rfl rfl) (by decide) ⟨rfl, rfl⟩ ⟨Nat.le_of_ble_eq_true rfl, Nat.le_of_ble_eq_true rfl⟩ rfl rfl (Nat.le_of_ble_eq_true rfl) hce dL_stands_543 hq (fun _ _ h => c_Y8_cell g.l g.G hdm  h) (fun r4 w3 _ hq => ?_)
      refine x_if_le (tgt := 553) C dL_stands_546 (by decide) hq (fun hq => ?_) (fun hq => ?_)
      · refine x_iconst C dL_stands_553 ?_
        refine XG.sub [0, 1, 2, 3, 4, 5, 7, 8, 9, 10] rfl ?_
        exact L_L_stands_554 C hdm hA hR0 hce hR hk510 ih _ _ _ _ _ _ _ _ _ _ _ _ hq
      · refine x_iconst C dL_stands_549 ?_
        refine x_goto (tgt := 554) C dL_stands_550 (by decide) ?_
        refine XG.sub [0, 1, 2, 3, 4, 5, 7, 8, 9, 10] rfl ?_
        exact L_L_stands_554 C hdm hA hR0 hce hR hk510 ih _ _ _ _ _ _ _ _ _ _ _ _ hq
set_option maxRecDepth 100000 in
set_option maxHeartbeats 4000000 in
theorem L_L_stands_716 {g : Cx} {d : Dl} (C : CX g cL_stands 15 (some .boolean) RL) (hdm : g.dm = 0) (hA : ∀ q : Nat, g.s.heap.size ≤ q → g.A q) (hR0 : g.R = rmv 11 199 0 0) (hce : d.ce ≤ g.R.cells ∧ d.so ≤ g.R.slots) {res : Int × Wd} (hR : rtI g d cL_stands .boolean res) (s0 : UInt32) (s1 : UInt32) (w : Wd) (hq : p_L_stands_716 s0 s1 w = some res) : XG g d (hP g d w) [(0, .ref (d.ad (1)))] [.float (s0), .float (s1)] 716 := by
  refine x_fcmpl C dL_stands_716 ?_
  refine x_if_eq (tgt := 722) C dL_stands_717 (by decide) hq (fun hq => ?_) (fun hq => ?_)
  · refine x_aload_n C 0 dL_stands_722 rfl ?_
    refine x_bipush (v := 9) C dL_stands_723 (by decide +kernel) ?_
    refine x_callVi (K := 9) (rm := rmv 6 89 0 0) (As := [iV (9)]) (rest := []) C hA hR0 mf_X8_property lk_L_94 rfl (isK_lit hdm rfl rfl) (by decide) ⟨rfl, rfl⟩ ⟨Nat.le_of_ble_eq_true rfl, Nat.le_of_ble_eq_true rfl⟩ rfl rfl (Nat.le_of_ble_eq_true rfl) hce dL_stands_725 hq (fun _ _ h => c_Y8_property g.l g.G hdm  h) (fun r2 w1 _ hq => ?_)
    refine x_if_lt (tgt := 750) C dL_stands_728 (by decide) hq (fun hq => ?_) (fun hq => ?_)
    · refine x_iconst C dL_stands_750 ?_
      exact hR _ _ _ _ hq (by decide +kernel) dL_stands_751
    · refine x_aload_n C 0 dL_stands_731 rfl ?_
      refine x_bipush (v := 9) C dL_stands_732 (by decide +kernel) ?_
      refine x_callVi (K := 9) (rm := rmv 6 89 0 0) (As := [iV (9)]) (rest := []) C hA hR0 mf_X8_property lk_L_94 rfl (isK_lit hdm rfl rfl) (by decide) ⟨rfl, rfl⟩ ⟨Nat.le_of_ble_eq_true rfl, Nat.le_of_ble_eq_true rfl⟩ rfl rfl (Nat.le_of_ble_eq_true rfl) hce dL_stands_734 hq (fun _ _ h => c_Y8_property g.l g.G hdm  h) (fun r4 w3 _ hq => ?_)
      refine x_aload_n C 0 dL_stands_737 rfl ?_
      refine x_bipush (v := 10) C dL_stands_738 (by decide +kernel) ?_
      refine x_callVi (K := 9) (rm := rmv 6 89 0 0) (As := [iV (10)]) (rest := [iV (r4)]) C hA hR0 mf_X8_property lk_L_94 rfl (isK_lit hdm rfl rfl) (by decide) ⟨rfl, rfl⟩ ⟨Nat.le_of_ble_eq_true rfl, Nat.le_of_ble_eq_true rfl⟩ rfl rfl (Nat.le_of_ble_eq_true rfl) hce dL_stands_740 hq (fun _ _ h => c_Y8_property g.l g.G hdm  h) (fun r6 w5 _ hq => ?_)
      refine x_icmp_gt (tgt := 750) C dL_stands_743 (by decide) hq (fun hq => ?_) (fun hq => ?_)
      · refine x_iconst C dL_stands_750 ?_
        exact hR _ _ _ _ hq (by decide +kernel) dL_stands_751
      · refine x_iconst C dL_stands_746 ?_
        refine x_goto (tgt := 751) C dL_stands_747 (by decide) ?_
        exact hR _ _ _ _ hq (by decide +kernel) dL_stands_751
  · refine x_iconst C dL_stands_720 ?_
    exact hR _ _ _ _ hq (by decide +kernel) dL_stands_721
set_option maxRecDepth 100000 in
set_option maxHeartbeats 4000000 in
theorem L_L_stands_694 {g : Cx} {d : Dl} (C : CX g cL_stands 15 (some .boolean) RL) (hdm : g.dm = 0) (hA : ∀ q : Nat, g.s.heap.size ≤ q → g.A q) (hR0 : g.R = rmv 11 199 0 0) (hce : d.ce ≤ g.R.cells ∧ d.so ≤ g.R.slots) {res : Int × Wd} (hR : rtI g d cL_stands .boolean res) (x2 : Int) (x6 : Int) (s0 : UInt64) (s1 : UInt64) (w : Wd) (hq : p_L_stands_694 x2 x6 s0 s1 w = some res) : XG g d (hP g d w) [(0, .ref (d.ad (1))), (2, iV (x2)), (6, iV (x6))] [.double (s0), .double (s1)] 694 := by
  refine x_dcmpl C dL_stands_694 ?_
  refine x_if_ne (tgt := 720) C dL_stands_695 (by decide) hq (fun hq => ?_) (fun hq => ?_)
  · refine x_iconst C dL_stands_720 ?_
    exact hR _ _ _ _ hq (by decide +kernel) dL_stands_721
  · refine x_aload_n C 0 dL_stands_698 rfl ?_
    refine x_callVf (K := 9) (rm := rmv 0 0 0 0) (As := []) (rest := []) C hA hR0 mf_X8_carvedShare lk_L_210 rfl (isK_lit hdm rfl rfl) (by decide) ⟨rfl, rfl⟩ ⟨Nat.le_of_ble_eq_true rfl, Nat.le_of_ble_eq_true rfl⟩ rfl rfl (Nat.le_of_ble_eq_true rfl) hce dL_stands_699 hq (fun _ _ h => c_X8_carvedShare g.l g.G hdm  h) (fun r2 w1 _ hq => ?_)
    refine x_iload_n C 1 dL_stands_702 rfl ?_
    refine x_if_ne (tgt := 710) C dL_stands_703 (by decide) hq (fun hq => ?_) (fun hq => ?_)
    · refine x_iload C 2 dL_stands_710 rfl ?_
      refine x_i2f C dL_stands_712 ?_
      refine x_iload_n C 1 dL_stands_713 rfl ?_
      refine x_i2f C dL_stands_714 ?_
      refine x_fdiv C dL_stands_715 hq (fun v4 hq => ?_)
      refine XG.sub [0] rfl ?_
      exact L_L_stands_716 C hdm hA hR0 hce hR _ _ _ hq
    · refine x_fconst1 C dL_stands_706 ?_
      refine x_goto (tgt := 716) C dL_stands_707 (by decide) ?_
      refine XG.sub [0] rfl ?_
      exact L_L_stands_716 C hdm hA hR0 hce hR _ _ _ hq
set_option maxRecDepth 100000 in
set_option maxHeartbeats 4000000 in
theorem L_L_stands_625 {g : Cx} {d : Dl} (C : CX g cL_stands 15 (some .boolean) RL) (hdm : g.dm = 0) (hA : ∀ q : Nat, g.s.heap.size ≤ q → g.A q) (hR0 : g.R = rmv 11 199 0 0) (hce : d.ce ≤ g.R.cells ∧ d.so ≤ g.R.slots) {res : Int × Wd} (hR : rtI g d cL_stands .boolean res) (x2 : Int) (x3 : Int) (x4 : Int) (x5 : Int) (x6 : Int) (x7 : Int) (x8 : Int) (w : Wd) (hq : p_L_stands_625 x2 x3 x4 x5 x6 x7 x8 w = some res) : XG g d (hP g d w) [(0, .ref (d.ad (1))), (2, iV (x2)), (3, iV (x3)), (4, iV (x4)), (5, iV (x5)), (6, iV (x6)), (7, iV (x7)), (8, iV (x8))] [] 625 := by
  refine x_iload C 6 dL_stands_625 rfl ?_
  refine x_iload_n C 1 dL_stands_627 rfl ?_
  refine x_icmp_ne (tgt := 675) C dL_stands_628 (by decide) hq (fun hq => ?_) (fun hq => ?_)
  · refine x_iconst C dL_stands_675 ?_
    exact hR _ _ _ _ hq (by decide +kernel) dL_stands_676
  · refine x_aload_n C 0 dL_stands_631 rfl ?_
    refine x_bipush (v := 7) C dL_stands_632 (by decide +kernel) ?_
    refine x_callVi (K := 9) (rm := rmv 6 89 0 0) (As := [iV (7)]) (rest := []) C hA hR0 mf_X8_property lk_L_94 rfl (isK_lit hdm rfl rfl) (by decide) ⟨rfl, rfl⟩ ⟨Nat.le_of_ble_eq_true rfl, Nat.le_of_ble_eq_true rfl⟩ rfl rfl (Nat.le_of_ble_eq_true rfl) hce dL_stands_634 hq (fun _ _ h => c_Y8_property g.l g.G hdm  h) (fun r2 w1 _ hq => ?_)
    refine x_iload_n C 1 dL_stands_637 rfl ?_
    refine x_icmp_ne (tgt := 675) C dL_stands_638 (by decide) hq (fun hq => ?_) (fun hq => ?_)
    · refine x_iconst C dL_stands_675 ?_
      exact hR _ _ _ _ hq (by decide +kernel) dL_stands_676
    · refine x_iload C 7 dL_stands_641 rfl ?_
      refine x_aload_n C 0 dL_stands_643 rfl ?_
      refine x_iconst C dL_stands_644 ?_
      refine x_callVi (K := 9) (rm := rmv 6 89 0 0) (As := [iV (2)]) (rest := [iV (x8)]) C hA hR0 mf_X8_property lk_L_94 rfl (isK_lit hdm rfl rfl) (by decide) ⟨rfl, rfl⟩ ⟨Nat.le_of_ble_eq_true rfl, Nat.le_of_ble_eq_true rfl⟩ rfl rfl (Nat.le_of_ble_eq_true rfl) hce dL_stands_645 hq (fun _ _ h => c_Y8_property g.l g.G hdm  h) (fun r4 w3 _ hq => ?_)
      refine x_icmp_ne (tgt := 675) C dL_stands_648 (by decide) hq (fun hq => ?_) (fun hq => ?_)
      · refine x_iconst C dL_stands_675 ?_
        exact hR _ _ _ _ hq (by decide +kernel) dL_stands_676
      · refine x_iload C 5 dL_stands_651 rfl ?_
        refine x_iload_n C 1 dL_stands_653 rfl ?_
        refine x_icmp_gt (tgt := 675) C dL_stands_654 (by decide) hq (fun hq => ?_) (fun hq => ?_)
        · refine x_iconst C dL_stands_675 ?_
          exact hR _ _ _ _ hq (by decide +kernel) dL_stands_676
        · refine x_aload_n C 0 dL_stands_657 rfl ?_
          refine x_callVi (K := 9) (rm := rmv 2 45 0 0) (As := []) (rest := []) C hA hR0 mf_X8_strokesLeft lk_L_200 rfl (isK_lit hdm rfl rfl) (by decide) ⟨rfl, rfl⟩ ⟨Nat.le_of_ble_eq_true rfl, Nat.le_of_ble_eq_true rfl⟩ rfl rfl (Nat.le_of_ble_eq_true rfl) hce dL_stands_658 hq (fun _ _ h => c_X8_strokesLeft g.l g.G hdm  h) (fun r6 w5 _ hq => ?_)
          refine x_iload C 3 dL_stands_661 rfl ?_
          refine x_icmp_ne (tgt := 675) C dL_stands_663 (by decide) hq (fun hq => ?_) (fun hq => ?_)
          · refine x_iconst C dL_stands_675 ?_
            exact hR _ _ _ _ hq (by decide +kernel) dL_stands_676
          · refine x_aload_n C 0 dL_stands_666 rfl ?_
            refine x_callVi (K := 9) (rm := rmv 2 45 0 0) (As := []) (rest := []) C hA hR0 mf_X8_dear lk_L_203 rfl (isK_lit hdm rfl rfl) (by decide) ⟨rfl, rfl⟩ ⟨Nat.le_of_ble_eq_true rfl, Nat.le_of_ble_eq_true rfl⟩ rfl rfl (Nat.le_of_ble_eq_true rfl) hce dL_stands_667 hq (fun _ _ h => c_X8_dear g.l g.G hdm  h) (fun r8 w7 _ hq => ?_)
            refine x_iload C 4 dL_stands_670 rfl ?_
            refine x_icmp_eq (tgt := 677) C dL_stands_672 (by decide) hq (fun hq => ?_) (fun hq => ?_)
            · refine x_aload_n C 0 dL_stands_677 rfl ?_
              refine x_callVd (K := 9) (rm := rmv 2 45 0 0) (As := []) (rest := []) C hA hR0 mf_X8_meanStrokes lk_L_206 rfl (isK_lit hdm rfl rfl) (by decide) ⟨rfl, rfl⟩ ⟨Nat.le_of_ble_eq_true rfl, Nat.le_of_ble_eq_true rfl⟩ rfl rfl (Nat.le_of_ble_eq_true rfl) hce dL_stands_678 hq (fun _ _ h => c_X8_meanStrokes g.l g.G hdm  h) (fun r10 w9 _ hq => ?_)
              refine x_iload_n C 1 dL_stands_681 rfl ?_
              refine x_if_ne (tgt := 689) C dL_stands_682 (by decide) hq (fun hq => ?_) (fun hq => ?_)
              · refine x_iload_n C 2 dL_stands_689 rfl ?_
                refine x_i2d C dL_stands_690 ?_
                refine x_iload_n C 1 dL_stands_691 rfl ?_
                refine x_i2d C dL_stands_692 ?_
                refine x_ddiv C dL_stands_693 hq (fun v12 hq => ?_)
                refine XG.sub [0, 1, 5] rfl ?_
                exact L_L_stands_694 C hdm hA hR0 hce hR _ _ _ _ _ hq
              · refine x_dconst0 C dL_stands_685 ?_
                refine x_goto (tgt := 694) C dL_stands_686 (by decide) ?_
                refine XG.sub [0, 1, 5] rfl ?_
                exact L_L_stands_694 C hdm hA hR0 hce hR _ _ _ _ _ hq
            · refine x_iconst C dL_stands_675 ?_
              exact hR _ _ _ _ hq (by decide +kernel) dL_stands_676
set_option maxRecDepth 100000 in
set_option maxHeartbeats 4000000 in
theorem L_L_stands_510 {g : Cx} {d : Dl} (C : CX g cL_stands 15 (some .boolean) RL) (hdm : g.dm = 0) (hA : ∀ q : Nat, g.s.heap.size ≤ q → g.A q) (hR0 : g.R = rmv 11 199 0 0) (hce : d.ce ≤ g.R.cells ∧ d.so ≤ g.R.slots) {res : Int × Wd} (hR : rtI g d cL_stands .boolean res) : ∀ (n : Nat) (x2 : Int) (x3 : Int) (x4 : Int) (x5 : Int) (x6 : Int) (x7 : Int) (x8 : Int) (x9 : Int) (w : Wd), p_L_stands_510 n x2 x3 x4 x5 x6 x7 x8 x9 w = some res → XG g d (hP g d w) [(0, .ref (d.ad (1))), (2, iV (x2)), (3, iV (x3)), (4, iV (x4)), (5, iV (x5)), (6, iV (x6)), (7, iV (x7)), (8, iV (x8)), (9, iV (x9))] [] 510 := by
  intro n
  induction n with
  | zero => intro x2 x3 x4 x5 x6 x7 x8 x9 w  hq; exact nomatch (show none = some _ from hq)
  | succ n ih =>
    intro x2 x3 x4 x5 x6 x7 x8 x9 w  hq
    refine x_iload C 8 dL_stands_510 rfl ?_
    refine x_aload_n C 0 dL_stands_512 rfl ?_
    refine x_iconst C dL_stands_513 ?_
    refine x_callVi (K := 9) (rm := rmv 6 89 0 0) (As := [iV (1)]) (rest := [iV (x9)]) C hA hR0 mf_X8_property lk_L_94 rfl (isK_lit hdm rfl rfl) (by decide) ⟨rfl, rfl⟩ ⟨Nat.le_of_ble_eq_true rfl, Nat.le_of_ble_eq_true rfl⟩ rfl rfl (Nat.le_of_ble_eq_true rfl) hce dL_stands_514 hq (fun _ _ h => c_Y8_property g.l g.G hdm  h) (fun r2 w1 _ hq => ?_)
    refine x_icmp_ge (tgt := 625) C dL_stands_517 (by decide) hq (fun hq => ?_) (fun hq => ?_)
    · refine XG.sub [0, 1, 2, 3, 4, 5, 6, 7] rfl ?_
      exact L_L_stands_625 C hdm hA hR0 hce hR _ _ _ _ _ _ _ _ hq
    · refine x_iconst C dL_stands_520 ?_
      refine x_istore (lv' := [(10, iV (0)), (0, .ref (d.ad (1))), (2, iV (x2)), (3, iV (x3)), (4, iV (x4)), (5, iV (x5)), (6, iV (x6)), (7, iV (x7)), (8, iV (x8)), (9, iV (x9))]) C dL_stands_521 (by decide) rfl ?_
      refine x_iconst C dL_stands_523 ?_
      refine x_istore (lv' := [(11, iV (0)), (10, iV (0)), (0, .ref (d.ad (1))), (2, iV (x2)), (3, iV (x3)), (4, iV (x4)), (5, iV (x5)), (6, iV (x6)), (7, iV (x7)), (8, iV (x8)), (9, iV (x9))]) C dL_stands_524 (by decide) rfl ?_
      refine XG.sub [2, 3, 4, 5, 6, 7, 8, 9, 10, 1, 0] rfl ?_
      exact L_L_stands_526 C hdm hA hR0 hce hR ih _ _ _ _ _ _ _ _ _ _ _ _ hq
set_option maxRecDepth 100000 in
set_option maxHeartbeats 4000000 in
theorem L_L_stands_501 {g : Cx} {d : Dl} (C : CX g cL_stands 15 (some .boolean) RL) (hdm : g.dm = 0) (hA : ∀ q : Nat, g.s.heap.size ≤ q → g.A q) (hR0 : g.R = rmv 11 199 0 0) (hce : d.ce ≤ g.R.cells ∧ d.so ≤ g.R.slots) {res : Int × Wd} (hR : rtI g d cL_stands .boolean res) (x2 : Int) (x3 : Int) (x4 : Int) (x5 : Int) (x6 : Int) (w : Wd) (hq : p_L_stands_501 x2 x3 x4 x5 x6 w = some res) : XG g d (hP g d w) [(0, .ref (d.ad (1))), (2, iV (x2)), (3, iV (x3)), (4, iV (x4)), (5, iV (x5)), (6, iV (x6))] [] 501 := by
  refine x_iconst C dL_stands_501 ?_
  refine x_istore (lv' := [(7, iV (0)), (0, .ref (d.ad (1))), (2, iV (x2)), (3, iV (x3)), (4, iV (x4)), (5, iV (x5)), (6, iV (x6))]) C dL_stands_502 (by decide) rfl ?_
  refine x_iconst C dL_stands_504 ?_
  refine x_istore (lv' := [(8, iV (0)), (7, iV (0)), (0, .ref (d.ad (1))), (2, iV (x2)), (3, iV (x3)), (4, iV (x4)), (5, iV (x5)), (6, iV (x6))]) C dL_stands_505 (by decide) rfl ?_
  refine x_iconst C dL_stands_507 ?_
  refine x_istore (lv' := [(9, iV (0)), (8, iV (0)), (7, iV (0)), (0, .ref (d.ad (1))), (2, iV (x2)), (3, iV (x3)), (4, iV (x4)), (5, iV (x5)), (6, iV (x6))]) C dL_stands_508 (by decide) rfl ?_
  refine XG.sub [3, 4, 5, 6, 7, 8, 2, 1, 0] rfl ?_
  exact L_L_stands_510 C hdm hA hR0 hce hR _ _ _ _ _ _ _ _ _ _ hq
set_option maxRecDepth 100000 in
set_option maxHeartbeats 4000000 in
theorem L_L_stands_75 {g : Cx} {d : Dl} (C : CX g cL_stands 15 (some .boolean) RL) (hdm : g.dm = 0) (hA : ∀ q : Nat, g.s.heap.size ≤ q → g.A q) (hR0 : g.R = rmv 11 199 0 0) (hce : d.ce ≤ g.R.cells ∧ d.so ≤ g.R.slots) {res : Int × Wd} (hR : rtI g d cL_stands .boolean res) : ∀ (n : Nat) (x1 : Int) (x2 : Int) (x3 : Int) (x4 : Int) (x5 : Int) (x6 : Int) (x7 : Int) (w : Wd), p_L_stands_75 n x1 x2 x3 x4 x5 x6 x7 w = some res → XG g d (hP g d w) [(0, .ref (d.ad (1))), (1, iV (x1)), (2, iV (x2)), (3, iV (x3)), (4, iV (x4)), (5, iV (x5)), (6, iV (x6)), (7, iV (x7))] [] 75 := by
  intro n
  induction n with
  | zero => intro x1 x2 x3 x4 x5 x6 x7 w  hq; exact nomatch (show none = some _ from hq)
  | succ n ih =>
    intro x1 x2 x3 x4 x5 x6 x7 w  hq
    refine x_iload C 7 dL_stands_75 rfl ?_
    refine x_aload_n C 0 dL_stands_77 rfl ?_
    refine x_iconst C dL_stands_78 ?_
    refine x_callVi (K := 9) (rm := rmv 6 89 0 0) (As := [iV (5)]) (rest := [iV (x7)]) C hA hR0 mf_X8_property lk_L_94 rfl (isK_lit hdm rfl rfl) (by decide) ⟨rfl, rfl⟩ ⟨Nat.le_of_ble_eq_true rfl, Nat.le_of_ble_eq_true rfl⟩ rfl rfl (Nat.le_of_ble_eq_true rfl) hce dL_stands_79 hq (fun _ _ h => c_Y8_property g.l g.G hdm  h) (fun r2 w1 _ hq => ?_)
    refine x_icmp_ge (tgt := 501) C dL_stands_82 (by decide) hq (fun hq => ?_) (fun hq => ?_)
    · refine XG.sub [0, 2, 3, 4, 5, 6] rfl ?_
      exact L_L_stands_501 C hdm hA hR0 hce hR _ _ _ _ _ _ hq
    · refine x_aload_n C 0 dL_stands_85 rfl ?_
      refine x_iload C 7 dL_stands_86 rfl ?_
      refine x_iconst C dL_stands_88 ?_
      refine x_callVi (K := 9) (rm := rmv 7 110 0 0) (As := [iV (x7), iV (3)]) (rest := []) C hA hR0 mf_X8_word lk_L_171 rfl (isK_lit hdm rfl rfl) (by decide) ⟨rfl, rfl⟩ ⟨Nat.le_of_ble_eq_true rfl, Nat.le_of_ble_eq_true rfl⟩ rfl rfl (Nat.le_of_ble_eq_true rfl) hce dL_stands_89 hq (fun _ _ h => c_Y8_word g.l g.G hdm  h) (fun r4 w3 _ hq => ?_)
      refine x_istore (lv' := [(8, iV (r4)), (0, .ref (d.ad (1))), (1, iV (x1)), (2, iV (x2)), (3, iV (x3)), (4, iV (x4)), (5, iV (x5)), (6, iV (x6)), (7, iV (x7))]) C dL_stands_92 (by decide) rfl ?_
      refine x_aload_n C 1 dL_stands_94 rfl ?_
      refine x_iload C 8 dL_stands_95 rfl ?_
      refine x_iconst C dL_stands_97 ?_
      refine x_callVi (K := 9) (rm := rmv 7 110 0 0) (As := [iV (x7), iV (2)]) (rest := []) C hA hR0 mf_X8_word lk_L_171 rfl (isK_lit hdm rfl rfl) (by decide) ⟨rfl, rfl⟩ ⟨Nat.le_of_ble_eq_true rfl, Nat.le_of_ble_eq_true rfl⟩ rfl rfl (Nat.le_of_ble_eq_true rfl) hce dL_stands_98 hq (fun _ _ h => c_Y8_word g.l g.G hdm  h) (fun r6 w5 _ hq => ?_)
      refine x_istore (lv' := [(9, iV (r6)), (8, iV (r4)), (0, .ref (d.ad (1))), (1, iV (x1)), (2, iV (x2)), (3, iV (x3)), (4, iV (x4)), (5, iV (x5)), (6, iV (x6)), (7, iV (x7))]) C dL_stands_101 (by decide) rfl ?_
      refine x_iload C 1 dL_stands_103 rfl ?_
      refine x_if_lt (tgt := 112) C dL_stands_105 (by decide) hq (fun hq => ?_) (fun hq => ?_)
      · refine x_iconst C dL_stands_112 ?_
        refine XG.sub [2, 3, 4, 5, 6, 7, 8, 9, 1, 0] rfl ?_
        exact L_L_stands_113 C hdm hA hR0 hce hR ih _ _ _ _ _ _ _ _ _ _ _ hq
      · refine x_iconst C dL_stands_108 ?_
        refine x_goto (tgt := 113) C dL_stands_109 (by decide) ?_
        refine XG.sub [2, 3, 4, 5, 6, 7, 8, 9, 1, 0] rfl ?_
        exact L_L_stands_113 C hdm hA hR0 hce hR ih _ _ _ _ _ _ _ _ _ _ _ hq
set_option maxRecDepth 100000 in
set_option maxHeartbeats 4000000 in
theorem L_L_stands_72 {g : Cx} {d : Dl} (C : CX g cL_stands 15 (some .boolean) RL) (hdm : g.dm = 0) (hA : ∀ q : Nat, g.s.heap.size ≤ q → g.A q) (hR0 : g.R = rmv 11 199 0 0) (hce : d.ce ≤ g.R.cells ∧ d.so ≤ g.R.slots) {res : Int × Wd} (hR : rtI g d cL_stands .boolean res) (x1 : Int) (x2 : Int) (x3 : Int) (x4 : Int) (x5 : Int) (x6 : Int) (w : Wd) (hq : p_L_stands_72 x1 x2 x3 x4 x5 x6 w = some res) : XG g d (hP g d w) [(0, .ref (d.ad (1))), (1, iV (x1)), (2, iV (x2)), (3, iV (x3)), (4, iV (x4)), (5, iV (x5)), (6, iV (x6))] [] 72 := by
  refine x_iconst C dL_stands_72 ?_
  refine x_istore (lv' := [(7, iV (0)), (0, .ref (d.ad (1))), (1, iV (x1)), (2, iV (x2)), (3, iV (x3)), (4, iV (x4)), (5, iV (x5)), (6, iV (x6))]) C dL_stands_73 (by decide) rfl ?_
  refine XG.sub [1, 2, 3, 4, 5, 6, 7, 0] rfl ?_
  exact L_L_stands_75 C hdm hA hR0 hce hR _ _ _ _ _ _ _ _ _ hq
set_option maxRecDepth 100000 in
set_option maxHeartbeats 4000000 in
theorem L_L_stands_52 {g : Cx} {d : Dl} (C : CX g cL_stands 15 (some .boolean) RL) (hdm : g.dm = 0) (hA : ∀ q : Nat, g.s.heap.size ≤ q → g.A q) (hR0 : g.R = rmv 11 199 0 0) (hce : d.ce ≤ g.R.cells ∧ d.so ≤ g.R.slots) {res : Int × Wd} (hR : rtI g d cL_stands .boolean res) (x1 : Int) (x2 : Int) (x3 : Int) (x4 : Int) (x5 : Int) (x6 : Int) (s0 : Int) (s1 : Int) (w : Wd) (hq : p_L_stands_52 x1 x2 x3 x4 x5 x6 s0 s1 w = some res) : XG g d (hP g d w) [(0, .ref (d.ad (1))), (1, iV (x1)), (2, iV (x2)), (3, iV (x3)), (4, iV (x4)), (5, iV (x5)), (6, iV (x6))] [iV (s0), iV (s1)] 52 := by
  refine x_icmp_ne (tgt := 70) C dL_stands_52 (by decide) hq (fun hq => ?_) (fun hq => ?_)
  · refine x_iconst C dL_stands_70 ?_
    exact hR _ _ _ _ hq (by decide +kernel) dL_stands_71
  · refine x_aload_n C 0 dL_stands_55 rfl ?_
    refine x_callVi (K := 9) (rm := rmv 0 0 0 0) (As := []) (rest := []) C hA hR0 mf_X8_firstMissing lk_L_185 rfl (isK_lit hdm rfl rfl) (by decide) ⟨rfl, rfl⟩ ⟨Nat.le_of_ble_eq_true rfl, Nat.le_of_ble_eq_true rfl⟩ rfl rfl (Nat.le_of_ble_eq_true rfl) hce dL_stands_56 hq (fun _ _ h => c_X8_firstMissing g.l g.G hdm  h) (fun r2 w1 _ hq => ?_)
    refine x_if_lt (tgt := 72) C dL_stands_59 (by decide) hq (fun hq => ?_) (fun hq => ?_)
    · exact L_L_stands_72 C hdm hA hR0 hce hR _ _ _ _ _ _ _ hq
    · refine x_aload_n C 0 dL_stands_62 rfl ?_
      refine x_callVi (K := 9) (rm := rmv 0 0 0 0) (As := []) (rest := []) C hA hR0 mf_X8_firstMissing lk_L_185 rfl (isK_lit hdm rfl rfl) (by decide) ⟨rfl, rfl⟩ ⟨Nat.le_of_ble_eq_true rfl, Nat.le_of_ble_eq_true rfl⟩ rfl rfl (Nat.le_of_ble_eq_true rfl) hce dL_stands_63 hq (fun _ _ h => c_X8_firstMissing g.l g.G hdm  h) (fun r4 w3 _ hq => ?_)
      refine x_iload_n C 1 dL_stands_66 rfl ?_
      refine x_icmp_eq (tgt := 72) C dL_stands_67 (by decide) hq (fun hq => ?_) (fun hq => ?_)
      · exact L_L_stands_72 C hdm hA hR0 hce hR _ _ _ _ _ _ _ hq
      · refine x_iconst C dL_stands_70 ?_
        exact hR _ _ _ _ hq (by decide +kernel) dL_stands_71
set_option maxRecDepth 100000 in
set_option maxHeartbeats 4000000 in
theorem L_L_stands_38 {g : Cx} {d : Dl} (C : CX g cL_stands 15 (some .boolean) RL) (hdm : g.dm = 0) (hA : ∀ q : Nat, g.s.heap.size ≤ q → g.A q) (hR0 : g.R = rmv 11 199 0 0) (hce : d.ce ≤ g.R.cells ∧ d.so ≤ g.R.slots) {res : Int × Wd} (hR : rtI g d cL_stands .boolean res) (x1 : Int) (x2 : Int) (x3 : Int) (x4 : Int) (x5 : Int) (x6 : Int) (s0 : Int) (w : Wd) (hq : p_L_stands_38 x1 x2 x3 x4 x5 x6 s0 w = some res) : XG g d (hP g d w) [(0, .ref (d.ad (1))), (1, iV (x1)), (2, iV (x2)), (3, iV (x3)), (4, iV (x4)), (5, iV (x5)), (6, iV (x6))] [iV (s0)] 38 := by
  refine x_iload_n C 1 dL_stands_38 rfl ?_
  refine x_aload_n C 0 dL_stands_39 rfl ?_
  refine x_iconst C dL_stands_40 ?_
  refine x_callVi (K := 9) (rm := rmv 6 89 0 0) (As := [iV (5)]) (rest := [iV (x1), iV (s0)]) C hA hR0 mf_X8_property lk_L_94 rfl (isK_lit hdm rfl rfl) (by decide) ⟨rfl, rfl⟩ ⟨Nat.le_of_ble_eq_true rfl, Nat.le_of_ble_eq_true rfl⟩ rfl rfl (Nat.le_of_ble_eq_true rfl) hce dL_stands_41 hq (fun _ _ h => c_Y8_property g.l g.G hdm  h) (fun r2 w1 _ hq => ?_)
  refine x_icmp_ne (tgt := 51) C dL_stands_44 (by decide) hq (fun hq => ?_) (fun hq => ?_)
  · refine x_iconst C dL_stands_51 ?_
    exact L_L_stands_52 C hdm hA hR0 hce hR _ _ _ _ _ _ _ _ _ hq
  · refine x_iconst C dL_stands_47 ?_
    refine x_goto (tgt := 52) C dL_stands_48 (by decide) ?_
    exact L_L_stands_52 C hdm hA hR0 hce hR _ _ _ _ _ _ _ _ _ hq
set_option maxRecDepth 100000 in
set_option maxHeartbeats 4000000 in
theorem L_L_stands {g : Cx} {d : Dl} (C : CX g cL_stands 15 (some .boolean) RL) (hdm : g.dm = 0) (hA : ∀ q : Nat, g.s.heap.size ≤ q → g.A q) (hR0 : g.R = rmv 11 199 0 0) (hce : d.ce ≤ g.R.cells ∧ d.so ≤ g.R.slots) {res : Int × Wd} (hR : rtI g d cL_stands .boolean res)  (w : Wd) (hq : p_L_stands  w = some res) : XG g d (hP g d w) [(0, .ref (d.ad (1)))] [] 0 := by
  refine x_aload_n C 0 dL_stands_0 rfl ?_
  refine x_bipush (v := 6) C dL_stands_1 (by decide +kernel) ?_
  refine x_callVi (K := 9) (rm := rmv 6 89 0 0) (As := [iV (6)]) (rest := []) C hA hR0 mf_X8_property lk_L_94 rfl (isK_lit hdm rfl rfl) (by decide) ⟨rfl, rfl⟩ ⟨Nat.le_of_ble_eq_true rfl, Nat.le_of_ble_eq_true rfl⟩ rfl rfl (Nat.le_of_ble_eq_true rfl) hce dL_stands_3 hq (fun _ _ h => c_Y8_property g.l g.G hdm  h) (fun r2 w1 _ hq => ?_)
  refine x_istore_n (lv' := [(1, iV (r2)), (0, .ref (d.ad (1)))]) C dL_stands_6 (by decide) rfl ?_
  refine x_iconst C dL_stands_7 ?_
  refine x_istore_n (lv' := [(2, iV (0)), (1, iV (r2)), (0, .ref (d.ad (1)))]) C dL_stands_8 (by decide) rfl ?_
  refine x_iconst C dL_stands_9 ?_
  refine x_istore_n (lv' := [(3, iV (0)), (2, iV (0)), (1, iV (r2)), (0, .ref (d.ad (1)))]) C dL_stands_10 (by decide) rfl ?_
  refine x_iconst C dL_stands_11 ?_
  refine x_istore (lv' := [(4, iV (0)), (3, iV (0)), (2, iV (0)), (1, iV (r2)), (0, .ref (d.ad (1)))]) C dL_stands_12 (by decide) rfl ?_
  refine x_iconst C dL_stands_14 ?_
  refine x_istore (lv' := [(5, iV (0)), (4, iV (0)), (3, iV (0)), (2, iV (0)), (1, iV (r2)), (0, .ref (d.ad (1)))]) C dL_stands_15 (by decide) rfl ?_
  refine x_aload_n C 5 dL_stands_17 rfl ?_
  refine x_bipush (v := 8) C dL_stands_18 (by decide +kernel) ?_
  refine x_callVi (K := 9) (rm := rmv 6 89 0 0) (As := [iV (8)]) (rest := []) C hA hR0 mf_X8_property lk_L_94 rfl (isK_lit hdm rfl rfl) (by decide) ⟨rfl, rfl⟩ ⟨Nat.le_of_ble_eq_true rfl, Nat.le_of_ble_eq_true rfl⟩ rfl rfl (Nat.le_of_ble_eq_true rfl) hce dL_stands_20 hq (fun _ _ h => c_Y8_property g.l g.G hdm  h) (fun r4 w3 _ hq => ?_)
  refine x_istore (lv' := [(6, iV (r4)), (5, iV (0)), (4, iV (0)), (3, iV (0)), (2, iV (0)), (1, iV (r2)), (0, .ref (d.ad (1)))]) C dL_stands_23 (by decide) rfl ?_
  refine x_aload_n C 6 dL_stands_25 rfl ?_
  refine x_callVi (K := 9) (rm := rmv 0 0 0 0) (As := []) (rest := []) C hA hR0 mf_X8_firstMissing lk_L_185 rfl (isK_lit hdm rfl rfl) (by decide) ⟨rfl, rfl⟩ ⟨Nat.le_of_ble_eq_true rfl, Nat.le_of_ble_eq_true rfl⟩ rfl rfl (Nat.le_of_ble_eq_true rfl) hce dL_stands_26 hq (fun _ _ h => c_X8_firstMissing g.l g.G hdm  h) (fun r6 w5 _ hq => ?_)
  refine x_iconst C dL_stands_29 ?_
  refine x_icmp_ne (tgt := 37) C dL_stands_30 (by decide) hq (fun hq => ?_) (fun hq => ?_)
  · refine x_iconst C dL_stands_37 ?_
    refine XG.sub [6, 5, 4, 3, 2, 1, 0] rfl ?_
    exact L_L_stands_38 C hdm hA hR0 hce hR _ _ _ _ _ _ _ _ hq
  · refine x_iconst C dL_stands_33 ?_
    refine x_goto (tgt := 38) C dL_stands_34 (by decide) ?_
    refine XG.sub [6, 5, 4, 3, 2, 1, 0] rfl ?_
    exact L_L_stands_38 C hdm hA hR0 hce hR _ _ _ _ _ _ _ _ hq
set_option maxRecDepth 100000 in
set_option maxHeartbeats 4000000 in
theorem c_L_stands (l : Launch) (G : Gd) {dm na : Nat} {ad : Nat → Nat} (hdm : dm = 0)  {w w' : Wd} {r : Int}  (hq : p_L_stands  w = some (r, w')) : mI l yL_stands cL_stands 15 (some .boolean) (rmv 11 199 0 0) G dm na ad [.ref (ad (1))] w r w' := by
  refine met_I [(0, .ref (ad (1)))] (by decide) (Nat.le_of_ble_eq_true rfl) rfl .boolean rfl (fun g d C S hR => ?_)
  obtain ⟨rfl, hR0, rfl, rfl, rfl, hA⟩ := S
  exact L_L_stands (d := (na, ad, 0, 0)) C hdm hA hR0 ⟨Nat.zero_le _, Nat.zero_le _⟩ hR   w hq
