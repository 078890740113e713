set_option maxRecDepth 100000 in
set_option maxHeartbeats 4000000 in
theorem L_X5_put {g : Cx} {d : Dl} (C : CX g cX5_put 3 none RX5) (hdm : g.dm = 0) (hA : ∀ q : Nat, g.s.heap.size ≤ q → g.A q) (hR0 : g.R = rmv 0 0 0 0) (hce : d.ce ≤ g.R.cells ∧ d.so ≤ g.R.slots) {res : Wd} (hR : rtV g d cX5_put res) {o0 : Nat} (h0 : isK d.na g.dm 6 o0) (x1 : Int) (x2 : Int) (w : Wd) (hq : p_X5_put o0 x1 x2 w = some res) : XG g d (hP g d w) [(0, .ref (d.ad (o0))), (1, iV (x1)), (2, iV (x2))] [] 0 := by
  refine x_iload_n C 1 dX5_put_0 rfl ?_
  refine x_if_lt (tgt := 20) C dX5_put_1 (by decide) hq (fun hq => ?_) (fun hq => ?_)
  · exact hR _ _ _ hq dX5_put_20
  · refine x_iload_n C 1 dX5_put_4 rfl ?_
    refine x_aload_n C 0 dX5_put_5 rfl ?_
    refine x_getr (K := 6) (k := 0) (o2 := o0 + 1) C h0 (by decide) cl_X5 (by decide) ⟨rfl, rfl, rfl⟩ fl_X5_7 rfl dX5_put_6 ?_
    refine x_alen C (ik6 h0) dX5_put_9 ?_
    refine x_icmp_ge (tgt := 20) C dX5_put_10 (by decide) hq (fun hq => ?_) (fun hq => ?_)
    · exact hR _ _ _ hq dX5_put_20
    · refine x_aload_n C 0 dX5_put_13 rfl ?_
      refine x_getr (K := 6) (k := 0) (o2 := o0 + 1) C h0 (by decide) cl_X5 (by decide) ⟨rfl, rfl, rfl⟩ fl_X5_7 rfl dX5_put_14 ?_
      refine x_iload_n C 1 dX5_put_17 rfl ?_
      refine x_iload_n C 2 dX5_put_18 rfl ?_
      refine inb_2 hq (fun hi hq => ?_)
      refine x_iast C (ik6 h0) hi dX5_put_19 ?_
      exact hR _ _ _ hq dX5_put_20
set_option maxRecDepth 100000 in
set_option maxHeartbeats 4000000 in
theorem c_X5_put (l : Launch) (G : Gd) {dm na : Nat} {ad : Nat → Nat} (hdm : dm = 0) {o0 : Nat} {x1 : Int} {x2 : Int} {w w' : Wd}  (h0 : isK na dm 6 o0) (hq : p_X5_put o0 x1 x2 w = some w') : mV l yX5_put cX5_put 3 none (rmv 0 0 0 0) G dm na ad [.ref (ad (o0)), iV (x1), iV (x2)] w w' := by
  refine met_V [(0, .ref (ad (o0))), (1, iV (x1)), (2, iV (x2))] (by decide) (Nat.le_of_ble_eq_true rfl) rfl rfl (fun g d C S hR => ?_)
  obtain ⟨rfl, hR0, rfl, rfl, rfl, hA⟩ := S
  exact L_X5_put (d := (na, ad, 0, 0)) C hdm hA hR0 ⟨Nat.zero_le _, Nat.zero_le _⟩ hR h0 _ _ w hq
set_option maxRecDepth 100000 in
set_option maxHeartbeats 4000000 in
theorem L_X0_add {g : Cx} {d : Dl} (C : CX g cX0_add 2 none RX0) (hdm : g.dm = 0) (hA : ∀ q : Nat, g.s.heap.size ≤ q → g.A q) (hR0 : g.R = rmv 1 22 0 0) (hce : d.ce ≤ g.R.cells ∧ d.so ≤ g.R.slots) {res : Wd} (hR : rtV g d cX0_add res) {o0 : Nat} (h0 : isK d.na g.dm 1 o0) (x1 : Int) (w : Wd) (hq : p_X0_add o0 x1 w = some res) : XG g d (hP g d w) [(0, .ref (d.ad (o0))), (1, iV (x1))] [] 0 := by
  refine x_aload_n C 0 dX0_add_0 rfl ?_
  refine x_getr (K := 1) (k := 0) (o2 := o0 + 1) C h0 (by decide) cl_X0 (by decide) ⟨rfl, rfl, rfl⟩ fl_X0_18 rfl dX0_add_1 ?_
  refine x_aload_n C 0 dX0_add_4 rfl ?_
  refine x_get (K := 1) (k := 1) C h0 (by decide) cl_X0 (by decide) ⟨rfl, rfl, rfl⟩ fl_X0_7 dX0_add_5 ?_
  refine x_iload_n C 1 dX0_add_8 rfl ?_
  refine x_sipush (v := 255) C dX0_add_9 (by decide +kernel) ?_
  refine x_iand C dX0_add_12 ?_
  refine x_callVv (K := 6) (rm := rmv 0 0 0 0) (As := [iV (gF w o0 1), iV (an32 x1 255)]) (rest := []) C hA hR0 mf_X5_put lk_X0_22 rfl (ik1 h0) (by decide) ⟨rfl, rfl⟩ ⟨Nat.le_of_ble_eq_true rfl, Nat.le_of_ble_eq_true rfl⟩ rfl rfl (Nat.le_of_ble_eq_true rfl) hce dX0_add_13 hq (fun _ h => c_X5_put g.l g.G hdm (ik1 h0) h) (fun w1 _ hq => ?_)
  refine x_aload_n C 0 dX0_add_16 rfl ?_
  refine x_dup C rfl dX0_add_17 ?_
  refine x_get (K := 1) (k := 1) C h0 (by decide) cl_X0 (by decide) ⟨rfl, rfl, rfl⟩ fl_X0_7 dX0_add_18 ?_
  refine x_iconst C dX0_add_21 ?_
  refine x_iadd C dX0_add_22 ?_
  refine x_put (K := 1) (k := 1) C h0 (by decide) cl_X0 (by decide) ⟨rfl, rfl, rfl, rfl⟩ fl_X0_7 ⟨rfl, rfl⟩ dX0_add_23 ?_
  exact hR _ _ _ hq dX0_add_26
set_option maxRecDepth 100000 in
set_option maxHeartbeats 4000000 in
theorem c_X0_add (l : Launch) (G : Gd) {dm na : Nat} {ad : Nat → Nat} (hdm : dm = 0) {o0 : Nat} {x1 : Int} {w w' : Wd}  (h0 : isK na dm 1 o0) (hq : p_X0_add o0 x1 w = some w') : mV l yX0_add cX0_add 2 none (rmv 1 22 0 0) G dm na ad [.ref (ad (o0)), iV (x1)] w w' := by
  refine met_V [(0, .ref (ad (o0))), (1, iV (x1))] (by decide) (Nat.le_of_ble_eq_true rfl) rfl rfl (fun g d C S hR => ?_)
  obtain ⟨rfl, hR0, rfl, rfl, rfl, hA⟩ := S
  exact L_X0_add (d := (na, ad, 0, 0)) C hdm hA hR0 ⟨Nat.zero_le _, Nat.zero_le _⟩ hR h0 _ w hq
set_option maxRecDepth 100000 in
set_option maxHeartbeats 4000000 in
theorem L_X0_addFour {g : Cx} {d : Dl} (C : CX g cX0_addFour 2 none RX0) (hdm : g.dm = 0) (hA : ∀ q : Nat, g.s.heap.size ≤ q → g.A q) (hR0 : g.R = rmv 2 43 0 0) (hce : d.ce ≤ g.R.cells ∧ d.so ≤ g.R.slots) {res : Wd} (hR : rtV g d cX0_addFour res) {o0 : Nat} (h0 : isK d.na g.dm 1 o0) (x1 : Int) (w : Wd) (hq : p_X0_addFour o0 x1 w = some res) : XG g d (hP g d w) [(0, .ref (d.ad (o0))), (1, iV (x1))] [] 0 := by
  refine x_aload_n C 0 dX0_addFour_0 rfl ?_
  refine x_iload_n C 1 dX0_addFour_1 rfl ?_
  refine x_bipush (v := 24) C dX0_addFour_2 (by decide +kernel) ?_
  refine x_iushr C dX0_addFour_4 ?_
  refine x_callVv (K := 1) (rm := rmv 1 22 0 0) (As := [iV (us32 x1 24)]) (rest := []) C hA hR0 mf_X0_add lk_X0_26 rfl h0 (by decide) ⟨rfl, rfl⟩ ⟨Nat.le_of_ble_eq_true rfl, Nat.le_of_ble_eq_true rfl⟩ rfl rfl (Nat.le_of_ble_eq_true rfl) hce dX0_addFour_5 hq (fun _ h => c_X0_add g.l g.G hdm h0 h) (fun w1 _ hq => ?_)
  refine x_aload_n C 0 dX0_addFour_8 rfl ?_
  refine x_iload_n C 1 dX0_addFour_9 rfl ?_
  refine x_bipush (v := 16) C dX0_addFour_10 (by decide +kernel) ?_
  refine x_iushr C dX0_addFour_12 ?_
  refine x_callVv (K := 1) (rm := rmv 1 22 0 0) (As := [iV (us32 x1 16)]) (rest := []) C hA hR0 mf_X0_add lk_X0_26 rfl h0 (by decide) ⟨rfl, rfl⟩ ⟨Nat.le_of_ble_eq_true rfl, Nat.le_of_ble_eq_true rfl⟩ rfl rfl (Nat.le_of_ble_eq_true rfl) hce dX0_addFour_13 hq (fun _ h => c_X0_add g.l g.G hdm h0 h) (fun w2 _ hq => ?_)
  refine x_aload_n C 0 dX0_addFour_16 rfl ?_
  refine x_iload_n C 1 dX0_addFour_17 rfl ?_
  refine x_bipush (v := 8) C dX0_addFour_18 (by decide +kernel) ?_
  refine x_iushr C dX0_addFour_20 ?_
  refine x_callVv (K := 1) (rm := rmv 1 22 0 0) (As := [iV (us32 x1 8)]) (rest := []) C hA hR0 mf_X0_add lk_X0_26 rfl h0 (by decide) ⟨rfl, rfl⟩ ⟨Nat.le_of_ble_eq_true rfl, Nat.le_of_ble_eq_true rfl⟩ rfl rfl (Nat.le_of_ble_eq_true rfl) hce dX0_addFour_21 hq (fun _ h => c_X0_add g.l g.G hdm h0 h) (fun w3 _ hq => ?_)
  refine x_aload_n C 0 dX0_addFour_24 rfl ?_
  refine x_iload_n C 1 dX0_addFour_25 rfl ?_
  refine x_callVv (K := 1) (rm := rmv 1 22 0 0) (As := [iV (x1)]) (rest := []) C hA hR0 mf_X0_add lk_X0_26 rfl h0 (by decide) ⟨rfl, rfl⟩ ⟨Nat.le_of_ble_eq_true rfl, Nat.le_of_ble_eq_true rfl⟩ rfl rfl (Nat.le_of_ble_eq_true rfl) hce dX0_addFour_26 hq (fun _ h => c_X0_add g.l g.G hdm h0 h) (fun w4 _ hq => ?_)
  exact hR _ _ _ hq dX0_addFour_29
set_option maxRecDepth 100000 in
set_option maxHeartbeats 4000000 in
theorem c_X0_addFour (l : Launch) (G : Gd) {dm na : Nat} {ad : Nat → Nat} (hdm : dm = 0) {o0 : Nat} {x1 : Int} {w w' : Wd}  (h0 : isK na dm 1 o0) (hq : p_X0_addFour o0 x1 w = some w') : mV l yX0_addFour cX0_addFour 2 none (rmv 2 43 0 0) G dm na ad [.ref (ad (o0)), iV (x1)] w w' := by
  refine met_V [(0, .ref (ad (o0))), (1, iV (x1))] (by decide) (Nat.le_of_ble_eq_true rfl) rfl rfl (fun g d C S hR => ?_)
  obtain ⟨rfl, hR0, rfl, rfl, rfl, hA⟩ := S
  exact L_X0_addFour (d := (na, ad, 0, 0)) C hdm hA hR0 ⟨Nat.zero_le _, Nat.zero_le _⟩ hR h0 _ w hq
set_option maxRecDepth 100000 in
set_option maxHeartbeats 4000000 in
theorem L_X8_append {g : Cx} {d : Dl} (C : CX g cX8_append 6 (some .int) RX8) (hdm : g.dm = 0) (hA : ∀ q : Nat, g.s.heap.size ≤ q → g.A q) (hR0 : g.R = rmv 6 89 1 6) (hce : d.ce + 1 ≤ 1 ∧ d.so + 6 ≤ 6) {na0 : Nat} {ad0 : Nat → Nat} {res : Rz} (hT : thC g na0 ad0 1 6 res) (hR : RGI g na0 ad0 cX8_append .int 1 6 res) (hag : AG na0 ad0 d) (x1 : Int) (x2 : Int) (x3 : Int) (x4 : Int) (x5 : Int) (w : Wd) (hq : p_X8_append x1 x2 x3 x4 x5 d.na w = some res) : XG g d (hP g d w) [(0, .ref (d.ad (1))), (1, iV (x1)), (2, iV (x2)), (3, iV (x3)), (4, iV (x4)), (5, iV (x5))] [] 0 := by
  refine x_aload_n C 0 dX8_append_0 rfl ?_
  refine x_getr (K := 9) (k := 0) (o2 := 2) C (isK_lit hdm rfl rfl) (by decide) cl_X8 (by decide) ⟨rfl, rfl, rfl⟩ fl_X8_14 rfl dX8_append_1 ?_
  refine x_get (K := 1) (k := 1) C (isK_lit hdm rfl rfl) (by decide) cl_X0 (by decide) ⟨rfl, rfl, rfl⟩ fl_X8_77 dX8_append_4 ?_
  refine x_sipush (v := 480) C dX8_append_7 (by decide +kernel) ?_
  refine x_icmp_le (tgt := 21) C dX8_append_10 (by decide) hq (fun hq => ?_) (fun hq => ?_)
  · refine x_aload_n C 0 dX8_append_21 rfl ?_
    refine x_getr (K := 9) (k := 0) (o2 := 2) C (isK_lit hdm rfl rfl) (by decide) cl_X8 (by decide) ⟨rfl, rfl, rfl⟩ fl_X8_14 rfl dX8_append_22 ?_
    refine x_iload_n C 1 dX8_append_25 rfl ?_
    refine x_callVv (K := 1) (rm := rmv 2 43 0 0) (As := [iV (x1)]) (rest := []) C hA hR0 mf_X0_addFour lk_X8_84 rfl (isK_lit hdm rfl rfl) (by decide) ⟨rfl, rfl⟩ ⟨Nat.le_of_ble_eq_true rfl, Nat.le_of_ble_eq_true rfl⟩ rfl rfl (Nat.le_of_ble_eq_true rfl) (gce hR0 hce) dX8_append_26 hq (fun _ h => c_X0_addFour g.l g.G hdm (isK_lit hdm rfl rfl) h) (fun w1 _ hq => ?_)
    refine x_aload_n C 0 dX8_append_29 rfl ?_
    refine x_getr (K := 9) (k := 0) (o2 := 2) C (isK_lit hdm rfl rfl) (by decide) cl_X8 (by decide) ⟨rfl, rfl, rfl⟩ fl_X8_14 rfl dX8_append_30 ?_
    refine x_iload_n C 2 dX8_append_33 rfl ?_
    refine x_callVv (K := 1) (rm := rmv 2 43 0 0) (As := [iV (x2)]) (rest := []) C hA hR0 mf_X0_addFour lk_X8_84 rfl (isK_lit hdm rfl rfl) (by decide) ⟨rfl, rfl⟩ ⟨Nat.le_of_ble_eq_true rfl, Nat.le_of_ble_eq_true rfl⟩ rfl rfl (Nat.le_of_ble_eq_true rfl) (gce hR0 hce) dX8_append_34 hq (fun _ h => c_X0_addFour g.l g.G hdm (isK_lit hdm rfl rfl) h) (fun w2 _ hq => ?_)
    refine x_aload_n C 0 dX8_append_37 rfl ?_
    refine x_getr (K := 9) (k := 0) (o2 := 2) C (isK_lit hdm rfl rfl) (by decide) cl_X8 (by decide) ⟨rfl, rfl, rfl⟩ fl_X8_14 rfl dX8_append_38 ?_
    refine x_iload_n C 3 dX8_append_41 rfl ?_
    refine x_callVv (K := 1) (rm := rmv 2 43 0 0) (As := [iV (x3)]) (rest := []) C hA hR0 mf_X0_addFour lk_X8_84 rfl (isK_lit hdm rfl rfl) (by decide) ⟨rfl, rfl⟩ ⟨Nat.le_of_ble_eq_true rfl, Nat.le_of_ble_eq_true rfl⟩ rfl rfl (Nat.le_of_ble_eq_true rfl) (gce hR0 hce) dX8_append_42 hq (fun _ h => c_X0_addFour g.l g.G hdm (isK_lit hdm rfl rfl) h) (fun w3 _ hq => ?_)
    refine x_aload_n C 0 dX8_append_45 rfl ?_
    refine x_getr (K := 9) (k := 0) (o2 := 2) C (isK_lit hdm rfl rfl) (by decide) cl_X8 (by decide) ⟨rfl, rfl, rfl⟩ fl_X8_14 rfl dX8_append_46 ?_
    refine x_iload C 4 dX8_append_49 rfl ?_
    refine x_callVv (K := 1) (rm := rmv 2 43 0 0) (As := [iV (x4)]) (rest := []) C hA hR0 mf_X0_addFour lk_X8_84 rfl (isK_lit hdm rfl rfl) (by decide) ⟨rfl, rfl⟩ ⟨Nat.le_of_ble_eq_true rfl, Nat.le_of_ble_eq_true rfl⟩ rfl rfl (Nat.le_of_ble_eq_true rfl) (gce hR0 hce) dX8_append_51 hq (fun _ h => c_X0_addFour g.l g.G hdm (isK_lit hdm rfl rfl) h) (fun w4 _ hq => ?_)
    refine x_aload_n C 0 dX8_append_54 rfl ?_
    refine x_getr (K := 9) (k := 0) (o2 := 2) C (isK_lit hdm rfl rfl) (by decide) cl_X8 (by decide) ⟨rfl, rfl, rfl⟩ fl_X8_14 rfl dX8_append_55 ?_
    refine x_iload C 5 dX8_append_58 rfl ?_
    refine x_callVv (K := 1) (rm := rmv 2 43 0 0) (As := [iV (x5)]) (rest := []) C hA hR0 mf_X0_addFour lk_X8_84 rfl (isK_lit hdm rfl rfl) (by decide) ⟨rfl, rfl⟩ ⟨Nat.le_of_ble_eq_true rfl, Nat.le_of_ble_eq_true rfl⟩ rfl rfl (Nat.le_of_ble_eq_true rfl) (gce hR0 hce) dX8_append_60 hq (fun _ h => c_X0_addFour g.l g.G hdm (isK_lit hdm rfl rfl) h) (fun w5 _ hq => ?_)
    refine x_aload_n C 0 dX8_append_63 rfl ?_
    refine x_getr (K := 9) (k := 0) (o2 := 2) C (isK_lit hdm rfl rfl) (by decide) cl_X8 (by decide) ⟨rfl, rfl, rfl⟩ fl_X8_14 rfl dX8_append_64 ?_
    refine x_get (K := 1) (k := 1) C (isK_lit hdm rfl rfl) (by decide) cl_X0 (by decide) ⟨rfl, rfl, rfl⟩ fl_X8_77 dX8_append_67 ?_
    exact hR.1 _ _ _ _ _ hag (gcd hce) hq rfl dX8_append_70
  · exact x_gthrow C hT hR0 th1 hag (gcc hR0 hce (by decide) (by decide)).2 ⟨rfl, rfl⟩ ⟨Nat.le_of_ble_eq_true rfl, Nat.le_of_ble_eq_true rfl⟩ hq dX8_append_13 dX8_append_16 dX8_append_17 dX8_append_20
set_option maxRecDepth 100000 in
set_option maxHeartbeats 4000000 in
theorem c_X8_append (l : Launch) (G : Gd) (hfl : l.stackTraces = false) {dm na : Nat} {ad : Nat → Nat} (hdm : dm = 0) {x1 : Int} {x2 : Int} {x3 : Int} {x4 : Int} {x5 : Int} {w : Wd} {res : Rz}  (hq : p_X8_append x1 x2 x3 x4 x5 na w = some res) : mGI l yX8_append cX8_append 6 (some .int) (rmv 6 89 1 6) G dm na ad [.ref (ad (1)), iV (x1), iV (x2), iV (x3), iV (x4), iV (x5)] w res 1 6 := by
  refine met_GI hfl [(0, .ref (ad (1))), (1, iV (x1)), (2, iV (x2)), (3, iV (x3)), (4, iV (x4)), (5, iV (x5))] (by decide) (Nat.le_of_ble_eq_true rfl) rfl .int rfl (fun g d C S hT hR => ?_)
  obtain ⟨rfl, hR0, rfl, rfl, rfl, hA⟩ := S
  exact L_X8_append (d := (na, ad, 0, 0)) C hdm hA hR0 ⟨Nat.le_of_ble_eq_true rfl, Nat.le_of_ble_eq_true rfl⟩ hT hR (AG.rf (na, ad, 0, 0))  _ _ _ _ _ w hq
set_option maxRecDepth 100000 in
set_option maxHeartbeats 4000000 in
theorem L_X8_truncate_15 {g : Cx} {d : Dl} (C : CX g cX8_truncate 2 none RX8) (hdm : g.dm = 0) (hA : ∀ q : Nat, g.s.heap.size ≤ q → g.A q) (hR0 : g.R = rmv 6 89 1 6) (hce : d.ce + 1 ≤ 1 ∧ d.so + 6 ≤ 6) {na0 : Nat} {ad0 : Nat → Nat} {res : Rz} (hT : thC g na0 ad0 1 6 res) (hR : RGV g na0 ad0 cX8_truncate 1 6 res) (hag : AG na0 ad0 d)  (w : Wd) (hq : p_X8_truncate_15 d.na w = some res) : XG g d (hP g d w) [] [] 15 := by
  exact x_gthrow C hT hR0 th2 hag (gcc hR0 hce (by decide) (by decide)).2 ⟨rfl, rfl⟩ ⟨Nat.le_of_ble_eq_true rfl, Nat.le_of_ble_eq_true rfl⟩ hq dX8_truncate_15 dX8_truncate_18 dX8_truncate_19 dX8_truncate_22
set_option maxRecDepth 100000 in
set_option maxHeartbeats 4000000 in
theorem L_X8_truncate {g : Cx} {d : Dl} (C : CX g cX8_truncate 2 none RX8) (hdm : g.dm = 0) (hA : ∀ q : Nat, g.s.heap.size ≤ q → g.A q) (hR0 : g.R = rmv 6 89 1 6) (hce : d.ce + 1 ≤ 1 ∧ d.so + 6 ≤ 6) {na0 : Nat} {ad0 : Nat → Nat} {res : Rz} (hT : thC g na0 ad0 1 6 res) (hR : RGV g na0 ad0 cX8_truncate 1 6 res) (hag : AG na0 ad0 d) (x1 : Int) (w : Wd) (hq : p_X8_truncate x1 d.na w = some res) : XG g d (hP g d w) [(0, .ref (d.ad (1))), (1, iV (x1))] [] 0 := by
  refine x_iload_n C 1 dX8_truncate_0 rfl ?_
  refine x_if_lt (tgt := 15) C dX8_truncate_1 (by decide) hq (fun hq => ?_) (fun hq => ?_)
  · refine XG.sub [] rfl ?_
    exact L_X8_truncate_15 C hdm hA hR0 hce hT hR hag _ hq
  · refine x_iload_n C 1 dX8_truncate_4 rfl ?_
    refine x_aload_n C 0 dX8_truncate_5 rfl ?_
    refine x_getr (K := 9) (k := 0) (o2 := 2) C (isK_lit hdm rfl rfl) (by decide) cl_X8 (by decide) ⟨rfl, rfl, rfl⟩ fl_X8_14 rfl dX8_truncate_6 ?_
    refine x_get (K := 1) (k := 1) C (isK_lit hdm rfl rfl) (by decide) cl_X0 (by decide) ⟨rfl, rfl, rfl⟩ fl_X8_77 dX8_truncate_9 ?_
    refine x_icmp_le (tgt := 23) C dX8_truncate_12 (by decide) hq (fun hq => ?_) (fun hq => ?_)
    · refine x_aload_n C 0 dX8_truncate_23 rfl ?_
      refine x_getr (K := 9) (k := 0) (o2 := 2) C (isK_lit hdm rfl rfl) (by decide) cl_X8 (by decide) ⟨rfl, rfl, rfl⟩ fl_X8_14 rfl dX8_truncate_24 ?_
      refine x_iload_n C 1 dX8_truncate_27 rfl ?_
      refine x_put (K := 1) (k := 1) C (isK_lit hdm rfl rfl) (by decide) cl_X0 (by decide) ⟨rfl, rfl, rfl, rfl⟩ fl_X8_77 ⟨rfl, rfl⟩ dX8_truncate_28 ?_
      exact hR.1 _ _ _ _ hag (gcd hce) hq dX8_truncate_31
    · refine XG.sub [] rfl ?_
      exact L_X8_truncate_15 C hdm hA hR0 hce hT hR hag _ hq
set_option maxRecDepth 100000 in
set_option maxHeartbeats 4000000 in
theorem c_X8_truncate (l : Launch) (G : Gd) (hfl : l.stackTraces = false) {dm na : Nat} {ad : Nat → Nat} (hdm : dm = 0) {x1 : Int} {w : Wd} {res : Rz}  (hq : p_X8_truncate x1 na w = some res) : mGV l yX8_truncate cX8_truncate 2 none (rmv 6 89 1 6) G dm na ad [.ref (ad (1)), iV (x1)] w res 1 6 := by
  refine met_GV hfl [(0, .ref (ad (1))), (1, iV (x1))] (by decide) (Nat.le_of_ble_eq_true rfl) rfl rfl (fun g d C S hT hR => ?_)
  obtain ⟨rfl, hR0, rfl, rfl, rfl, hA⟩ := S
  exact L_X8_truncate (d := (na, ad, 0, 0)) C hdm hA hR0 ⟨Nat.le_of_ble_eq_true rfl, Nat.le_of_ble_eq_true rfl⟩ hT hR (AG.rf (na, ad, 0, 0))  _ w hq
set_option maxRecDepth 100000 in
set_option maxHeartbeats 4000000 in
theorem L_X5_at {g : Cx} {d : Dl} (C : CX g cX5_at 2 (some .int) RX5) (hdm : g.dm = 0) (hA : ∀ q : Nat, g.s.heap.size ≤ q → g.A q) (hR0 : g.R = rmv 0 0 0 0) (hce : d.ce ≤ g.R.cells ∧ d.so ≤ g.R.slots) {res : Int × Wd} (hR : rtI g d cX5_at .int res) {o0 : Nat} (h0 : isK d.na g.dm 6 o0) (x1 : Int) (w : Wd) (hq : p_X5_at o0 x1 w = some res) : XG g d (hP g d w) [(0, .ref (d.ad (o0))), (1, iV (x1))] [] 0 := by
  refine x_iload_n C 1 dX5_at_0 rfl ?_
  refine x_if_lt (tgt := 22) C dX5_at_1 (by decide) hq (fun hq => ?_) (fun hq => ?_)
  · refine x_iconst C dX5_at_22 ?_
    exact hR _ _ _ _ hq rfl dX5_at_23
  · refine x_iload_n C 1 dX5_at_4 rfl ?_
    refine x_aload_n C 0 dX5_at_5 rfl ?_
    refine x_getr (K := 6) (k := 0) (o2 := o0 + 1) C h0 (by decide) cl_X5 (by decide) ⟨rfl, rfl, rfl⟩ fl_X5_7 rfl dX5_at_6 ?_
    refine x_alen C (ik6 h0) dX5_at_9 ?_
    refine x_icmp_ge (tgt := 22) C dX5_at_10 (by decide) hq (fun hq => ?_) (fun hq => ?_)
    · refine x_iconst C dX5_at_22 ?_
      exact hR _ _ _ _ hq rfl dX5_at_23
    · refine x_aload_n C 0 dX5_at_13 rfl ?_
      refine x_getr (K := 6) (k := 0) (o2 := o0 + 1) C h0 (by decide) cl_X5 (by decide) ⟨rfl, rfl, rfl⟩ fl_X5_7 rfl dX5_at_14 ?_
      refine x_iload_n C 1 dX5_at_17 rfl ?_
      refine inb_2 hq (fun hi hq => ?_)
      refine x_iald C (ik6 h0) hi dX5_at_18 ?_
      refine x_goto (tgt := 23) C dX5_at_19 (by decide) ?_
      exact hR _ _ _ _ hq rfl dX5_at_23
set_option maxRecDepth 100000 in
set_option maxHeartbeats 4000000 in
theorem c_X5_at (l : Launch) (G : Gd) {dm na : Nat} {ad : Nat → Nat} (hdm : dm = 0) {o0 : Nat} {x1 : Int} {w w' : Wd} {r : Int} (h0 : isK na dm 6 o0) (hq : p_X5_at o0 x1 w = some (r, w')) : mI l yX5_at cX5_at 2 (some .int) (rmv 0 0 0 0) G dm na ad [.ref (ad (o0)), iV (x1)] w r w' := by
  refine met_I [(0, .ref (ad (o0))), (1, iV (x1))] (by decide) (Nat.le_of_ble_eq_true rfl) rfl .int rfl (fun g d C S hR => ?_)
  obtain ⟨rfl, hR0, rfl, rfl, rfl, hA⟩ := S
  exact L_X5_at (d := (na, ad, 0, 0)) C hdm hA hR0 ⟨Nat.zero_le _, Nat.zero_le _⟩ hR h0 _ w hq
set_option maxRecDepth 100000 in
set_option maxHeartbeats 4000000 in
theorem L_X7_kindOf_14 {g : Cx} {d : Dl} (C : CX g cX7_kindOf 1 (some .int) RX7) (hdm : g.dm = 0) (hA : ∀ q : Nat, g.s.heap.size ≤ q → g.A q) (hR0 : g.R = rmv 0 0 0 0) (hce : d.ce ≤ g.R.cells ∧ d.so ≤ g.R.slots) {res : Int × Wd} (hR : rtI g d cX7_kindOf .int res) (x0 : Int) (w : Wd) (hq : p_X7_kindOf_14 x0 w = some res) : XG g d (hP g d w) [(0, iV (x0))] [] 14 := by
  refine x_iload_n C 0 dX7_kindOf_14 rfl ?_
  refine x_bipush (v := 48) C dX7_kindOf_15 (by decide +kernel) ?_
  refine x_icmp_lt (tgt := 30) C dX7_kindOf_17 (by decide) hq (fun hq => ?_) (fun hq => ?_)
  · refine x_iconst C dX7_kindOf_30 ?_
    exact hR _ _ _ _ hq rfl dX7_kindOf_31
  · refine x_iload_n C 0 dX7_kindOf_20 rfl ?_
    refine x_bipush (v := 57) C dX7_kindOf_21 (by decide +kernel) ?_
    refine x_icmp_gt (tgt := 30) C dX7_kindOf_23 (by decide) hq (fun hq => ?_) (fun hq => ?_)
    · refine x_iconst C dX7_kindOf_30 ?_
      exact hR _ _ _ _ hq rfl dX7_kindOf_31
    · refine x_iconst C dX7_kindOf_26 ?_
      refine x_goto (tgt := 31) C dX7_kindOf_27 (by decide) ?_
      exact hR _ _ _ _ hq rfl dX7_kindOf_31
set_option maxRecDepth 100000 in
set_option maxHeartbeats 4000000 in
theorem L_X7_kindOf {g : Cx} {d : Dl} (C : CX g cX7_kindOf 1 (some .int) RX7) (hdm : g.dm = 0) (hA : ∀ q : Nat, g.s.heap.size ≤ q → g.A q) (hR0 : g.R = rmv 0 0 0 0) (hce : d.ce ≤ g.R.cells ∧ d.so ≤ g.R.slots) {res : Int × Wd} (hR : rtI g d cX7_kindOf .int res) (x0 : Int) (w : Wd) (hq : p_X7_kindOf x0 w = some res) : XG g d (hP g d w) [(0, iV (x0))] [] 0 := by
  refine x_iload_n C 0 dX7_kindOf_0 rfl ?_
  refine x_bipush (v := 97) C dX7_kindOf_1 (by decide +kernel) ?_
  refine x_icmp_lt (tgt := 14) C dX7_kindOf_3 (by decide) hq (fun hq => ?_) (fun hq => ?_)
  · exact L_X7_kindOf_14 C hdm hA hR0 hce hR _ _ hq
  · refine x_iload_n C 0 dX7_kindOf_6 rfl ?_
    refine x_bipush (v := 122) C dX7_kindOf_7 (by decide +kernel) ?_
    refine x_icmp_gt (tgt := 14) C dX7_kindOf_9 (by decide) hq (fun hq => ?_) (fun hq => ?_)
    · exact L_X7_kindOf_14 C hdm hA hR0 hce hR _ _ hq
    · refine x_iconst C dX7_kindOf_12 ?_
      exact hR _ _ _ _ hq rfl dX7_kindOf_13
set_option maxRecDepth 100000 in
set_option maxHeartbeats 4000000 in
theorem c_X7_kindOf (l : Launch) (G : Gd) {dm na : Nat} {ad : Nat → Nat} (hdm : dm = 0) {x0 : Int} {w w' : Wd} {r : Int}  (hq : p_X7_kindOf x0 w = some (r, w')) : mI l yX7_kindOf cX7_kindOf 1 (some .int) (rmv 0 0 0 0) G dm na ad [iV (x0)] w r w' := by
  refine met_I [(0, iV (x0))] (by decide) (Nat.le_of_ble_eq_true rfl) rfl .int rfl (fun g d C S hR => ?_)
  obtain ⟨rfl, hR0, rfl, rfl, rfl, hA⟩ := S
  exact L_X7_kindOf (d := (na, ad, 0, 0)) C hdm hA hR0 ⟨Nat.zero_le _, Nat.zero_le _⟩ hR  _ w hq
set_option maxRecDepth 100000 in
set_option maxHeartbeats 4000000 in
theorem L_X7_step_53 {g : Cx} {d : Dl} (C : CX g cX7_step 2 none RX7) (hdm : g.dm = 0) (hA : ∀ q : Nat, g.s.heap.size ≤ q → g.A q) (hR0 : g.R = rmv 1 21 0 0) (hce : d.ce ≤ g.R.cells ∧ d.so ≤ g.R.slots) {res : Wd} (hR : rtV g d cX7_step res) {k10 : Int → Wd → Option (Wd)} (hk10 : ∀ (x1 : Int) (w : Wd), k10 x1 w = some res → XG g d (hP g d w) [(0, .ref (d.ad (8))), (1, iV (x1))] [] 10) (x1 : Int) (w : Wd) (hq : p_X7_step_53 k10 x1 w = some res) : XG g d (hP g d w) [(0, .ref (d.ad (8))), (1, iV (x1))] [] 53 := by
  refine x_iinc (lv' := [(1, iV (x1 + 1)), (0, .ref (d.ad (8)))]) C 1 dX7_step_53 rfl (by decide) rfl ?_
  refine x_goto (tgt := 10) C dX7_step_56 (by decide) ?_
  refine XG.sub [1, 0] rfl ?_
  exact hk10 _ _ hq
set_option maxRecDepth 100000 in
set_option maxHeartbeats 4000000 in
theorem L_X7_step_153 {g : Cx} {d : Dl} (C : CX g cX7_step 2 none RX7) (hdm : g.dm = 0) (hA : ∀ q : Nat, g.s.heap.size ≤ q → g.A q) (hR0 : g.R = rmv 1 21 0 0) (hce : d.ce ≤ g.R.cells ∧ d.so ≤ g.R.slots) {res : Wd} (hR : rtV g d cX7_step res) (x1 : Int) (w : Wd) (hq : p_X7_step_153 x1 w = some res) : XG g d (hP g d w) [(0, .ref (d.ad (8))), (1, iV (x1))] [] 153 := by
  refine x_aload_n C 0 dX7_step_153 rfl ?_
  refine x_iload_n C 1 dX7_step_154 rfl ?_
  refine x_aload_n C 0 dX7_step_155 rfl ?_
  refine x_get (K := 8) (k := 2) C (isK_lit hdm rfl rfl) (by decide) cl_X7 (by decide) ⟨rfl, rfl, rfl⟩ fl_X7_15 dX7_step_156 ?_
  refine x_isub C dX7_step_159 ?_
  refine x_put (K := 8) (k := 3) C (isK_lit hdm rfl rfl) (by decide) cl_X7 (by decide) ⟨rfl, rfl, rfl, rfl⟩ fl_X7_18 ⟨rfl, rfl⟩ dX7_step_160 ?_
  exact hR _ _ _ hq dX7_step_163
set_option maxRecDepth 100000 in
set_option maxHeartbeats 4000000 in
theorem L_X7_step_107 {g : Cx} {d : Dl} (C : CX g cX7_step 2 none RX7) (hdm : g.dm = 0) (hA : ∀ q : Nat, g.s.heap.size ≤ q → g.A q) (hR0 : g.R = rmv 1 21 0 0) (hce : d.ce ≤ g.R.cells ∧ d.so ≤ g.R.slots) {res : Wd} (hR : rtV g d cX7_step res) : ∀ (n : Nat) (x1 : Int) (w : Wd), p_X7_step_107 n x1 w = some res → XG g d (hP g d w) [(0, .ref (d.ad (8))), (1, iV (x1))] [] 107 := by
  intro n
  induction n with
  | zero => intro x1 w  hq; exact nomatch (show none = some _ from hq)
  | succ n ih =>
    intro x1 w  hq
    refine x_iload_n C 1 dX7_step_107 rfl ?_
    refine x_aload_n C 0 dX7_step_108 rfl ?_
    refine x_getr (K := 8) (k := 0) (o2 := 2) C (isK_lit hdm rfl rfl) (by decide) cl_X7 (by decide) ⟨rfl, rfl, rfl⟩ fl_X7_21 rfl dX7_step_109 ?_
    refine x_get (K := 1) (k := 1) C (isK_lit hdm rfl rfl) (by decide) cl_X0 (by decide) ⟨rfl, rfl, rfl⟩ fl_X7_28 dX7_step_112 ?_
    refine x_icmp_ge (tgt := 153) C dX7_step_115 (by decide) hq (fun hq => ?_) (fun hq => ?_)
    · exact L_X7_step_153 C hdm hA hR0 hce hR _ _ hq
    · refine x_aload_n C 0 dX7_step_118 rfl ?_
      refine x_get (K := 8) (k := 1) C (isK_lit hdm rfl rfl) (by decide) cl_X7 (by decide) ⟨rfl, rfl, rfl⟩ fl_X7_11 dX7_step_119 ?_
      refine x_iconst C dX7_step_122 ?_
      refine x_icmp_eq (tgt := 153) C dX7_step_123 (by decide) hq (fun hq => ?_) (fun hq => ?_)
      · exact L_X7_step_153 C hdm hA hR0 hce hR _ _ hq
      · refine x_aload_n C 0 dX7_step_126 rfl ?_
        refine x_getr (K := 8) (k := 0) (o2 := 2) C (isK_lit hdm rfl rfl) (by decide) cl_X7 (by decide) ⟨rfl, rfl, rfl⟩ fl_X7_21 rfl dX7_step_127 ?_
        refine x_getr (K := 1) (k := 0) (o2 := 3) C (isK_lit hdm rfl rfl) (by decide) cl_X0 (by decide) ⟨rfl, rfl, rfl⟩ fl_X7_31 rfl dX7_step_130 ?_
        refine x_iload_n C 1 dX7_step_133 rfl ?_
        refine x_callVi (K := 6) (rm := rmv 0 0 0 0) (As := [iV (x1)]) (rest := []) C hA hR0 mf_X5_at lk_X7_35 rfl (isK_lit hdm rfl rfl) (by decide) ⟨rfl, rfl⟩ ⟨Nat.le_of_ble_eq_true rfl, Nat.le_of_ble_eq_true rfl⟩ rfl rfl (Nat.le_of_ble_eq_true rfl) hce dX7_step_134 hq (fun _ _ h => c_X5_at g.l g.G hdm (isK_lit hdm rfl rfl) h) (fun r2 w1 _ hq => ?_)
        refine x_callSi (rm := rmv 0 0 0 0) (As := [iV (r2)]) (rest := []) C hA hR0 mf_X7_kindOf lk_X7_41 ⟨rfl, rfl⟩ ⟨Nat.le_of_ble_eq_true rfl, Nat.le_of_ble_eq_true rfl⟩ rfl rfl (Nat.le_of_ble_eq_true rfl) hce dX7_step_137 hq (fun _ _ h => c_X7_kindOf g.l g.G hdm  h) (fun r4 w3 _ hq => ?_)
        refine x_aload_n C 0 dX7_step_140 rfl ?_
        refine x_get (K := 8) (k := 1) C (isK_lit hdm rfl rfl) (by decide) cl_X7 (by decide) ⟨rfl, rfl, rfl⟩ fl_X7_11 dX7_step_141 ?_
        refine x_icmp_ne (tgt := 153) C dX7_step_144 (by decide) hq (fun hq => ?_) (fun hq => ?_)
        · exact L_X7_step_153 C hdm hA hR0 hce hR _ _ hq
        · refine x_iinc (lv' := [(1, iV (x1 + 1)), (0, .ref (d.ad (8)))]) C 1 dX7_step_147 rfl (by decide) rfl ?_
          refine x_goto (tgt := 107) C dX7_step_150 (by decide) ?_
          refine XG.sub [1, 0] rfl ?_
          exact ih _ _ hq
set_option maxRecDepth 100000 in
set_option maxHeartbeats 4000000 in
theorem L_X7_step_59 {g : Cx} {d : Dl} (C : CX g cX7_step 2 none RX7) (hdm : g.dm = 0) (hA : ∀ q : Nat, g.s.heap.size ≤ q → g.A q) (hR0 : g.R = rmv 1 21 0 0) (hce : d.ce ≤ g.R.cells ∧ d.so ≤ g.R.slots) {res : Wd} (hR : rtV g d cX7_step res) (x1 : Int) (w : Wd) (hq : p_X7_step_59 x1 w = some res) : XG g d (hP g d w) [(0, .ref (d.ad (8))), (1, iV (x1))] [] 59 := by
  refine x_aload_n C 0 dX7_step_59 rfl ?_
  refine x_iload_n C 1 dX7_step_60 rfl ?_
  refine x_put (K := 8) (k := 2) C (isK_lit hdm rfl rfl) (by decide) cl_X7 (by decide) ⟨rfl, rfl, rfl, rfl⟩ fl_X7_15 ⟨rfl, rfl⟩ dX7_step_61 ?_
  refine x_iload_n C 1 dX7_step_64 rfl ?_
  refine x_aload_n C 0 dX7_step_65 rfl ?_
  refine x_getr (K := 8) (k := 0) (o2 := 2) C (isK_lit hdm rfl rfl) (by decide) cl_X7 (by decide) ⟨rfl, rfl, rfl⟩ fl_X7_21 rfl dX7_step_66 ?_
  refine x_get (K := 1) (k := 1) C (isK_lit hdm rfl rfl) (by decide) cl_X0 (by decide) ⟨rfl, rfl, rfl⟩ fl_X7_28 dX7_step_69 ?_
  refine x_icmp_lt (tgt := 86) C dX7_step_72 (by decide) hq (fun hq => ?_) (fun hq => ?_)
  · refine x_aload_n C 0 dX7_step_86 rfl ?_
    refine x_aload_n C 0 dX7_step_87 rfl ?_
    refine x_getr (K := 8) (k := 0) (o2 := 2) C (isK_lit hdm rfl rfl) (by decide) cl_X7 (by decide) ⟨rfl, rfl, rfl⟩ fl_X7_21 rfl dX7_step_88 ?_
    refine x_getr (K := 1) (k := 0) (o2 := 3) C (isK_lit hdm rfl rfl) (by decide) cl_X0 (by decide) ⟨rfl, rfl, rfl⟩ fl_X7_31 rfl dX7_step_91 ?_
    refine x_iload_n C 1 dX7_step_94 rfl ?_
    refine x_callVi (K := 6) (rm := rmv 0 0 0 0) (As := [iV (x1)]) (rest := [.ref (d.ad (8))]) C hA hR0 mf_X5_at lk_X7_35 rfl (isK_lit hdm rfl rfl) (by decide) ⟨rfl, rfl⟩ ⟨Nat.le_of_ble_eq_true rfl, Nat.le_of_ble_eq_true rfl⟩ rfl rfl (Nat.le_of_ble_eq_true rfl) hce dX7_step_95 hq (fun _ _ h => c_X5_at g.l g.G hdm (isK_lit hdm rfl rfl) h) (fun r2 w1 _ hq => ?_)
    refine x_callSi (rm := rmv 0 0 0 0) (As := [iV (r2)]) (rest := [.ref (d.ad (8))]) C hA hR0 mf_X7_kindOf lk_X7_41 ⟨rfl, rfl⟩ ⟨Nat.le_of_ble_eq_true rfl, Nat.le_of_ble_eq_true rfl⟩ rfl rfl (Nat.le_of_ble_eq_true rfl) hce dX7_step_98 hq (fun _ _ h => c_X7_kindOf g.l g.G hdm  h) (fun r4 w3 _ hq => ?_)
    refine x_put (K := 8) (k := 1) C (isK_lit hdm rfl rfl) (by decide) cl_X7 (by decide) ⟨rfl, rfl, rfl, rfl⟩ fl_X7_11 ⟨rfl, rfl⟩ dX7_step_101 ?_
    refine x_iinc (lv' := [(1, iV (x1 + 1)), (0, .ref (d.ad (8)))]) C 1 dX7_step_104 rfl (by decide) rfl ?_
    refine XG.sub [1, 0] rfl ?_
    exact L_X7_step_107 C hdm hA hR0 hce hR _ _ _ hq
  · refine x_aload_n C 0 dX7_step_75 rfl ?_
    refine x_iconst C dX7_step_76 ?_
    refine x_put (K := 8) (k := 1) C (isK_lit hdm rfl rfl) (by decide) cl_X7 (by decide) ⟨rfl, rfl, rfl, rfl⟩ fl_X7_11 ⟨rfl, rfl⟩ dX7_step_77 ?_
    refine nmW hq (fun w5 ew5 hq => ?_)
    rw [← ew5]
    refine x_aload_n C 0 dX7_step_80 rfl ?_
    refine x_iconst C dX7_step_81 ?_
    refine x_put (K := 8) (k := 3) C (isK_lit hdm rfl rfl) (by decide) cl_X7 (by decide) ⟨rfl, rfl, rfl, rfl⟩ fl_X7_18 ⟨rfl, rfl⟩ dX7_step_82 ?_
    exact hR _ _ _ hq dX7_step_85
set_option maxRecDepth 100000 in
set_option maxHeartbeats 4000000 in
theorem L_X7_step_10 {g : Cx} {d : Dl} (C : CX g cX7_step 2 none RX7) (hdm : g.dm = 0) (hA : ∀ q : Nat, g.s.heap.size ≤ q → g.A q) (hR0 : g.R = rmv 1 21 0 0) (hce : d.ce ≤ g.R.cells ∧ d.so ≤ g.R.slots) {res : Wd} (hR : rtV g d cX7_step res) : ∀ (n : Nat) (x1 : Int) (w : Wd), p_X7_step_10 n x1 w = some res → XG g d (hP g d w) [(0, .ref (d.ad (8))), (1, iV (x1))] [] 10 := by
  intro n
  induction n with
  | zero => intro x1 w  hq; exact nomatch (show none = some _ from hq)
  | succ n ih =>
    intro x1 w  hq
    refine x_iload_n C 1 dX7_step_10 rfl ?_
    refine x_aload_n C 0 dX7_step_11 rfl ?_
    refine x_getr (K := 8) (k := 0) (o2 := 2) C (isK_lit hdm rfl rfl) (by decide) cl_X7 (by decide) ⟨rfl, rfl, rfl⟩ fl_X7_21 rfl dX7_step_12 ?_
    refine x_get (K := 1) (k := 1) C (isK_lit hdm rfl rfl) (by decide) cl_X0 (by decide) ⟨rfl, rfl, rfl⟩ fl_X7_28 dX7_step_15 ?_
    refine x_icmp_ge (tgt := 59) C dX7_step_18 (by decide) hq (fun hq => ?_) (fun hq => ?_)
    · exact L_X7_step_59 C hdm hA hR0 hce hR _ _ hq
    · refine x_aload_n C 0 dX7_step_21 rfl ?_
      refine x_getr (K := 8) (k := 0) (o2 := 2) C (isK_lit hdm rfl rfl) (by decide) cl_X7 (by decide) ⟨rfl, rfl, rfl⟩ fl_X7_21 rfl dX7_step_22 ?_
      refine x_getr (K := 1) (k := 0) (o2 := 3) C (isK_lit hdm rfl rfl) (by decide) cl_X0 (by decide) ⟨rfl, rfl, rfl⟩ fl_X7_31 rfl dX7_step_25 ?_
      refine x_iload_n C 1 dX7_step_28 rfl ?_
      refine x_callVi (K := 6) (rm := rmv 0 0 0 0) (As := [iV (x1)]) (rest := []) C hA hR0 mf_X5_at lk_X7_35 rfl (isK_lit hdm rfl rfl) (by decide) ⟨rfl, rfl⟩ ⟨Nat.le_of_ble_eq_true rfl, Nat.le_of_ble_eq_true rfl⟩ rfl rfl (Nat.le_of_ble_eq_true rfl) hce dX7_step_29 hq (fun _ _ h => c_X5_at g.l g.G hdm (isK_lit hdm rfl rfl) h) (fun r2 w1 _ hq => ?_)
      refine x_bipush (v := 32) C dX7_step_32 (by decide +kernel) ?_
      refine x_icmp_eq (tgt := 53) C dX7_step_34 (by decide) hq (fun hq => ?_) (fun hq => ?_)
      · exact L_X7_step_53 C hdm hA hR0 hce hR ih _ _ hq
      · refine x_aload_n C 0 dX7_step_37 rfl ?_
        refine x_getr (K := 8) (k := 0) (o2 := 2) C (isK_lit hdm rfl rfl) (by decide) cl_X7 (by decide) ⟨rfl, rfl, rfl⟩ fl_X7_21 rfl dX7_step_38 ?_
        refine x_getr (K := 1) (k := 0) (o2 := 3) C (isK_lit hdm rfl rfl) (by decide) cl_X0 (by decide) ⟨rfl, rfl, rfl⟩ fl_X7_31 rfl dX7_step_41 ?_
        refine x_iload_n C 1 dX7_step_44 rfl ?_
        refine x_callVi (K := 6) (rm := rmv 0 0 0 0) (As := [iV (x1)]) (rest := []) C hA hR0 mf_X5_at lk_X7_35 rfl (isK_lit hdm rfl rfl) (by decide) ⟨rfl, rfl⟩ ⟨Nat.le_of_ble_eq_true rfl, Nat.le_of_ble_eq_true rfl⟩ rfl rfl (Nat.le_of_ble_eq_true rfl) hce dX7_step_45 hq (fun _ _ h => c_X5_at g.l g.G hdm (isK_lit hdm rfl rfl) h) (fun r4 w3 _ hq => ?_)
        refine x_bipush (v := 10) C dX7_step_48 (by decide +kernel) ?_
        refine x_icmp_ne (tgt := 59) C dX7_step_50 (by decide) hq (fun hq => ?_) (fun hq => ?_)
        · exact L_X7_step_59 C hdm hA hR0 hce hR _ _ hq
        · exact L_X7_step_53 C hdm hA hR0 hce hR ih _ _ hq
set_option maxRecDepth 100000 in
set_option maxHeartbeats 4000000 in
theorem L_X7_step {g : Cx} {d : Dl} (C : CX g cX7_step 2 none RX7) (hdm : g.dm = 0) (hA : ∀ q : Nat, g.s.heap.size ≤ q → g.A q) (hR0 : g.R = rmv 1 21 0 0) (hce : d.ce ≤ g.R.cells ∧ d.so ≤ g.R.slots) {res : Wd} (hR : rtV g d cX7_step res)  (w : Wd) (hq : p_X7_step  w = some res) : XG g d (hP g d w) [(0, .ref (d.ad (8)))] [] 0 := by
  refine x_aload_n C 0 dX7_step_0 rfl ?_
  refine x_get (K := 8) (k := 2) C (isK_lit hdm rfl rfl) (by decide) cl_X7 (by decide) ⟨rfl, rfl, rfl⟩ fl_X7_15 dX7_step_1 ?_
  refine x_aload_n C 0 dX7_step_4 rfl ?_
  refine x_get (K := 8) (k := 3) C (isK_lit hdm rfl rfl) (by decide) cl_X7 (by decide) ⟨rfl, rfl, rfl⟩ fl_X7_18 dX7_step_5 ?_
  refine x_iadd C dX7_step_8 ?_
  refine x_istore_n (lv' := [(1, iV ((gF w 8 2) + (gF w 8 3))), (0, .ref (d.ad (8)))]) C dX7_step_9 (by decide) rfl ?_
  refine XG.sub [1, 0] rfl ?_
  exact L_X7_step_10 C hdm hA hR0 hce hR _ _ _ hq
set_option maxRecDepth 100000 in
set_option maxHeartbeats 4000000 in
theorem c_X7_step (l : Launch) (G : Gd) {dm na : Nat} {ad : Nat → Nat} (hdm : dm = 0)  {w w' : Wd}   (hq : p_X7_step  w = some w') : mV l yX7_step cX7_step 2 none (rmv 1 21 0 0) G dm na ad [.ref (ad (8))] w w' := by
  refine met_V [(0, .ref (ad (8)))] (by decide) (Nat.le_of_ble_eq_true rfl) rfl rfl (fun g d C S hR => ?_)
  obtain ⟨rfl, hR0, rfl, rfl, rfl, hA⟩ := S
  exact L_X7_step (d := (na, ad, 0, 0)) C hdm hA hR0 ⟨Nat.zero_le _, Nat.zero_le _⟩ hR   w hq
set_option maxRecDepth 100000 in
set_option maxHeartbeats 4000000 in
theorem L_X7_restart {g : Cx} {d : Dl} (C : CX g cX7_restart 1 none RX7) (hdm : g.dm = 0) (hA : ∀ q : Nat, g.s.heap.size ≤ q → g.A q) (hR0 : g.R = rmv 2 42 0 0) (hce : d.ce ≤ g.R.cells ∧ d.so ≤ g.R.slots) {res : Wd} (hR : rtV g d cX7_restart res)  (w : Wd) (hq : p_X7_restart  w = some res) : XG g d (hP g d w) [(0, .ref (d.ad (8)))] [] 0 := by
  refine x_aload_n C 0 dX7_restart_0 rfl ?_
  refine x_iconst C dX7_restart_1 ?_
  refine x_put (K := 8) (k := 2) C (isK_lit hdm rfl rfl) (by decide) cl_X7 (by decide) ⟨rfl, rfl, rfl, rfl⟩ fl_X7_15 ⟨rfl, rfl⟩ dX7_restart_2 ?_
  refine x_aload_n C 0 dX7_restart_5 rfl ?_
  refine x_iconst C dX7_restart_6 ?_
  refine x_put (K := 8) (k := 3) C (isK_lit hdm rfl rfl) (by decide) cl_X7 (by decide) ⟨rfl, rfl, rfl, rfl⟩ fl_X7_18 ⟨rfl, rfl⟩ dX7_restart_7 ?_
  refine nmW hq (fun w1 ew1 hq => ?_)
  rw [← ew1]
  refine x_aload_n C 0 dX7_restart_10 rfl ?_
  refine x_callVv (K := 8) (rm := rmv 1 21 0 0) (As := []) (rest := []) C hA hR0 mf_X7_step lk_X7_25 rfl (isK_lit hdm rfl rfl) (by decide) ⟨rfl, rfl⟩ ⟨Nat.le_of_ble_eq_true rfl, Nat.le_of_ble_eq_true rfl⟩ rfl rfl (Nat.le_of_ble_eq_true rfl) hce dX7_restart_11 hq (fun _ h => c_X7_step g.l g.G hdm  h) (fun w2 _ hq => ?_)
  exact hR _ _ _ hq dX7_restart_14
set_option maxRecDepth 100000 in
set_option maxHeartbeats 4000000 in
theorem c_X7_restart (l : Launch) (G : Gd) {dm na : Nat} {ad : Nat → Nat} (hdm : dm = 0)  {w w' : Wd}   (hq : p_X7_restart  w = some w') : mV l yX7_restart cX7_restart 1 none (rmv 2 42 0 0) G dm na ad [.ref (ad (8))] w w' := by
  refine met_V [(0, .ref (ad (8)))] (by decide) (Nat.le_of_ble_eq_true rfl) rfl rfl (fun g d C S hR => ?_)
  obtain ⟨rfl, hR0, rfl, rfl, rfl, hA⟩ := S
  exact L_X7_restart (d := (na, ad, 0, 0)) C hdm hA hR0 ⟨Nat.zero_le _, Nat.zero_le _⟩ hR   w hq
set_option maxRecDepth 100000 in
set_option maxHeartbeats 4000000 in
theorem L_X7_says_15 {g : Cx} {d : Dl} (C : CX g cX7_says 3 (some .boolean) RX7) (hdm : g.dm = 0) (hA : ∀ q : Nat, g.s.heap.size ≤ q → g.A q) (hR0 : g.R = rmv 4 100 0 0) (hce : d.ce ≤ g.R.cells ∧ d.so ≤ g.R.slots) {res : Int × Wd} (hR : rtI g d cX7_says .boolean res) {o1 : Nat} (h1 : o1 < 14) : ∀ (n : Nat) (x2 : Int) (w : Wd), p_X7_says_15 o1 n x2 w = some res → XG g d (hP g d w) [(0, .ref (d.ad (8))), (1, .ref (g.G.aK o1)), (2, iV (x2))] [] 15 := by
  intro n
  induction n with
  | zero => intro x2 w  hq; exact nomatch (show none = some _ from hq)
  | succ n ih =>
    intro x2 w  hq
    refine x_iload_n C 2 dX7_says_15 rfl ?_
    refine x_aload_n C 1 dX7_says_16 rfl ?_
    refine x_slen C hA hR0 hce h1 lk_X7_44 (Nat.le_of_ble_eq_true rfl) ⟨Nat.le_of_ble_eq_true rfl, Nat.le_of_ble_eq_true rfl⟩ dX7_says_17 ?_
    refine x_icmp_ge (tgt := 55) C dX7_says_20 (by decide) hq (fun hq => ?_) (fun hq => ?_)
    · refine x_iconst C dX7_says_55 ?_
      exact hR _ _ _ _ hq (by decide +kernel) dX7_says_56
    · refine x_aload_n C 0 dX7_says_23 rfl ?_
      refine x_getr (K := 8) (k := 0) (o2 := 2) C (isK_lit hdm rfl rfl) (by decide) cl_X7 (by decide) ⟨rfl, rfl, rfl⟩ fl_X7_21 rfl dX7_says_24 ?_
      refine x_getr (K := 1) (k := 0) (o2 := 3) C (isK_lit hdm rfl rfl) (by decide) cl_X0 (by decide) ⟨rfl, rfl, rfl⟩ fl_X7_31 rfl dX7_says_27 ?_
      refine x_aload_n C 0 dX7_says_30 rfl ?_
      refine x_get (K := 8) (k := 2) C (isK_lit hdm rfl rfl) (by decide) cl_X7 (by decide) ⟨rfl, rfl, rfl⟩ fl_X7_15 dX7_says_31 ?_
      refine x_iload_n C 2 dX7_says_34 rfl ?_
      refine x_iadd C dX7_says_35 ?_
      refine x_callVi (K := 6) (rm := rmv 0 0 0 0) (As := [iV ((gF w 8 2) + x2)]) (rest := []) C hA hR0 mf_X5_at lk_X7_35 rfl (isK_lit hdm rfl rfl) (by decide) ⟨rfl, rfl⟩ ⟨Nat.le_of_ble_eq_true rfl, Nat.le_of_ble_eq_true rfl⟩ rfl rfl (Nat.le_of_ble_eq_true rfl) hce dX7_says_36 hq (fun _ _ h => c_X5_at g.l g.G hdm (isK_lit hdm rfl rfl) h) (fun r2 w1 _ hq => ?_)
      refine x_aload_n C 1 dX7_says_39 rfl ?_
      refine x_iload_n C 2 dX7_says_40 rfl ?_
      refine inb_2 hq (fun hi hq => ?_)
      refine x_scharAt C hA hR0 hce h1 hi lk_X7_49 (Nat.le_of_ble_eq_true rfl) ⟨Nat.le_of_ble_eq_true rfl, Nat.le_of_ble_eq_true rfl⟩ dX7_says_41 ?_
      refine x_icmp_eq (tgt := 49) C dX7_says_44 (by decide) hq (fun hq => ?_) (fun hq => ?_)
      · refine x_iinc (lv' := [(2, iV (x2 + 1)), (0, .ref (d.ad (8))), (1, .ref (g.G.aK o1))]) C 2 dX7_says_49 rfl (by decide) rfl ?_
        refine x_goto (tgt := 15) C dX7_says_52 (by decide) ?_
        refine XG.sub [1, 2, 0] rfl ?_
        exact ih _ _ hq
      · refine x_iconst C dX7_says_47 ?_
        exact hR _ _ _ _ hq (by decide +kernel) dX7_says_48
set_option maxRecDepth 100000 in
set_option maxHeartbeats 4000000 in
theorem L_X7_says {g : Cx} {d : Dl} (C : CX g cX7_says 3 (some .boolean) RX7) (hdm : g.dm = 0) (hA : ∀ q : Nat, g.s.heap.size ≤ q → g.A q) (hR0 : g.R = rmv 4 100 0 0) (hce : d.ce ≤ g.R.cells ∧ d.so ≤ g.R.slots) {res : Int × Wd} (hR : rtI g d cX7_says .boolean res) {o1 : Nat} (h1 : o1 < 14)  (w : Wd) (hq : p_X7_says o1 w = some res) : XG g d (hP g d w) [(0, .ref (d.ad (8))), (1, .ref (g.G.aK o1))] [] 0 := by
  refine x_aload_n C 0 dX7_says_0 rfl ?_
  refine x_get (K := 8) (k := 3) C (isK_lit hdm rfl rfl) (by decide) cl_X7 (by decide) ⟨rfl, rfl, rfl⟩ fl_X7_18 dX7_says_1 ?_
  refine x_aload_n C 1 dX7_says_4 rfl ?_
  refine x_slen C hA hR0 hce h1 lk_X7_44 (Nat.le_of_ble_eq_true rfl) ⟨Nat.le_of_ble_eq_true rfl, Nat.le_of_ble_eq_true rfl⟩ dX7_says_5 ?_
  refine x_icmp_eq (tgt := 13) C dX7_says_8 (by decide) hq (fun hq => ?_) (fun hq => ?_)
  · refine x_iconst C dX7_says_13 ?_
    refine x_istore_n (lv' := [(2, iV (0)), (0, .ref (d.ad (8))), (1, .ref (g.G.aK o1))]) C dX7_says_14 (by decide) rfl ?_
    refine XG.sub [1, 2, 0] rfl ?_
    exact L_X7_says_15 C hdm hA hR0 hce hR h1 _ _ _ hq
  · refine x_iconst C dX7_says_11 ?_
    exact hR _ _ _ _ hq (by decide +kernel) dX7_says_12
set_option maxRecDepth 100000 in
set_option maxHeartbeats 4000000 in
theorem c_X7_says (l : Launch) (G : Gd) {dm na : Nat} {ad : Nat → Nat} (hdm : dm = 0) {o1 : Nat} {w w' : Wd} {r : Int} (h1 : o1 < 14) (hq : p_X7_says o1 w = some (r, w')) : mI l yX7_says cX7_says 3 (some .boolean) (rmv 4 100 0 0) G dm na ad [.ref (ad (8)), .ref (G.aK o1)] w r w' := by
  refine met_I [(0, .ref (ad (8))), (1, .ref (G.aK o1))] (by decide) (Nat.le_of_ble_eq_true rfl) rfl .boolean rfl (fun g d C S hR => ?_)
  obtain ⟨rfl, hR0, rfl, rfl, rfl, hA⟩ := S
  exact L_X7_says (d := (na, ad, 0, 0)) C hdm hA hR0 ⟨Nat.zero_le _, Nat.zero_le _⟩ hR h1  w hq
set_option maxRecDepth 100000 in
set_option maxHeartbeats 4000000 in
theorem L_X3_fail {g : Cx} {d : Dl} (C : CX g cX3_fail 2 (some .boolean) RX3) (hdm : g.dm = 0) (hA : ∀ q : Nat, g.s.heap.size ≤ q → g.A q) (hR0 : g.R = rmv 0 0 0 0) (hce : d.ce ≤ g.R.cells ∧ d.so ≤ g.R.slots) {res : Int × Wd} (hR : rtI g d cX3_fail .boolean res) (x1 : Int) (w : Wd) (hq : p_X3_fail x1 w = some res) : XG g d (hP g d w) [(0, .ref (d.ad (9))), (1, iV (x1))] [] 0 := by
  refine x_aload_n C 0 dX3_fail_0 rfl ?_
  refine x_iload_n C 1 dX3_fail_1 rfl ?_
  refine x_put (K := 4) (k := 1) C (isK_lit hdm rfl rfl) (by decide) cl_X3 (by decide) ⟨rfl, rfl, rfl, rfl⟩ fl_X3_9 ⟨rfl, rfl⟩ dX3_fail_2 ?_
  refine x_aload_n C 0 dX3_fail_5 rfl ?_
  refine x_aload_n C 0 dX3_fail_6 rfl ?_
  refine x_getr (K := 4) (k := 0) (o2 := 8) C (isK_lit hdm rfl rfl) (by decide) cl_X3 (by decide) ⟨rfl, rfl, rfl⟩ fl_X3_31 rfl dX3_fail_7 ?_
  refine x_get (K := 8) (k := 2) C (isK_lit hdm rfl rfl) (by decide) cl_X7 (by decide) ⟨rfl, rfl, rfl⟩ fl_X3_50 dX3_fail_10 ?_
  refine x_put (K := 4) (k := 2) C (isK_lit hdm rfl rfl) (by decide) cl_X3 (by decide) ⟨rfl, rfl, rfl, rfl⟩ fl_X3_15 ⟨rfl, rfl⟩ dX3_fail_13 ?_
  refine nmW hq (fun w1 ew1 hq => ?_)
  rw [← ew1]
  refine x_iconst C dX3_fail_16 ?_
  exact hR _ _ _ _ hq (by decide +kernel) dX3_fail_17
set_option maxRecDepth 100000 in
set_option maxHeartbeats 4000000 in
theorem c_X3_fail (l : Launch) (G : Gd) {dm na : Nat} {ad : Nat → Nat} (hdm : dm = 0) {x1 : Int} {w w' : Wd} {r : Int}  (hq : p_X3_fail x1 w = some (r, w')) : mI l yX3_fail cX3_fail 2 (some .boolean) (rmv 0 0 0 0) G dm na ad [.ref (ad (9)), iV (x1)] w r w' := by
  refine met_I [(0, .ref (ad (9))), (1, iV (x1))] (by decide) (Nat.le_of_ble_eq_true rfl) rfl .boolean rfl (fun g d C S hR => ?_)
  obtain ⟨rfl, hR0, rfl, rfl, rfl, hA⟩ := S
  exact L_X3_fail (d := (na, ad, 0, 0)) C hdm hA hR0 ⟨Nat.zero_le _, Nat.zero_le _⟩ hR  _ w hq
set_option maxRecDepth 100000 in
set_option maxHeartbeats 4000000 in
theorem L_X7_value_4 {g : Cx} {d : Dl} (C : CX g cX7_value 3 (some .int) RX7) (hdm : g.dm = 0) (hA : ∀ q : Nat, g.s.heap.size ≤ q → g.A q) (hR0 : g.R = rmv 1 21 0 0) (hce : d.ce ≤ g.R.cells ∧ d.so ≤ g.R.slots) {res : Int × Wd} (hR : rtI g d cX7_value .int res) : ∀ (n : Nat) (x1 : Int) (x2 : Int) (w : Wd), p_X7_value_4 n x1 x2 w = some res → XG g d (hP g d w) [(0, .ref (d.ad (8))), (1, iV (x1)), (2, iV (x2))] [] 4 := by
  intro n
  induction n with
  | zero => intro x1 x2 w  hq; exact nomatch (show none = some _ from hq)
  | succ n ih =>
    intro x1 x2 w  hq
    refine x_iload_n C 2 dX7_value_4 rfl ?_
    refine x_aload_n C 0 dX7_value_5 rfl ?_
    refine x_get (K := 8) (k := 3) C (isK_lit hdm rfl rfl) (by decide) cl_X7 (by decide) ⟨rfl, rfl, rfl⟩ fl_X7_18 dX7_value_6 ?_
    refine x_icmp_ge (tgt := 49) C dX7_value_9 (by decide) hq (fun hq => ?_) (fun hq => ?_)
    · refine x_iload_n C 1 dX7_value_49 rfl ?_
      exact hR _ _ _ _ hq rfl dX7_value_50
    · refine x_iload_n C 1 dX7_value_12 rfl ?_
      refine x_bipush (v := 10) C dX7_value_13 (by decide +kernel) ?_
      refine x_imul C dX7_value_15 ?_
      refine x_aload_n C 0 dX7_value_16 rfl ?_
      refine x_getr (K := 8) (k := 0) (o2 := 2) C (isK_lit hdm rfl rfl) (by decide) cl_X7 (by decide) ⟨rfl, rfl, rfl⟩ fl_X7_21 rfl dX7_value_17 ?_
      refine x_getr (K := 1) (k := 0) (o2 := 3) C (isK_lit hdm rfl rfl) (by decide) cl_X0 (by decide) ⟨rfl, rfl, rfl⟩ fl_X7_31 rfl dX7_value_20 ?_
      refine x_aload_n C 0 dX7_value_23 rfl ?_
      refine x_get (K := 8) (k := 2) C (isK_lit hdm rfl rfl) (by decide) cl_X7 (by decide) ⟨rfl, rfl, rfl⟩ fl_X7_15 dX7_value_24 ?_
      refine x_iload_n C 2 dX7_value_27 rfl ?_
      refine x_iadd C dX7_value_28 ?_
      refine x_callVi (K := 6) (rm := rmv 0 0 0 0) (As := [iV ((gF w 8 2) + x2)]) (rest := [iV (x1 * 10)]) C hA hR0 mf_X5_at lk_X7_35 rfl (isK_lit hdm rfl rfl) (by decide) ⟨rfl, rfl⟩ ⟨Nat.le_of_ble_eq_true rfl, Nat.le_of_ble_eq_true rfl⟩ rfl rfl (Nat.le_of_ble_eq_true rfl) hce dX7_value_29 hq (fun _ _ h => c_X5_at g.l g.G hdm (isK_lit hdm rfl rfl) h) (fun r2 w1 _ hq => ?_)
      refine x_iadd C dX7_value_32 ?_
      refine x_bipush (v := 48) C dX7_value_33 (by decide +kernel) ?_
      refine x_isub C dX7_value_35 ?_
      refine x_sipush (v := 10000) C dX7_value_36 (by decide +kernel) ?_
      refine x_min C hR0 lk_X7_53 jm_min_s jm_i jm_min_c ⟨Nat.le_of_ble_eq_true rfl, Nat.le_of_ble_eq_true rfl⟩ hce dX7_value_39 ?_
      refine x_istore_n (lv' := [(1, iV (mn32 (((x1 * 10) + r2) - 48) 10000)), (0, .ref (d.ad (8))), (2, iV (x2))]) C dX7_value_42 (by decide) rfl ?_
      refine x_iinc (lv' := [(2, iV (x2 + 1)), (1, iV (mn32 (((x1 * 10) + r2) - 48) 10000)), (0, .ref (d.ad (8)))]) C 2 dX7_value_43 rfl (by decide) rfl ?_
      refine x_goto (tgt := 4) C dX7_value_46 (by decide) ?_
      refine XG.sub [2, 1, 0] rfl ?_
      exact ih _ _ _ hq
set_option maxRecDepth 100000 in
set_option maxHeartbeats 4000000 in
theorem L_X7_value {g : Cx} {d : Dl} (C : CX g cX7_value 3 (some .int) RX7) (hdm : g.dm = 0) (hA : ∀ q : Nat, g.s.heap.size ≤ q → g.A q) (hR0 : g.R = rmv 1 21 0 0) (hce : d.ce ≤ g.R.cells ∧ d.so ≤ g.R.slots) {res : Int × Wd} (hR : rtI g d cX7_value .int res)  (w : Wd) (hq : p_X7_value  w = some res) : XG g d (hP g d w) [(0, .ref (d.ad (8)))] [] 0 := by
  refine x_iconst C dX7_value_0 ?_
  refine x_istore_n (lv' := [(1, iV (0)), (0, .ref (d.ad (8)))]) C dX7_value_1 (by decide) rfl ?_
  refine x_iconst C dX7_value_2 ?_
  refine x_istore_n (lv' := [(2, iV (0)), (1, iV (0)), (0, .ref (d.ad (8)))]) C dX7_value_3 (by decide) rfl ?_
  refine XG.sub [2, 1, 0] rfl ?_
  exact L_X7_value_4 C hdm hA hR0 hce hR _ _ _ _ hq
set_option maxRecDepth 100000 in
set_option maxHeartbeats 4000000 in
theorem c_X7_value (l : Launch) (G : Gd) {dm na : Nat} {ad : Nat → Nat} (hdm : dm = 0)  {w w' : Wd} {r : Int}  (hq : p_X7_value  w = some (r, w')) : mI l yX7_value cX7_value 3 (some .int) (rmv 1 21 0 0) G dm na ad [.ref (ad (8))] w r w' := by
  refine met_I [(0, .ref (ad (8)))] (by decide) (Nat.le_of_ble_eq_true rfl) rfl .int rfl (fun g d C S hR => ?_)
  obtain ⟨rfl, hR0, rfl, rfl, rfl, hA⟩ := S
  exact L_X7_value (d := (na, ad, 0, 0)) C hdm hA hR0 ⟨Nat.zero_le _, Nat.zero_le _⟩ hR   w hq
set_option maxRecDepth 100000 in
set_option maxHeartbeats 4000000 in
theorem L_X3_checkNumber_52 {g : Cx} {d : Dl} (C : CX g cX3_checkNumber 3 (some .boolean) RX3) (hdm : g.dm = 0) (hA : ∀ q : Nat, g.s.heap.size ≤ q → g.A q) (hR0 : g.R = rmv 2 43 0 0) (hce : d.ce ≤ g.R.cells ∧ d.so ≤ g.R.slots) {res : Int × Wd} (hR : rtI g d cX3_checkNumber .boolean res)  (w : Wd) (hq : p_X3_checkNumber_52 w = some res) : XG g d (hP g d w) [] [] 52 := by
  refine x_iconst C dX3_checkNumber_52 ?_
  refine x_goto (tgt := 57) C dX3_checkNumber_53 (by decide) ?_
  exact hR _ _ _ _ hq (by decide +kernel) dX3_checkNumber_57
set_option maxRecDepth 100000 in
set_option maxHeartbeats 4000000 in
theorem L_X3_checkNumber_44 {g : Cx} {d : Dl} (C : CX g cX3_checkNumber 3 (some .boolean) RX3) (hdm : g.dm = 0) (hA : ∀ q : Nat, g.s.heap.size ≤ q → g.A q) (hR0 : g.R = rmv 2 43 0 0) (hce : d.ce ≤ g.R.cells ∧ d.so ≤ g.R.slots) {res : Int × Wd} (hR : rtI g d cX3_checkNumber .boolean res)  (w : Wd) (hq : p_X3_checkNumber_44 w = some res) : XG g d (hP g d w) [(0, .ref (d.ad (9)))] [] 44 := by
  refine x_aload_n C 0 dX3_checkNumber_44 rfl ?_
  refine x_iconst C dX3_checkNumber_45 ?_
  refine x_callVi (K := 4) (rm := rmv 0 0 0 0) (As := [iV (2)]) (rest := []) C hA hR0 mf_X3_fail lk_X3_59 rfl (isK_lit hdm rfl rfl) (by decide) ⟨rfl, rfl⟩ ⟨Nat.le_of_ble_eq_true rfl, Nat.le_of_ble_eq_true rfl⟩ rfl rfl (Nat.le_of_ble_eq_true rfl) hce dX3_checkNumber_46 hq (fun _ _ h => c_X3_fail g.l g.G hdm  h) (fun r2 w1 _ hq => ?_)
  refine x_if_eq (tgt := 56) C dX3_checkNumber_49 (by decide) hq (fun hq => ?_) (fun hq => ?_)
  · refine x_iconst C dX3_checkNumber_56 ?_
    exact hR _ _ _ _ hq (by decide +kernel) dX3_checkNumber_57
  · refine XG.sub [] rfl ?_
    exact L_X3_checkNumber_52 C hdm hA hR0 hce hR _ hq
set_option maxRecDepth 100000 in
set_option maxHeartbeats 4000000 in
theorem L_X3_checkNumber {g : Cx} {d : Dl} (C : CX g cX3_checkNumber 3 (some .boolean) RX3) (hdm : g.dm = 0) (hA : ∀ q : Nat, g.s.heap.size ≤ q → g.A q) (hR0 : g.R = rmv 2 43 0 0) (hce : d.ce ≤ g.R.cells ∧ d.so ≤ g.R.slots) {res : Int × Wd} (hR : rtI g d cX3_checkNumber .boolean res) (x1 : Int) (x2 : Int) (w : Wd) (hq : p_X3_checkNumber x1 x2 w = some res) : XG g d (hP g d w) [(0, .ref (d.ad (9))), (1, iV (x1)), (2, iV (x2))] [] 0 := by
  refine x_aload_n C 0 dX3_checkNumber_0 rfl ?_
  refine x_getr (K := 4) (k := 0) (o2 := 8) C (isK_lit hdm rfl rfl) (by decide) cl_X3 (by decide) ⟨rfl, rfl, rfl⟩ fl_X3_31 rfl dX3_checkNumber_1 ?_
  refine x_get (K := 8) (k := 1) C (isK_lit hdm rfl rfl) (by decide) cl_X7 (by decide) ⟨rfl, rfl, rfl⟩ fl_X3_44 dX3_checkNumber_4 ?_
  refine x_iconst C dX3_checkNumber_7 ?_
  refine x_icmp_eq (tgt := 17) C dX3_checkNumber_8 (by decide) hq (fun hq => ?_) (fun hq => ?_)
  · refine x_aload_n C 0 dX3_checkNumber_17 rfl ?_
    refine x_aload_n C 0 dX3_checkNumber_18 rfl ?_
    refine x_getr (K := 4) (k := 0) (o2 := 8) C (isK_lit hdm rfl rfl) (by decide) cl_X3 (by decide) ⟨rfl, rfl, rfl⟩ fl_X3_31 rfl dX3_checkNumber_19 ?_
    refine x_callVi (K := 8) (rm := rmv 1 21 0 0) (As := []) (rest := [.ref (d.ad (9))]) C hA hR0 mf_X7_value lk_X3_171 rfl (isK_lit hdm rfl rfl) (by decide) ⟨rfl, rfl⟩ ⟨Nat.le_of_ble_eq_true rfl, Nat.le_of_ble_eq_true rfl⟩ rfl rfl (Nat.le_of_ble_eq_true rfl) hce dX3_checkNumber_22 hq (fun _ _ h => c_X7_value g.l g.G hdm  h) (fun r2 w1 _ hq => ?_)
    refine x_put (K := 4) (k := 3) C (isK_lit hdm rfl rfl) (by decide) cl_X3 (by decide) ⟨rfl, rfl, rfl, rfl⟩ fl_X3_18 ⟨rfl, rfl⟩ dX3_checkNumber_25 ?_
    refine x_aload_n C 0 dX3_checkNumber_28 rfl ?_
    refine x_get (K := 4) (k := 3) C (isK_lit hdm rfl rfl) (by decide) cl_X3 (by decide) ⟨rfl, rfl, rfl⟩ fl_X3_18 dX3_checkNumber_29 ?_
    refine x_iload_n C 1 dX3_checkNumber_32 rfl ?_
    refine x_icmp_lt (tgt := 44) C dX3_checkNumber_33 (by decide) hq (fun hq => ?_) (fun hq => ?_)
    · refine XG.sub [0] rfl ?_
      exact L_X3_checkNumber_44 C hdm hA hR0 hce hR _ hq
    · refine x_aload_n C 0 dX3_checkNumber_36 rfl ?_
      refine x_get (K := 4) (k := 3) C (isK_lit hdm rfl rfl) (by decide) cl_X3 (by decide) ⟨rfl, rfl, rfl⟩ fl_X3_18 dX3_checkNumber_37 ?_
      refine x_iload_n C 2 dX3_checkNumber_40 rfl ?_
      refine x_icmp_le (tgt := 52) C dX3_checkNumber_41 (by decide) hq (fun hq => ?_) (fun hq => ?_)
      · refine XG.sub [] rfl ?_
        exact L_X3_checkNumber_52 C hdm hA hR0 hce hR _ hq
      · refine XG.sub [0] rfl ?_
        exact L_X3_checkNumber_44 C hdm hA hR0 hce hR _ hq
  · refine x_aload_n C 0 dX3_checkNumber_11 rfl ?_
    refine x_iconst C dX3_checkNumber_12 ?_
    refine x_callVi (K := 4) (rm := rmv 0 0 0 0) (As := [iV (1)]) (rest := []) C hA hR0 mf_X3_fail lk_X3_59 rfl (isK_lit hdm rfl rfl) (by decide) ⟨rfl, rfl⟩ ⟨Nat.le_of_ble_eq_true rfl, Nat.le_of_ble_eq_true rfl⟩ rfl rfl (Nat.le_of_ble_eq_true rfl) hce dX3_checkNumber_13 hq (fun _ _ h => c_X3_fail g.l g.G hdm  h) (fun r4 w3 _ hq => ?_)
    exact hR _ _ _ _ (zr_2 hq) (zr_1 hq) dX3_checkNumber_16
set_option maxRecDepth 100000 in
set_option maxHeartbeats 4000000 in
theorem c_X3_checkNumber (l : Launch) (G : Gd) {dm na : Nat} {ad : Nat → Nat} (hdm : dm = 0) {x1 : Int} {x2 : Int} {w w' : Wd} {r : Int}  (hq : p_X3_checkNumber x1 x2 w = some (r, w')) : mI l yX3_checkNumber cX3_checkNumber 3 (some .boolean) (rmv 2 43 0 0) G dm na ad [.ref (ad (9)), iV (x1), iV (x2)] w r w' := by
  refine met_I [(0, .ref (ad (9))), (1, iV (x1)), (2, iV (x2))] (by decide) (Nat.le_of_ble_eq_true rfl) rfl .boolean rfl (fun g d C S hR => ?_)
  obtain ⟨rfl, hR0, rfl, rfl, rfl, hA⟩ := S
  exact L_X3_checkNumber (d := (na, ad, 0, 0)) C hdm hA hR0 ⟨Nat.zero_le _, Nat.zero_le _⟩ hR  _ _ w hq
set_option maxRecDepth 100000 in
set_option maxHeartbeats 4000000 in
theorem L_X3_readNumber {g : Cx} {d : Dl} (C : CX g cX3_readNumber 3 (some .boolean) RX3) (hdm : g.dm = 0) (hA : ∀ q : Nat, g.s.heap.size ≤ q → g.A q) (hR0 : g.R = rmv 3 65 0 0) (hce : d.ce ≤ g.R.cells ∧ d.so ≤ g.R.slots) {res : Int × Wd} (hR : rtI g d cX3_readNumber .boolean res) (x1 : Int) (x2 : Int) (w : Wd) (hq : p_X3_readNumber x1 x2 w = some res) : XG g d (hP g d w) [(0, .ref (d.ad (9))), (1, iV (x1)), (2, iV (x2))] [] 0 := by
  refine x_aload_n C 0 dX3_readNumber_0 rfl ?_
  refine x_iload_n C 1 dX3_readNumber_1 rfl ?_
  refine x_iload_n C 2 dX3_readNumber_2 rfl ?_
  refine x_callVi (K := 4) (rm := rmv 2 43 0 0) (As := [iV (x1), iV (x2)]) (rest := []) C hA hR0 mf_X3_checkNumber lk_X3_113 rfl (isK_lit hdm rfl rfl) (by decide) ⟨rfl, rfl⟩ ⟨Nat.le_of_ble_eq_true rfl, Nat.le_of_ble_eq_true rfl⟩ rfl rfl (Nat.le_of_ble_eq_true rfl) hce dX3_readNumber_3 hq (fun _ _ h => c_X3_checkNumber g.l g.G hdm  h) (fun r2 w1 _ hq => ?_)
  refine x_if_ne (tgt := 11) C dX3_readNumber_6 (by decide) hq (fun hq => ?_) (fun hq => ?_)
  · refine x_aload_n C 0 dX3_readNumber_11 rfl ?_
    refine x_getr (K := 4) (k := 0) (o2 := 8) C (isK_lit hdm rfl rfl) (by decide) cl_X3 (by decide) ⟨rfl, rfl, rfl⟩ fl_X3_31 rfl dX3_readNumber_12 ?_
    refine x_callVv (K := 8) (rm := rmv 1 21 0 0) (As := []) (rest := []) C hA hR0 mf_X7_step lk_X3_63 rfl (isK_lit hdm rfl rfl) (by decide) ⟨rfl, rfl⟩ ⟨Nat.le_of_ble_eq_true rfl, Nat.le_of_ble_eq_true rfl⟩ rfl rfl (Nat.le_of_ble_eq_true rfl) hce dX3_readNumber_15 hq (fun _ h => c_X7_step g.l g.G hdm  h) (fun w3 _ hq => ?_)
    refine x_iconst C dX3_readNumber_18 ?_
    exact hR _ _ _ _ hq (by decide +kernel) dX3_readNumber_19
  · refine x_iconst C dX3_readNumber_9 ?_
    exact hR _ _ _ _ hq (by decide +kernel) dX3_readNumber_10
set_option maxRecDepth 100000 in
set_option maxHeartbeats 4000000 in
theorem c_X3_readNumber (l : Launch) (G : Gd) {dm na : Nat} {ad : Nat → Nat} (hdm : dm = 0) {x1 : Int} {x2 : Int} {w w' : Wd} {r : Int}  (hq : p_X3_readNumber x1 x2 w = some (r, w')) : mI l yX3_readNumber cX3_readNumber 3 (some .boolean) (rmv 3 65 0 0) G dm na ad [.ref (ad (9)), iV (x1), iV (x2)] w r w' := by
  refine met_I [(0, .ref (ad (9))), (1, iV (x1)), (2, iV (x2))] (by decide) (Nat.le_of_ble_eq_true rfl) rfl .boolean rfl (fun g d C S hR => ?_)
  obtain ⟨rfl, hR0, rfl, rfl, rfl, hA⟩ := S
  exact L_X3_readNumber (d := (na, ad, 0, 0)) C hdm hA hR0 ⟨Nat.zero_le _, Nat.zero_le _⟩ hR  _ _ w hq
set_option maxRecDepth 100000 in
set_option maxHeartbeats 4000000 in
theorem L_X5_clear_2 {g : Cx} {d : Dl} (C : CX g cX5_clear 2 none RX5) (hdm : g.dm = 0) (hA : ∀ q : Nat, g.s.heap.size ≤ q → g.A q) (hR0 : g.R = rmv 0 0 0 0) (hce : d.ce ≤ g.R.cells ∧ d.so ≤ g.R.slots) {res : Wd} (hR : rtV g d cX5_clear res) {o0 : Nat} (h0 : isK d.na g.dm 6 o0) : ∀ (n : Nat) (x1 : Int) (w : Wd), p_X5_clear_2 o0 n x1 w = some res → XG g d (hP g d w) [(0, .ref (d.ad (o0))), (1, iV (x1))] [] 2 := by
  intro n
  induction n with
  | zero => intro x1 w  hq; exact nomatch (show none = some _ from hq)
  | succ n ih =>
    intro x1 w  hq
    refine x_iload_n C 1 dX5_clear_2 rfl ?_
    refine x_aload_n C 0 dX5_clear_3 rfl ?_
    refine x_getr (K := 6) (k := 0) (o2 := o0 + 1) C h0 (by decide) cl_X5 (by decide) ⟨rfl, rfl, rfl⟩ fl_X5_7 rfl dX5_clear_4 ?_
    refine x_alen C (ik6 h0) dX5_clear_7 ?_
    refine x_icmp_ge (tgt := 24) C dX5_clear_8 (by decide) hq (fun hq => ?_) (fun hq => ?_)
    · exact hR _ _ _ hq dX5_clear_24
    · refine x_aload_n C 0 dX5_clear_11 rfl ?_
      refine x_getr (K := 6) (k := 0) (o2 := o0 + 1) C h0 (by decide) cl_X5 (by decide) ⟨rfl, rfl, rfl⟩ fl_X5_7 rfl dX5_clear_12 ?_
      refine x_iload_n C 1 dX5_clear_15 rfl ?_
      refine x_iconst C dX5_clear_16 ?_
      refine inb_2 hq (fun hi hq => ?_)
      refine x_iast C (ik6 h0) hi dX5_clear_17 ?_
      refine x_iinc (lv' := [(1, iV (x1 + 1)), (0, .ref (d.ad (o0)))]) C 1 dX5_clear_18 rfl (by decide) rfl ?_
      refine x_goto (tgt := 2) C dX5_clear_21 (by decide) ?_
      refine XG.sub [1, 0] rfl ?_
      exact ih _ _ hq
set_option maxRecDepth 100000 in
set_option maxHeartbeats 4000000 in
theorem L_X5_clear {g : Cx} {d : Dl} (C : CX g cX5_clear 2 none RX5) (hdm : g.dm = 0) (hA : ∀ q : Nat, g.s.heap.size ≤ q → g.A q) (hR0 : g.R = rmv 0 0 0 0) (hce : d.ce ≤ g.R.cells ∧ d.so ≤ g.R.slots) {res : Wd} (hR : rtV g d cX5_clear res) {o0 : Nat} (h0 : isK d.na g.dm 6 o0)  (w : Wd) (hq : p_X5_clear o0 w = some res) : XG g d (hP g d w) [(0, .ref (d.ad (o0)))] [] 0 := by
  refine x_iconst C dX5_clear_0 ?_
  refine x_istore_n (lv' := [(1, iV (0)), (0, .ref (d.ad (o0)))]) C dX5_clear_1 (by decide) rfl ?_
  refine XG.sub [1, 0] rfl ?_
  exact L_X5_clear_2 C hdm hA hR0 hce hR h0 _ _ _ hq
set_option maxRecDepth 100000 in
set_option maxHeartbeats 4000000 in
theorem c_X5_clear (l : Launch) (G : Gd) {dm na : Nat} {ad : Nat → Nat} (hdm : dm = 0) {o0 : Nat} {w w' : Wd}  (h0 : isK na dm 6 o0) (hq : p_X5_clear o0 w = some w') : mV l yX5_clear cX5_clear 2 none (rmv 0 0 0 0) G dm na ad [.ref (ad (o0))] w w' := by
  refine met_V [(0, .ref (ad (o0)))] (by decide) (Nat.le_of_ble_eq_true rfl) rfl rfl (fun g d C S hR => ?_)
  obtain ⟨rfl, hR0, rfl, rfl, rfl, hA⟩ := S
  exact L_X5_clear (d := (na, ad, 0, 0)) C hdm hA hR0 ⟨Nat.zero_le _, Nat.zero_le _⟩ hR h0  w hq
set_option maxRecDepth 100000 in
set_option maxHeartbeats 4000000 in
theorem L_X6_clearParts {g : Cx} {d : Dl} (C : CX g cX6_clearParts 1 none RX6) (hdm : g.dm = 0) (hA : ∀ q : Nat, g.s.heap.size ≤ q → g.A q) (hR0 : g.R = rmv 0 0 0 0) (hce : d.ce ≤ g.R.cells ∧ d.so ≤ g.R.slots) {res : Wd} (hR : rtV g d cX6_clearParts res) {o0 : Nat} (h0 : isK d.na g.dm 7 o0)  (w : Wd) (hq : p_X6_clearParts o0 w = some res) : XG g d (hP g d w) [(0, .ref (d.ad (o0)))] [] 0 := by
  refine x_aload_n C 0 dX6_clearParts_0 rfl ?_
  refine x_iconst C dX6_clearParts_1 ?_
  refine x_put (K := 7) (k := 4) C h0 (by decide) cl_X6 (by decide) ⟨rfl, rfl, rfl, rfl⟩ fl_X6_30 ⟨rfl, rfl⟩ dX6_clearParts_2 ?_
  refine x_aload_n C 0 dX6_clearParts_5 rfl ?_
  refine x_iconst C dX6_clearParts_6 ?_
  refine x_put (K := 7) (k := 7) C h0 (by decide) cl_X6 (by decide) ⟨rfl, rfl, rfl, rfl⟩ fl_X6_39 ⟨rfl, rfl⟩ dX6_clearParts_7 ?_
  refine nmW hq (fun w1 ew1 hq => ?_)
  rw [← ew1]
  exact hR _ _ _ hq dX6_clearParts_10
set_option maxRecDepth 100000 in
set_option maxHeartbeats 4000000 in
theorem c_X6_clearParts (l : Launch) (G : Gd) {dm na : Nat} {ad : Nat → Nat} (hdm : dm = 0) {o0 : Nat} {w w' : Wd}  (h0 : isK na dm 7 o0) (hq : p_X6_clearParts o0 w = some w') : mV l yX6_clearParts cX6_clearParts 1 none (rmv 0 0 0 0) G dm na ad [.ref (ad (o0))] w w' := by
  refine met_V [(0, .ref (ad (o0)))] (by decide) (Nat.le_of_ble_eq_true rfl) rfl rfl (fun g d C S hR => ?_)
  obtain ⟨rfl, hR0, rfl, rfl, rfl, hA⟩ := S
  exact L_X6_clearParts (d := (na, ad, 0, 0)) C hdm hA hR0 ⟨Nat.zero_le _, Nat.zero_le _⟩ hR h0  w hq
set_option maxRecDepth 100000 in
set_option maxHeartbeats 4000000 in
theorem L_X1_renew {g : Cx} {d : Dl} (C : CX g cX1_renew 3 none RX1) (hdm : g.dm = 0) (hA : ∀ q : Nat, g.s.heap.size ≤ q → g.A q) (hR0 : g.R = rmv 0 0 0 0) (hce : d.ce ≤ g.R.cells ∧ d.so ≤ g.R.slots) {res : Wd} (hR : rtV g d cX1_renew res) {o0 : Nat} (h0 : isK d.na g.dm 2 o0) (x1 : Int) (x2 : Int) (w : Wd) (hq : p_X1_renew o0 x1 x2 w = some res) : XG g d (hP g d w) [(0, .ref (d.ad (o0))), (1, iV (x1)), (2, iV (x2))] [] 0 := by
  refine x_aload_n C 0 dX1_renew_0 rfl ?_
  refine x_iload_n C 1 dX1_renew_1 rfl ?_
  refine x_put (K := 2) (k := 0) C h0 (by decide) cl_X1 (by decide) ⟨rfl, rfl, rfl, rfl⟩ fl_X1_9 ⟨rfl, rfl⟩ dX1_renew_2 ?_
  refine x_aload_n C 0 dX1_renew_5 rfl ?_
  refine x_iload_n C 2 dX1_renew_6 rfl ?_
  refine x_put (K := 2) (k := 1) C h0 (by decide) cl_X1 (by decide) ⟨rfl, rfl, rfl, rfl⟩ fl_X1_15 ⟨rfl, rfl⟩ dX1_renew_7 ?_
  refine nmW hq (fun w1 ew1 hq => ?_)
  rw [← ew1]
  refine x_aload_n C 0 dX1_renew_10 rfl ?_
  refine x_iload_n C 1 dX1_renew_11 rfl ?_
  refine x_put (K := 2) (k := 2) C h0 (by decide) cl_X1 (by decide) ⟨rfl, rfl, rfl, rfl⟩ fl_X1_18 ⟨rfl, rfl⟩ dX1_renew_12 ?_
  exact hR _ _ _ hq dX1_renew_15
set_option maxRecDepth 100000 in
set_option maxHeartbeats 4000000 in
theorem c_X1_renew (l : Launch) (G : Gd) {dm na : Nat} {ad : Nat → Nat} (hdm : dm = 0) {o0 : Nat} {x1 : Int} {x2 : Int} {w w' : Wd}  (h0 : isK na dm 2 o0) (hq : p_X1_renew o0 x1 x2 w = some w') : mV l yX1_renew cX1_renew 3 none (rmv 0 0 0 0) G dm na ad [.ref (ad (o0)), iV (x1), iV (x2)] w w' := by
  refine met_V [(0, .ref (ad (o0))), (1, iV (x1)), (2, iV (x2))] (by decide) (Nat.le_of_ble_eq_true rfl) rfl rfl (fun g d C S hR => ?_)
  obtain ⟨rfl, hR0, rfl, rfl, rfl, hA⟩ := S
  exact L_X1_renew (d := (na, ad, 0, 0)) C hdm hA hR0 ⟨Nat.zero_le _, Nat.zero_le _⟩ hR h0 _ _ w hq
set_option maxRecDepth 100000 in
set_option maxHeartbeats 4000000 in
theorem L_X6_begin {g : Cx} {d : Dl} (C : CX g cX6_begin 3 none RX6) (hdm : g.dm = 0) (hA : ∀ q : Nat, g.s.heap.size ≤ q → g.A q) (hR0 : g.R = rmv 1 22 0 0) (hce : d.ce ≤ g.R.cells ∧ d.so ≤ g.R.slots) {res : Wd} (hR : rtV g d cX6_begin res) {o0 : Nat} (h0 : isK d.na g.dm 7 o0) (x1 : Int) (x2 : Int) (w : Wd) (hq : p_X6_begin o0 x1 x2 w = some res) : XG g d (hP g d w) [(0, .ref (d.ad (o0))), (1, iV (x1)), (2, iV (x2))] [] 0 := by
  refine x_aload_n C 0 dX6_begin_0 rfl ?_
  refine x_iload_n C 1 dX6_begin_1 rfl ?_
  refine x_put (K := 7) (k := 0) C h0 (by decide) cl_X6 (by decide) ⟨rfl, rfl, rfl, rfl⟩ fl_X6_9 ⟨rfl, rfl⟩ dX6_begin_2 ?_
  refine x_aload_n C 0 dX6_begin_5 rfl ?_
  refine x_iload_n C 2 dX6_begin_6 rfl ?_
  refine x_put (K := 7) (k := 1) C h0 (by decide) cl_X6 (by decide) ⟨rfl, rfl, rfl, rfl⟩ fl_X6_15 ⟨rfl, rfl⟩ dX6_begin_7 ?_
  refine nmW hq (fun w1 ew1 hq => ?_)
  rw [← ew1]
  refine x_aload_n C 0 dX6_begin_10 rfl ?_
  refine x_iconst C dX6_begin_11 ?_
  refine x_put (K := 7) (k := 2) C h0 (by decide) cl_X6 (by decide) ⟨rfl, rfl, rfl, rfl⟩ fl_X6_18 ⟨rfl, rfl⟩ dX6_begin_12 ?_
  refine x_aload_n C 0 dX6_begin_15 rfl ?_
  refine x_iconst C dX6_begin_16 ?_
  refine x_put (K := 7) (k := 11) C h0 (by decide) cl_X6 (by decide) ⟨rfl, rfl, rfl, rfl⟩ fl_X6_55 ⟨rfl, rfl⟩ dX6_begin_17 ?_
  refine nmW hq (fun w2 ew2 hq => ?_)
  rw [← ew2]
  refine x_aload_n C 0 dX6_begin_20 rfl ?_
  refine x_getr (K := 7) (k := 3) (o2 := o0 + 1) C h0 (by decide) cl_X6 (by decide) ⟨rfl, rfl, rfl⟩ fl_X6_26 rfl dX6_begin_21 ?_
  refine x_callVv (K := 6) (rm := rmv 0 0 0 0) (As := []) (rest := []) C hA hR0 mf_X5_clear lk_X6_58 rfl (ik7 h0).1 (by decide) ⟨rfl, rfl⟩ ⟨Nat.le_of_ble_eq_true rfl, Nat.le_of_ble_eq_true rfl⟩ rfl rfl (Nat.le_of_ble_eq_true rfl) hce dX6_begin_24 hq (fun _ h => c_X5_clear g.l g.G hdm (ik7 h0).1 h) (fun w3 _ hq => ?_)
  refine x_aload_n C 0 dX6_begin_27 rfl ?_
  refine x_callVv (K := 7) (rm := rmv 0 0 0 0) (As := []) (rest := []) C hA hR0 mf_X6_clearParts lk_X6_61 rfl h0 (by decide) ⟨rfl, rfl⟩ ⟨Nat.le_of_ble_eq_true rfl, Nat.le_of_ble_eq_true rfl⟩ rfl rfl (Nat.le_of_ble_eq_true rfl) hce dX6_begin_28 hq (fun _ h => c_X6_clearParts g.l g.G hdm h0 h) (fun w4 _ hq => ?_)
  refine x_aload_n C 0 dX6_begin_31 rfl ?_
  refine x_getr (K := 7) (k := 10) (o2 := o0 + 11) C h0 (by decide) cl_X6 (by decide) ⟨rfl, rfl, rfl⟩ fl_X6_51 rfl dX6_begin_32 ?_
  refine x_bipush (v := 100) C dX6_begin_35 (by decide +kernel) ?_
  refine x_bipush (v := 10) C dX6_begin_37 (by decide +kernel) ?_
  refine x_callVv (K := 2) (rm := rmv 0 0 0 0) (As := [iV (100), iV (10)]) (rest := []) C hA hR0 mf_X1_renew lk_X6_64 rfl (ik7 h0).2.2.2.2.2 (by decide) ⟨rfl, rfl⟩ ⟨Nat.le_of_ble_eq_true rfl, Nat.le_of_ble_eq_true rfl⟩ rfl rfl (Nat.le_of_ble_eq_true rfl) hce dX6_begin_39 hq (fun _ h => c_X1_renew g.l g.G hdm (ik7 h0).2.2.2.2.2 h) (fun w5 _ hq => ?_)
  refine x_aload_n C 0 dX6_begin_42 rfl ?_
  refine x_getr (K := 7) (k := 10) (o2 := o0 + 11) C h0 (by decide) cl_X6 (by decide) ⟨rfl, rfl, rfl⟩ fl_X6_51 rfl dX6_begin_43 ?_
  refine x_iconst C dX6_begin_46 ?_
  refine x_put (K := 2) (k := 3) C (ik7 h0).2.2.2.2.2 (by decide) cl_X1 (by decide) ⟨rfl, rfl, rfl, rfl⟩ fl_X6_68 ⟨rfl, rfl⟩ dX6_begin_47 ?_
  refine x_aload_n C 0 dX6_begin_50 rfl ?_
  refine x_getr (K := 7) (k := 10) (o2 := o0 + 11) C h0 (by decide) cl_X6 (by decide) ⟨rfl, rfl, rfl⟩ fl_X6_51 rfl dX6_begin_51 ?_
  refine x_iconst C dX6_begin_54 ?_
  refine x_put (K := 2) (k := 4) C (ik7 h0).2.2.2.2.2 (by decide) cl_X1 (by decide) ⟨rfl, rfl, rfl, rfl⟩ fl_X6_71 ⟨rfl, rfl⟩ dX6_begin_55 ?_
  refine nmW hq (fun w6 ew6 hq => ?_)
  rw [← ew6]
  exact hR _ _ _ hq dX6_begin_58
set_option maxRecDepth 100000 in
set_option maxHeartbeats 4000000 in
theorem c_X6_begin (l : Launch) (G : Gd) {dm na : Nat} {ad : Nat → Nat} (hdm : dm = 0) {o0 : Nat} {x1 : Int} {x2 : Int} {w w' : Wd}  (h0 : isK na dm 7 o0) (hq : p_X6_begin o0 x1 x2 w = some w') : mV l yX6_begin cX6_begin 3 none (rmv 1 22 0 0) G dm na ad [.ref (ad (o0)), iV (x1), iV (x2)] w w' := by
  refine met_V [(0, .ref (ad (o0))), (1, iV (x1)), (2, iV (x2))] (by decide) (Nat.le_of_ble_eq_true rfl) rfl rfl (fun g d C S hR => ?_)
  obtain ⟨rfl, hR0, rfl, rfl, rfl, hA⟩ := S
  exact L_X6_begin (d := (na, ad, 0, 0)) C hdm hA hR0 ⟨Nat.zero_le _, Nat.zero_le _⟩ hR h0 _ _ w hq
set_option maxRecDepth 100000 in
set_option maxHeartbeats 4000000 in
theorem L_X3_readEnd {g : Cx} {d : Dl} (C : CX g cX3_readEnd 1 (some .boolean) RX3) (hdm : g.dm = 0) (hA : ∀ q : Nat, g.s.heap.size ≤ q → g.A q) (hR0 : g.R = rmv 5 122 0 0) (hce : d.ce ≤ g.R.cells ∧ d.so ≤ g.R.slots) {res : Int × Wd} (hR : rtI g d cX3_readEnd .boolean res)  (w : Wd) (hq : p_X3_readEnd  w = some res) : XG g d (hP g d w) [(0, .ref (d.ad (9)))] [] 0 := by
  refine x_aload_n C 0 dX3_readEnd_0 rfl ?_
  refine x_getr (K := 4) (k := 0) (o2 := 8) C (isK_lit hdm rfl rfl) (by decide) cl_X3 (by decide) ⟨rfl, rfl, rfl⟩ fl_X3_31 rfl dX3_readEnd_1 ?_
  refine x_ldcS (i := 1) (tx := ";") C (by decide +kernel) dX3_readEnd_4 ?_
  refine x_callVi (K := 8) (rm := rmv 4 100 0 0) (As := [.ref (g.G.aK 1)]) (rest := []) C hA hR0 mf_X7_says lk_X3_55 rfl (isK_lit hdm rfl rfl) (by decide) ⟨rfl, rfl⟩ ⟨Nat.le_of_ble_eq_true rfl, Nat.le_of_ble_eq_true rfl⟩ rfl rfl (Nat.le_of_ble_eq_true rfl) hce dX3_readEnd_6 hq (fun _ _ h => c_X7_says g.l g.G hdm (by decide) h) (fun r2 w1 _ hq => ?_)
  refine x_if_ne (tgt := 18) C dX3_readEnd_9 (by decide) hq (fun hq => ?_) (fun hq => ?_)
  · refine x_aload_n C 0 dX3_readEnd_18 rfl ?_
    refine x_getr (K := 4) (k := 0) (o2 := 8) C (isK_lit hdm rfl rfl) (by decide) cl_X3 (by decide) ⟨rfl, rfl, rfl⟩ fl_X3_31 rfl dX3_readEnd_19 ?_
    refine x_callVv (K := 8) (rm := rmv 1 21 0 0) (As := []) (rest := []) C hA hR0 mf_X7_step lk_X3_63 rfl (isK_lit hdm rfl rfl) (by decide) ⟨rfl, rfl⟩ ⟨Nat.le_of_ble_eq_true rfl, Nat.le_of_ble_eq_true rfl⟩ rfl rfl (Nat.le_of_ble_eq_true rfl) hce dX3_readEnd_22 hq (fun _ h => c_X7_step g.l g.G hdm  h) (fun w3 _ hq => ?_)
    refine x_iconst C dX3_readEnd_25 ?_
    exact hR _ _ _ _ hq (by decide +kernel) dX3_readEnd_26
  · refine x_aload_n C 0 dX3_readEnd_12 rfl ?_
    refine x_iconst C dX3_readEnd_13 ?_
    refine x_callVi (K := 4) (rm := rmv 0 0 0 0) (As := [iV (1)]) (rest := []) C hA hR0 mf_X3_fail lk_X3_59 rfl (isK_lit hdm rfl rfl) (by decide) ⟨rfl, rfl⟩ ⟨Nat.le_of_ble_eq_true rfl, Nat.le_of_ble_eq_true rfl⟩ rfl rfl (Nat.le_of_ble_eq_true rfl) hce dX3_readEnd_14 hq (fun _ _ h => c_X3_fail g.l g.G hdm  h) (fun r5 w4 _ hq => ?_)
    exact hR _ _ _ _ (zr_2 hq) (zr_1 hq) dX3_readEnd_17
set_option maxRecDepth 100000 in
set_option maxHeartbeats 4000000 in
theorem c_X3_readEnd (l : Launch) (G : Gd) {dm na : Nat} {ad : Nat → Nat} (hdm : dm = 0)  {w w' : Wd} {r : Int}  (hq : p_X3_readEnd  w = some (r, w')) : mI l yX3_readEnd cX3_readEnd 1 (some .boolean) (rmv 5 122 0 0) G dm na ad [.ref (ad (9))] w r w' := by
  refine met_I [(0, .ref (ad (9)))] (by decide) (Nat.le_of_ble_eq_true rfl) rfl .boolean rfl (fun g d C S hR => ?_)
  obtain ⟨rfl, hR0, rfl, rfl, rfl, hA⟩ := S
  exact L_X3_readEnd (d := (na, ad, 0, 0)) C hdm hA hR0 ⟨Nat.zero_le _, Nat.zero_le _⟩ hR   w hq
set_option maxRecDepth 100000 in
set_option maxHeartbeats 4000000 in
theorem L_X3_readSize {g : Cx} {d : Dl} (C : CX g cX3_readSize 3 (some .boolean) RX3) (hdm : g.dm = 0) (hA : ∀ q : Nat, g.s.heap.size ≤ q → g.A q) (hR0 : g.R = rmv 6 142 0 0) (hce : d.ce ≤ g.R.cells ∧ d.so ≤ g.R.slots) {res : Int × Wd} (hR : rtI g d cX3_readSize .boolean res) {o1 : Nat} (h1 : isK d.na g.dm 7 o1)  (w : Wd) (hq : p_X3_readSize o1 w = some res) : XG g d (hP g d w) [(0, .ref (d.ad (9))), (1, .ref (d.ad (o1)))] [] 0 := by
  refine x_aload_n C 0 dX3_readSize_0 rfl ?_
  refine x_getr (K := 4) (k := 0) (o2 := 8) C (isK_lit hdm rfl rfl) (by decide) cl_X3 (by decide) ⟨rfl, rfl, rfl⟩ fl_X3_31 rfl dX3_readSize_1 ?_
  refine x_ldcS (i := 0) (tx := "slab") C (by decide +kernel) dX3_readSize_4 ?_
  refine x_callVi (K := 8) (rm := rmv 4 100 0 0) (As := [.ref (g.G.aK 0)]) (rest := []) C hA hR0 mf_X7_says lk_X3_55 rfl (isK_lit hdm rfl rfl) (by decide) ⟨rfl, rfl⟩ ⟨Nat.le_of_ble_eq_true rfl, Nat.le_of_ble_eq_true rfl⟩ rfl rfl (Nat.le_of_ble_eq_true rfl) hce dX3_readSize_6 hq (fun _ _ h => c_X7_says g.l g.G hdm (by decide) h) (fun r2 w1 _ hq => ?_)
  refine x_if_ne (tgt := 18) C dX3_readSize_9 (by decide) hq (fun hq => ?_) (fun hq => ?_)
  · refine x_aload_n C 0 dX3_readSize_18 rfl ?_
    refine x_getr (K := 4) (k := 0) (o2 := 8) C (isK_lit hdm rfl rfl) (by decide) cl_X3 (by decide) ⟨rfl, rfl, rfl⟩ fl_X3_31 rfl dX3_readSize_19 ?_
    refine x_callVv (K := 8) (rm := rmv 1 21 0 0) (As := []) (rest := []) C hA hR0 mf_X7_step lk_X3_63 rfl (isK_lit hdm rfl rfl) (by decide) ⟨rfl, rfl⟩ ⟨Nat.le_of_ble_eq_true rfl, Nat.le_of_ble_eq_true rfl⟩ rfl rfl (Nat.le_of_ble_eq_true rfl) hce dX3_readSize_22 hq (fun _ h => c_X7_step g.l g.G hdm  h) (fun w3 _ hq => ?_)
    refine x_aload_n C 0 dX3_readSize_25 rfl ?_
    refine x_iconst C dX3_readSize_26 ?_
    refine x_bipush (v := 24) C dX3_readSize_27 (by decide +kernel) ?_
    refine x_callVi (K := 4) (rm := rmv 3 65 0 0) (As := [iV (4), iV (24)]) (rest := []) C hA hR0 mf_X3_readNumber lk_X3_66 rfl (isK_lit hdm rfl rfl) (by decide) ⟨rfl, rfl⟩ ⟨Nat.le_of_ble_eq_true rfl, Nat.le_of_ble_eq_true rfl⟩ rfl rfl (Nat.le_of_ble_eq_true rfl) hce dX3_readSize_29 hq (fun _ _ h => c_X3_readNumber g.l g.G hdm  h) (fun r5 w4 _ hq => ?_)
    refine x_if_ne (tgt := 37) C dX3_readSize_32 (by decide) hq (fun hq => ?_) (fun hq => ?_)
    · refine x_aload_n C 0 dX3_readSize_37 rfl ?_
      refine x_get (K := 4) (k := 3) C (isK_lit hdm rfl rfl) (by decide) cl_X3 (by decide) ⟨rfl, rfl, rfl⟩ fl_X3_18 dX3_readSize_38 ?_
      refine x_istore_n (lv' := [(2, iV (gF w4 9 3)), (0, .ref (d.ad (9))), (1, .ref (d.ad (o1)))]) C dX3_readSize_41 (by decide) rfl ?_
      refine x_aload_n C 1 dX3_readSize_42 rfl ?_
      refine x_iconst C dX3_readSize_43 ?_
      refine x_bipush (v := 12) C dX3_readSize_44 (by decide +kernel) ?_
      refine x_callVi (K := 4) (rm := rmv 3 65 0 0) (As := [iV (2), iV (12)]) (rest := []) C hA hR0 mf_X3_readNumber lk_X3_66 rfl (isK_lit hdm rfl rfl) (by decide) ⟨rfl, rfl⟩ ⟨Nat.le_of_ble_eq_true rfl, Nat.le_of_ble_eq_true rfl⟩ rfl rfl (Nat.le_of_ble_eq_true rfl) hce dX3_readSize_46 hq (fun _ _ h => c_X3_readNumber g.l g.G hdm  h) (fun r7 w6 _ hq => ?_)
      refine x_if_ne (tgt := 54) C dX3_readSize_49 (by decide) hq (fun hq => ?_) (fun hq => ?_)
      · refine x_aload_n C 2 dX3_readSize_54 rfl ?_
        refine x_iload_n C 0 dX3_readSize_55 rfl ?_
        refine x_aload_n C 1 dX3_readSize_56 rfl ?_
        refine x_get (K := 4) (k := 3) C (isK_lit hdm rfl rfl) (by decide) cl_X3 (by decide) ⟨rfl, rfl, rfl⟩ fl_X3_18 dX3_readSize_57 ?_
        refine x_callVv (K := 7) (rm := rmv 1 22 0 0) (As := [iV (gF w4 9 3), iV (gF w6 9 3)]) (rest := []) C hA hR0 mf_X6_begin lk_X3_70 rfl h1 (by decide) ⟨rfl, rfl⟩ ⟨Nat.le_of_ble_eq_true rfl, Nat.le_of_ble_eq_true rfl⟩ rfl rfl (Nat.le_of_ble_eq_true rfl) hce dX3_readSize_60 hq (fun _ h => c_X6_begin g.l g.G hdm h1 h) (fun w8 _ hq => ?_)
        refine x_aload_n C 1 dX3_readSize_63 rfl ?_
        refine x_callVi (K := 4) (rm := rmv 5 122 0 0) (As := []) (rest := []) C hA hR0 mf_X3_readEnd lk_X3_76 rfl (isK_lit hdm rfl rfl) (by decide) ⟨rfl, rfl⟩ ⟨Nat.le_of_ble_eq_true rfl, Nat.le_of_ble_eq_true rfl⟩ rfl rfl (Nat.le_of_ble_eq_true rfl) hce dX3_readSize_64 hq (fun _ _ h => c_X3_readEnd g.l g.G hdm  h) (fun r10 w9 _ hq => ?_)
        exact hR _ _ _ _ (zr_2 hq) (zr_1 hq) dX3_readSize_67
      · refine x_iconst C dX3_readSize_52 ?_
        exact hR _ _ _ _ hq (by decide +kernel) dX3_readSize_53
    · refine x_iconst C dX3_readSize_35 ?_
      exact hR _ _ _ _ hq (by decide +kernel) dX3_readSize_36
  · refine x_aload_n C 0 dX3_readSize_12 rfl ?_
    refine x_iconst C dX3_readSize_13 ?_
    refine x_callVi (K := 4) (rm := rmv 0 0 0 0) (As := [iV (1)]) (rest := []) C hA hR0 mf_X3_fail lk_X3_59 rfl (isK_lit hdm rfl rfl) (by decide) ⟨rfl, rfl⟩ ⟨Nat.le_of_ble_eq_true rfl, Nat.le_of_ble_eq_true rfl⟩ rfl rfl (Nat.le_of_ble_eq_true rfl) hce dX3_readSize_14 hq (fun _ _ h => c_X3_fail g.l g.G hdm  h) (fun r12 w11 _ hq => ?_)
    exact hR _ _ _ _ (zr_2 hq) (zr_1 hq) dX3_readSize_17
set_option maxRecDepth 100000 in
set_option maxHeartbeats 4000000 in
theorem c_X3_readSize (l : Launch) (G : Gd) {dm na : Nat} {ad : Nat → Nat} (hdm : dm = 0) {o1 : Nat} {w w' : Wd} {r : Int} (h1 : isK na dm 7 o1) (hq : p_X3_readSize o1 w = some (r, w')) : mI l yX3_readSize cX3_readSize 3 (some .boolean) (rmv 6 142 0 0) G dm na ad [.ref (ad (9)), .ref (ad (o1))] w r w' := by
  refine met_I [(0, .ref (ad (9))), (1, .ref (ad (o1)))] (by decide) (Nat.le_of_ble_eq_true rfl) rfl .boolean rfl (fun g d C S hR => ?_)
  obtain ⟨rfl, hR0, rfl, rfl, rfl, hA⟩ := S
  exact L_X3_readSize (d := (na, ad, 0, 0)) C hdm hA hR0 ⟨Nat.zero_le _, Nat.zero_le _⟩ hR h1  w hq
set_option maxRecDepth 100000 in
set_option maxHeartbeats 4000000 in
theorem L_X6_flawed_29 {g : Cx} {d : Dl} (C : CX g cX6_flawed 4 (some .boolean) RX6) (hdm : g.dm = 0) (hA : ∀ q : Nat, g.s.heap.size ≤ q → g.A q) (hR0 : g.R = rmv 1 21 0 0) (hce : d.ce ≤ g.R.cells ∧ d.so ≤ g.R.slots) {res : Int × Wd} (hR : rtI g d cX6_flawed .boolean res) {o0 : Nat} (h0 : isK d.na g.dm 7 o0) (x1 : Int) (x2 : Int) (s0 : Int) (w : Wd) (hq : p_X6_flawed_29 o0 x1 x2 s0 w = some res) : XG g d (hP g d w) [(0, .ref (d.ad (o0))), (1, iV (x1)), (2, iV (x2))] [iV (s0)] 29 := by
  refine x_istore_n (lv' := [(3, iV (s0)), (0, .ref (d.ad (o0))), (1, iV (x1)), (2, iV (x2))]) C dX6_flawed_29 (by decide) rfl ?_
  refine x_iload_n C 0 dX6_flawed_30 rfl ?_
  refine x_if_eq (tgt := 54) C dX6_flawed_31 (by decide) hq (fun hq => ?_) (fun hq => ?_)
  · refine x_iconst C dX6_flawed_54 ?_
    exact hR _ _ _ _ hq (by decide +kernel) dX6_flawed_55
  · refine x_aload_n C 1 dX6_flawed_34 rfl ?_
    refine x_getr (K := 7) (k := 3) (o2 := o0 + 1) C h0 (by decide) cl_X6 (by decide) ⟨rfl, rfl, rfl⟩ fl_X6_26 rfl dX6_flawed_35 ?_
    refine x_iload_n C 3 dX6_flawed_38 rfl ?_
    refine x_callVi (K := 6) (rm := rmv 0 0 0 0) (As := [iV (x2)]) (rest := []) C hA hR0 mf_X5_at lk_X6_81 rfl (ik7 h0).1 (by decide) ⟨rfl, rfl⟩ ⟨Nat.le_of_ble_eq_true rfl, Nat.le_of_ble_eq_true rfl⟩ rfl rfl (Nat.le_of_ble_eq_true rfl) hce dX6_flawed_39 hq (fun _ _ h => c_X5_at g.l g.G hdm (ik7 h0).1 h) (fun r2 w1 _ hq => ?_)
    refine x_iload_n C 2 dX6_flawed_42 rfl ?_
    refine x_ishr C dX6_flawed_43 ?_
    refine x_iconst C dX6_flawed_44 ?_
    refine x_iand C dX6_flawed_45 ?_
    refine x_iconst C dX6_flawed_46 ?_
    refine x_icmp_ne (tgt := 54) C dX6_flawed_47 (by decide) hq (fun hq => ?_) (fun hq => ?_)
    · refine x_iconst C dX6_flawed_54 ?_
      exact hR _ _ _ _ hq (by decide +kernel) dX6_flawed_55
    · refine x_iconst C dX6_flawed_50 ?_
      refine x_goto (tgt := 55) C dX6_flawed_51 (by decide) ?_
      exact hR _ _ _ _ hq (by decide +kernel) dX6_flawed_55
set_option maxRecDepth 100000 in
set_option maxHeartbeats 4000000 in
theorem L_X6_flawed_28 {g : Cx} {d : Dl} (C : CX g cX6_flawed 4 (some .boolean) RX6) (hdm : g.dm = 0) (hA : ∀ q : Nat, g.s.heap.size ≤ q → g.A q) (hR0 : g.R = rmv 1 21 0 0) (hce : d.ce ≤ g.R.cells ∧ d.so ≤ g.R.slots) {res : Int × Wd} (hR : rtI g d cX6_flawed .boolean res) {o0 : Nat} (h0 : isK d.na g.dm 7 o0) (x1 : Int) (x2 : Int) (w : Wd) (hq : p_X6_flawed_28 o0 x1 x2 w = some res) : XG g d (hP g d w) [(0, .ref (d.ad (o0))), (1, iV (x1)), (2, iV (x2))] [] 28 := by
  refine x_iconst C dX6_flawed_28 ?_
  exact L_X6_flawed_29 C hdm hA hR0 hce hR h0 _ _ _ _ hq
set_option maxRecDepth 100000 in
set_option maxHeartbeats 4000000 in
theorem L_X6_flawed {g : Cx} {d : Dl} (C : CX g cX6_flawed 4 (some .boolean) RX6) (hdm : g.dm = 0) (hA : ∀ q : Nat, g.s.heap.size ≤ q → g.A q) (hR0 : g.R = rmv 1 21 0 0) (hce : d.ce ≤ g.R.cells ∧ d.so ≤ g.R.slots) {res : Int × Wd} (hR : rtI g d cX6_flawed .boolean res) {o0 : Nat} (h0 : isK d.na g.dm 7 o0) (x1 : Int) (x2 : Int) (w : Wd) (hq : p_X6_flawed o0 x1 x2 w = some res) : XG g d (hP g d w) [(0, .ref (d.ad (o0))), (1, iV (x1)), (2, iV (x2))] [] 0 := by
  refine x_iload_n C 1 dX6_flawed_0 rfl ?_
  refine x_if_lt (tgt := 28) C dX6_flawed_1 (by decide) hq (fun hq => ?_) (fun hq => ?_)
  · exact L_X6_flawed_28 C hdm hA hR0 hce hR h0 _ _ _ hq
  · refine x_iload_n C 1 dX6_flawed_4 rfl ?_
    refine x_aload_n C 0 dX6_flawed_5 rfl ?_
    refine x_get (K := 7) (k := 0) C h0 (by decide) cl_X6 (by decide) ⟨rfl, rfl, rfl⟩ fl_X6_9 dX6_flawed_6 ?_
    refine x_icmp_ge (tgt := 28) C dX6_flawed_9 (by decide) hq (fun hq => ?_) (fun hq => ?_)
    · exact L_X6_flawed_28 C hdm hA hR0 hce hR h0 _ _ _ hq
    · refine x_iload_n C 2 dX6_flawed_12 rfl ?_
      refine x_if_lt (tgt := 28) C dX6_flawed_13 (by decide) hq (fun hq => ?_) (fun hq => ?_)
      · exact L_X6_flawed_28 C hdm hA hR0 hce hR h0 _ _ _ hq
      · refine x_iload_n C 2 dX6_flawed_16 rfl ?_
        refine x_aload_n C 0 dX6_flawed_17 rfl ?_
        refine x_get (K := 7) (k := 1) C h0 (by decide) cl_X6 (by decide) ⟨rfl, rfl, rfl⟩ fl_X6_15 dX6_flawed_18 ?_
        refine x_icmp_ge (tgt := 28) C dX6_flawed_21 (by decide) hq (fun hq => ?_) (fun hq => ?_)
        · exact L_X6_flawed_28 C hdm hA hR0 hce hR h0 _ _ _ hq
        · refine x_iconst C dX6_flawed_24 ?_
          refine x_goto (tgt := 29) C dX6_flawed_25 (by decide) ?_
          exact L_X6_flawed_29 C hdm hA hR0 hce hR h0 _ _ _ _ hq
set_option maxRecDepth 100000 in
set_option maxHeartbeats 4000000 in
theorem c_X6_flawed (l : Launch) (G : Gd) {dm na : Nat} {ad : Nat → Nat} (hdm : dm = 0) {o0 : Nat} {x1 : Int} {x2 : Int} {w w' : Wd} {r : Int} (h0 : isK na dm 7 o0) (hq : p_X6_flawed o0 x1 x2 w = some (r, w')) : mI l yX6_flawed cX6_flawed 4 (some .boolean) (rmv 1 21 0 0) G dm na ad [.ref (ad (o0)), iV (x1), iV (x2)] w r w' := by
  refine met_I [(0, .ref (ad (o0))), (1, iV (x1)), (2, iV (x2))] (by decide) (Nat.le_of_ble_eq_true rfl) rfl .boolean rfl (fun g d C S hR => ?_)
  obtain ⟨rfl, hR0, rfl, rfl, rfl, hA⟩ := S
  exact L_X6_flawed (d := (na, ad, 0, 0)) C hdm hA hR0 ⟨Nat.zero_le _, Nat.zero_le _⟩ hR h0 _ _ w hq
set_option maxRecDepth 100000 in
set_option maxHeartbeats 4000000 in
theorem L_X6_mark_65 {g : Cx} {d : Dl} (C : CX g cX6_mark 5 none RX6) (hdm : g.dm = 0) (hA : ∀ q : Nat, g.s.heap.size ≤ q → g.A q) (hR0 : g.R = rmv 1 22 0 0) (hce : d.ce ≤ g.R.cells ∧ d.so ≤ g.R.slots) {res : Wd} (hR : rtV g d cX6_mark res) {o0 : Nat} (h0 : isK d.na g.dm 7 o0) (s0 : Int) (s1 : Int) (w : Wd) (hq : p_X6_mark_65 o0 s0 s1 w = some res) : XG g d (hP g d w) [] [iV (s0), iV (s1), .ref (d.ad (o0 + 1))] 65 := by
  refine x_callVv (K := 6) (rm := rmv 0 0 0 0) (As := [iV (s1), iV (s0)]) (rest := []) C hA hR0 mf_X5_put lk_X6_85 rfl (ik7 h0).1 (by decide) ⟨rfl, rfl⟩ ⟨Nat.le_of_ble_eq_true rfl, Nat.le_of_ble_eq_true rfl⟩ rfl rfl (Nat.le_of_ble_eq_true rfl) hce dX6_mark_65 hq (fun _ h => c_X5_put g.l g.G hdm (ik7 h0).1 h) (fun w1 _ hq => ?_)
  exact hR _ _ _ hq dX6_mark_68
set_option maxRecDepth 100000 in
set_option maxHeartbeats 4000000 in
theorem L_X6_mark {g : Cx} {d : Dl} (C : CX g cX6_mark 5 none RX6) (hdm : g.dm = 0) (hA : ∀ q : Nat, g.s.heap.size ≤ q → g.A q) (hR0 : g.R = rmv 1 22 0 0) (hce : d.ce ≤ g.R.cells ∧ d.so ≤ g.R.slots) {res : Wd} (hR : rtV g d cX6_mark res) {o0 : Nat} (h0 : isK d.na g.dm 7 o0) (x1 : Int) (x2 : Int) (x3 : Int) (w : Wd) (hq : p_X6_mark o0 x1 x2 x3 w = some res) : XG g d (hP g d w) [(0, .ref (d.ad (o0))), (1, iV (x1)), (2, iV (x2)), (3, iV (x3))] [] 0 := by
  refine x_iload_n C 1 dX6_mark_0 rfl ?_
  refine x_if_lt (tgt := 68) C dX6_mark_1 (by decide) hq (fun hq => ?_) (fun hq => ?_)
  · exact hR _ _ _ hq dX6_mark_68
  · refine x_iload_n C 1 dX6_mark_4 rfl ?_
    refine x_aload_n C 0 dX6_mark_5 rfl ?_
    refine x_get (K := 7) (k := 0) C h0 (by decide) cl_X6 (by decide) ⟨rfl, rfl, rfl⟩ fl_X6_9 dX6_mark_6 ?_
    refine x_icmp_ge (tgt := 68) C dX6_mark_9 (by decide) hq (fun hq => ?_) (fun hq => ?_)
    · exact hR _ _ _ hq dX6_mark_68
    · refine x_iload_n C 2 dX6_mark_12 rfl ?_
      refine x_if_lt (tgt := 68) C dX6_mark_13 (by decide) hq (fun hq => ?_) (fun hq => ?_)
      · exact hR _ _ _ hq dX6_mark_68
      · refine x_iload_n C 2 dX6_mark_16 rfl ?_
        refine x_aload_n C 0 dX6_mark_17 rfl ?_
        refine x_get (K := 7) (k := 1) C h0 (by decide) cl_X6 (by decide) ⟨rfl, rfl, rfl⟩ fl_X6_15 dX6_mark_18 ?_
        refine x_icmp_ge (tgt := 68) C dX6_mark_21 (by decide) hq (fun hq => ?_) (fun hq => ?_)
        · exact hR _ _ _ hq dX6_mark_68
        · refine x_iconst C dX6_mark_24 ?_
          refine x_iload_n C 1 dX6_mark_25 rfl ?_
          refine x_ishl C dX6_mark_26 ?_
          refine x_istore (lv' := [(4, iV (sl32 1 x1)), (0, .ref (d.ad (o0))), (1, iV (x1)), (2, iV (x2)), (3, iV (x3))]) C dX6_mark_27 (by decide) rfl ?_
          refine x_aload_n C 1 dX6_mark_29 rfl ?_
          refine x_getr (K := 7) (k := 3) (o2 := o0 + 1) C h0 (by decide) cl_X6 (by decide) ⟨rfl, rfl, rfl⟩ fl_X6_26 rfl dX6_mark_30 ?_
          refine x_iload_n C 3 dX6_mark_33 rfl ?_
          refine x_iload_n C 4 dX6_mark_34 rfl ?_
          refine x_if_eq (tgt := 52) C dX6_mark_35 (by decide) hq (fun hq => ?_) (fun hq => ?_)
          · refine x_aload_n C 1 dX6_mark_52 rfl ?_
            refine x_getr (K := 7) (k := 3) (o2 := o0 + 1) C h0 (by decide) cl_X6 (by decide) ⟨rfl, rfl, rfl⟩ fl_X6_26 rfl dX6_mark_53 ?_
            refine x_iload_n C 3 dX6_mark_56 rfl ?_
            refine x_callVi (K := 6) (rm := rmv 0 0 0 0) (As := [iV (x2)]) (rest := [iV (x2), .ref (d.ad (o0 + 1))]) C hA hR0 mf_X5_at lk_X6_81 rfl (ik7 h0).1 (by decide) ⟨rfl, rfl⟩ ⟨Nat.le_of_ble_eq_true rfl, Nat.le_of_ble_eq_true rfl⟩ rfl rfl (Nat.le_of_ble_eq_true rfl) hce dX6_mark_57 hq (fun _ _ h => c_X5_at g.l g.G hdm (ik7 h0).1 h) (fun r2 w1 _ hq => ?_)
            refine x_iload C 0 dX6_mark_60 rfl ?_
            refine x_iconst C dX6_mark_62 ?_
            refine x_ixor C dX6_mark_63 ?_
            refine x_iand C dX6_mark_64 ?_
            refine XG.sub [] rfl ?_
            exact L_X6_mark_65 C hdm hA hR0 hce hR h0 _ _ _ hq
          · refine x_aload_n C 1 dX6_mark_38 rfl ?_
            refine x_getr (K := 7) (k := 3) (o2 := o0 + 1) C h0 (by decide) cl_X6 (by decide) ⟨rfl, rfl, rfl⟩ fl_X6_26 rfl dX6_mark_39 ?_
            refine x_iload_n C 3 dX6_mark_42 rfl ?_
            refine x_callVi (K := 6) (rm := rmv 0 0 0 0) (As := [iV (x2)]) (rest := [iV (x2), .ref (d.ad (o0 + 1))]) C hA hR0 mf_X5_at lk_X6_81 rfl (ik7 h0).1 (by decide) ⟨rfl, rfl⟩ ⟨Nat.le_of_ble_eq_true rfl, Nat.le_of_ble_eq_true rfl⟩ rfl rfl (Nat.le_of_ble_eq_true rfl) hce dX6_mark_43 hq (fun _ _ h => c_X5_at g.l g.G hdm (ik7 h0).1 h) (fun r4 w3 _ hq => ?_)
            refine x_iload C 0 dX6_mark_46 rfl ?_
            refine x_ior C dX6_mark_48 ?_
            refine x_goto (tgt := 65) C dX6_mark_49 (by decide) ?_
            refine XG.sub [] rfl ?_
            exact L_X6_mark_65 C hdm hA hR0 hce hR h0 _ _ _ hq
set_option maxRecDepth 100000 in
set_option maxHeartbeats 4000000 in
theorem c_X6_mark (l : Launch) (G : Gd) {dm na : Nat} {ad : Nat → Nat} (hdm : dm = 0) {o0 : Nat} {x1 : Int} {x2 : Int} {x3 : Int} {w w' : Wd}  (h0 : isK na dm 7 o0) (hq : p_X6_mark o0 x1 x2 x3 w = some w') : mV l yX6_mark cX6_mark 5 none (rmv 1 22 0 0) G dm na ad [.ref (ad (o0)), iV (x1), iV (x2), iV (x3)] w w' := by
  refine met_V [(0, .ref (ad (o0))), (1, iV (x1)), (2, iV (x2)), (3, iV (x3))] (by decide) (Nat.le_of_ble_eq_true rfl) rfl rfl (fun g d C S hR => ?_)
  obtain ⟨rfl, hR0, rfl, rfl, rfl, hA⟩ := S
  exact L_X6_mark (d := (na, ad, 0, 0)) C hdm hA hR0 ⟨Nat.zero_le _, Nat.zero_le _⟩ hR h0 _ _ _ w hq
set_option maxRecDepth 100000 in
set_option maxHeartbeats 4000000 in
theorem L_X3_readFlaw {g : Cx} {d : Dl} (C : CX g cX3_readFlaw 3 (some .boolean) RX3) (hdm : g.dm = 0) (hA : ∀ q : Nat, g.s.heap.size ≤ q → g.A q) (hR0 : g.R = rmv 3 65 0 0) (hce : d.ce ≤ g.R.cells ∧ d.so ≤ g.R.slots) {res : Int × Wd} (hR : rtI g d cX3_readFlaw .boolean res) {o1 : Nat} (h1 : isK d.na g.dm 7 o1)  (w : Wd) (hq : p_X3_readFlaw o1 w = some res) : XG g d (hP g d w) [(0, .ref (d.ad (9))), (1, .ref (d.ad (o1)))] [] 0 := by
  refine x_aload_n C 0 dX3_readFlaw_0 rfl ?_
  refine x_iconst C dX3_readFlaw_1 ?_
  refine x_aload_n C 1 dX3_readFlaw_2 rfl ?_
  refine x_get (K := 7) (k := 0) C h1 (by decide) cl_X6 (by decide) ⟨rfl, rfl, rfl⟩ fl_X3_110 dX3_readFlaw_3 ?_
  refine x_iconst C dX3_readFlaw_6 ?_
  refine x_isub C dX3_readFlaw_7 ?_
  refine x_callVi (K := 4) (rm := rmv 2 43 0 0) (As := [iV (0), iV ((gF w o1 0) - 1)]) (rest := []) C hA hR0 mf_X3_checkNumber lk_X3_113 rfl (isK_lit hdm rfl rfl) (by decide) ⟨rfl, rfl⟩ ⟨Nat.le_of_ble_eq_true rfl, Nat.le_of_ble_eq_true rfl⟩ rfl rfl (Nat.le_of_ble_eq_true rfl) hce dX3_readFlaw_8 hq (fun _ _ h => c_X3_checkNumber g.l g.G hdm  h) (fun r2 w1 _ hq => ?_)
  refine x_if_ne (tgt := 16) C dX3_readFlaw_11 (by decide) hq (fun hq => ?_) (fun hq => ?_)
  · refine x_aload_n C 0 dX3_readFlaw_16 rfl ?_
    refine x_get (K := 4) (k := 4) C (isK_lit hdm rfl rfl) (by decide) cl_X3 (by decide) ⟨rfl, rfl, rfl⟩ fl_X3_21 dX3_readFlaw_17 ?_
    refine x_bipush (v := 40) C dX3_readFlaw_20 (by decide +kernel) ?_
    refine x_icmp_lt (tgt := 31) C dX3_readFlaw_22 (by decide) hq (fun hq => ?_) (fun hq => ?_)
    · refine x_aload_n C 0 dX3_readFlaw_31 rfl ?_
      refine x_get (K := 4) (k := 3) C (isK_lit hdm rfl rfl) (by decide) cl_X3 (by decide) ⟨rfl, rfl, rfl⟩ fl_X3_18 dX3_readFlaw_32 ?_
      refine x_istore_n (lv' := [(2, iV (gF w1 9 3)), (0, .ref (d.ad (9))), (1, .ref (d.ad (o1)))]) C dX3_readFlaw_35 (by decide) rfl ?_
      refine x_aload_n C 1 dX3_readFlaw_36 rfl ?_
      refine x_getr (K := 4) (k := 0) (o2 := 8) C (isK_lit hdm rfl rfl) (by decide) cl_X3 (by decide) ⟨rfl, rfl, rfl⟩ fl_X3_31 rfl dX3_readFlaw_37 ?_
      refine x_callVv (K := 8) (rm := rmv 1 21 0 0) (As := []) (rest := []) C hA hR0 mf_X7_step lk_X3_63 rfl (isK_lit hdm rfl rfl) (by decide) ⟨rfl, rfl⟩ ⟨Nat.le_of_ble_eq_true rfl, Nat.le_of_ble_eq_true rfl⟩ rfl rfl (Nat.le_of_ble_eq_true rfl) hce dX3_readFlaw_40 hq (fun _ h => c_X7_step g.l g.G hdm  h) (fun w3 _ hq => ?_)
      refine x_aload_n C 1 dX3_readFlaw_43 rfl ?_
      refine x_iconst C dX3_readFlaw_44 ?_
      refine x_aload_n C 2 dX3_readFlaw_45 rfl ?_
      refine x_get (K := 7) (k := 1) C h1 (by decide) cl_X6 (by decide) ⟨rfl, rfl, rfl⟩ fl_X3_116 dX3_readFlaw_46 ?_
      refine x_iconst C dX3_readFlaw_49 ?_
      refine x_isub C dX3_readFlaw_50 ?_
      refine x_callVi (K := 4) (rm := rmv 2 43 0 0) (As := [iV (0), iV ((gF w3 o1 1) - 1)]) (rest := []) C hA hR0 mf_X3_checkNumber lk_X3_113 rfl (isK_lit hdm rfl rfl) (by decide) ⟨rfl, rfl⟩ ⟨Nat.le_of_ble_eq_true rfl, Nat.le_of_ble_eq_true rfl⟩ rfl rfl (Nat.le_of_ble_eq_true rfl) hce dX3_readFlaw_51 hq (fun _ _ h => c_X3_checkNumber g.l g.G hdm  h) (fun r5 w4 _ hq => ?_)
      refine x_if_ne (tgt := 59) C dX3_readFlaw_54 (by decide) hq (fun hq => ?_) (fun hq => ?_)
      · refine x_aload_n C 2 dX3_readFlaw_59 rfl ?_
        refine x_iload_n C 0 dX3_readFlaw_60 rfl ?_
        refine x_aload_n C 1 dX3_readFlaw_61 rfl ?_
        refine x_get (K := 4) (k := 3) C (isK_lit hdm rfl rfl) (by decide) cl_X3 (by decide) ⟨rfl, rfl, rfl⟩ fl_X3_18 dX3_readFlaw_62 ?_
        refine x_callVi (K := 7) (rm := rmv 1 21 0 0) (As := [iV (gF w1 9 3), iV (gF w4 9 3)]) (rest := []) C hA hR0 mf_X6_flawed lk_X3_119 rfl h1 (by decide) ⟨rfl, rfl⟩ ⟨Nat.le_of_ble_eq_true rfl, Nat.le_of_ble_eq_true rfl⟩ rfl rfl (Nat.le_of_ble_eq_true rfl) hce dX3_readFlaw_65 hq (fun _ _ h => c_X6_flawed g.l g.G hdm h1 h) (fun r7 w6 _ hq => ?_)
        refine x_if_eq (tgt := 77) C dX3_readFlaw_68 (by decide) hq (fun hq => ?_) (fun hq => ?_)
        · refine x_aload_n C 2 dX3_readFlaw_77 rfl ?_
          refine x_iload_n C 0 dX3_readFlaw_78 rfl ?_
          refine x_aload_n C 1 dX3_readFlaw_79 rfl ?_
          refine x_get (K := 4) (k := 3) C (isK_lit hdm rfl rfl) (by decide) cl_X3 (by decide) ⟨rfl, rfl, rfl⟩ fl_X3_18 dX3_readFlaw_80 ?_
          refine x_iconst C dX3_readFlaw_83 ?_
          refine x_callVv (K := 7) (rm := rmv 1 22 0 0) (As := [iV (gF w1 9 3), iV (gF w6 9 3), iV (1)]) (rest := []) C hA hR0 mf_X6_mark lk_X3_122 rfl h1 (by decide) ⟨rfl, rfl⟩ ⟨Nat.le_of_ble_eq_true rfl, Nat.le_of_ble_eq_true rfl⟩ rfl rfl (Nat.le_of_ble_eq_true rfl) hce dX3_readFlaw_84 hq (fun _ h => c_X6_mark g.l g.G hdm h1 h) (fun w8 _ hq => ?_)
          refine x_aload_n C 1 dX3_readFlaw_87 rfl ?_
          refine x_dup C rfl dX3_readFlaw_88 ?_
          refine x_get (K := 4) (k := 4) C (isK_lit hdm rfl rfl) (by decide) cl_X3 (by decide) ⟨rfl, rfl, rfl⟩ fl_X3_21 dX3_readFlaw_89 ?_
          refine x_iconst C dX3_readFlaw_92 ?_
          refine x_iadd C dX3_readFlaw_93 ?_
          refine x_put (K := 4) (k := 4) C (isK_lit hdm rfl rfl) (by decide) cl_X3 (by decide) ⟨rfl, rfl, rfl, rfl⟩ fl_X3_21 ⟨rfl, rfl⟩ dX3_readFlaw_94 ?_
          refine x_aload_n C 1 dX3_readFlaw_97 rfl ?_
          refine x_getr (K := 4) (k := 0) (o2 := 8) C (isK_lit hdm rfl rfl) (by decide) cl_X3 (by decide) ⟨rfl, rfl, rfl⟩ fl_X3_31 rfl dX3_readFlaw_98 ?_
          refine x_callVv (K := 8) (rm := rmv 1 21 0 0) (As := []) (rest := []) C hA hR0 mf_X7_step lk_X3_63 rfl (isK_lit hdm rfl rfl) (by decide) ⟨rfl, rfl⟩ ⟨Nat.le_of_ble_eq_true rfl, Nat.le_of_ble_eq_true rfl⟩ rfl rfl (Nat.le_of_ble_eq_true rfl) hce dX3_readFlaw_101 hq (fun _ h => c_X7_step g.l g.G hdm  h) (fun w9 _ hq => ?_)
          refine x_iconst C dX3_readFlaw_104 ?_
          exact hR _ _ _ _ hq (by decide +kernel) dX3_readFlaw_105
        · refine x_aload_n C 1 dX3_readFlaw_71 rfl ?_
          refine x_iconst C dX3_readFlaw_72 ?_
          refine x_callVi (K := 4) (rm := rmv 0 0 0 0) (As := [iV (3)]) (rest := []) C hA hR0 mf_X3_fail lk_X3_59 rfl (isK_lit hdm rfl rfl) (by decide) ⟨rfl, rfl⟩ ⟨Nat.le_of_ble_eq_true rfl, Nat.le_of_ble_eq_true rfl⟩ rfl rfl (Nat.le_of_ble_eq_true rfl) hce dX3_readFlaw_73 hq (fun _ _ h => c_X3_fail g.l g.G hdm  h) (fun r11 w10 _ hq => ?_)
          exact hR _ _ _ _ (zr_2 hq) (zr_1 hq) dX3_readFlaw_76
      · refine x_iconst C dX3_readFlaw_57 ?_
        exact hR _ _ _ _ hq (by decide +kernel) dX3_readFlaw_58
    · refine x_aload_n C 0 dX3_readFlaw_25 rfl ?_
      refine x_iconst C dX3_readFlaw_26 ?_
      refine x_callVi (K := 4) (rm := rmv 0 0 0 0) (As := [iV (5)]) (rest := []) C hA hR0 mf_X3_fail lk_X3_59 rfl (isK_lit hdm rfl rfl) (by decide) ⟨rfl, rfl⟩ ⟨Nat.le_of_ble_eq_true rfl, Nat.le_of_ble_eq_true rfl⟩ rfl rfl (Nat.le_of_ble_eq_true rfl) hce dX3_readFlaw_27 hq (fun _ _ h => c_X3_fail g.l g.G hdm  h) (fun r13 w12 _ hq => ?_)
      exact hR _ _ _ _ (zr_2 hq) (zr_1 hq) dX3_readFlaw_30
  · refine x_iconst C dX3_readFlaw_14 ?_
    exact hR _ _ _ _ hq (by decide +kernel) dX3_readFlaw_15
set_option maxRecDepth 100000 in
set_option maxHeartbeats 4000000 in
theorem c_X3_readFlaw (l : Launch) (G : Gd) {dm na : Nat} {ad : Nat → Nat} (hdm : dm = 0) {o1 : Nat} {w w' : Wd} {r : Int} (h1 : isK na dm 7 o1) (hq : p_X3_readFlaw o1 w = some (r, w')) : mI l yX3_readFlaw cX3_readFlaw 3 (some .boolean) (rmv 3 65 0 0) G dm na ad [.ref (ad (9)), .ref (ad (o1))] w r w' := by
  refine met_I [(0, .ref (ad (9))), (1, .ref (ad (o1)))] (by decide) (Nat.le_of_ble_eq_true rfl) rfl .boolean rfl (fun g d C S hR => ?_)
  obtain ⟨rfl, hR0, rfl, rfl, rfl, hA⟩ := S
  exact L_X3_readFlaw (d := (na, ad, 0, 0)) C hdm hA hR0 ⟨Nat.zero_le _, Nat.zero_le _⟩ hR h1  w hq
set_option maxRecDepth 100000 in
set_option maxHeartbeats 4000000 in
theorem L_X3_readFlaws_48 {g : Cx} {d : Dl} (C : CX g cX3_readFlaws 4 (some .boolean) RX3) (hdm : g.dm = 0) (hA : ∀ q : Nat, g.s.heap.size ≤ q → g.A q) (hR0 : g.R = rmv 6 142 0 0) (hce : d.ce ≤ g.R.cells ∧ d.so ≤ g.R.slots) {res : Int × Wd} (hR : rtI g d cX3_readFlaws .boolean res) {o1 : Nat} (h1 : isK d.na g.dm 7 o1)  (w : Wd) (hq : p_X3_readFlaws_48 o1 w = some res) : XG g d (hP g d w) [(0, .ref (d.ad (9)))] [] 48 := by
  refine x_aload_n C 0 dX3_readFlaws_48 rfl ?_
  refine x_callVi (K := 4) (rm := rmv 5 122 0 0) (As := []) (rest := []) C hA hR0 mf_X3_readEnd lk_X3_76 rfl (isK_lit hdm rfl rfl) (by decide) ⟨rfl, rfl⟩ ⟨Nat.le_of_ble_eq_true rfl, Nat.le_of_ble_eq_true rfl⟩ rfl rfl (Nat.le_of_ble_eq_true rfl) hce dX3_readFlaws_49 hq (fun _ _ h => c_X3_readEnd g.l g.G hdm  h) (fun r2 w1 _ hq => ?_)
  exact hR _ _ _ _ (zr_2 hq) (zr_1 hq) dX3_readFlaws_52
set_option maxRecDepth 100000 in
set_option maxHeartbeats 4000000 in
theorem L_X3_readFlaws_4 {g : Cx} {d : Dl} (C : CX g cX3_readFlaws 4 (some .boolean) RX3) (hdm : g.dm = 0) (hA : ∀ q : Nat, g.s.heap.size ≤ q → g.A q) (hR0 : g.R = rmv 6 142 0 0) (hce : d.ce ≤ g.R.cells ∧ d.so ≤ g.R.slots) {res : Int × Wd} (hR : rtI g d cX3_readFlaws .boolean res) {o1 : Nat} (h1 : isK d.na g.dm 7 o1) : ∀ (n : Nat) (x2 : Int) (x3 : Int) (w : Wd), p_X3_readFlaws_4 o1 n x2 x3 w = some res → XG g d (hP g d w) [(0, .ref (d.ad (9))), (1, .ref (d.ad (o1))), (2, iV (x2)), (3, iV (x3))] [] 4 := by
  intro n
  induction n with
  | zero => intro x2 x3 w  hq; exact nomatch (show none = some _ from hq)
  | succ n ih =>
    intro x2 x3 w  hq
    refine x_iload_n C 3 dX3_readFlaws_4 rfl ?_
    refine x_sipush (v := 500) C dX3_readFlaws_5 (by decide +kernel) ?_
    refine x_icmp_ge (tgt := 48) C dX3_readFlaws_8 (by decide) hq (fun hq => ?_) (fun hq => ?_)
    · refine XG.sub [0] rfl ?_
      exact L_X3_readFlaws_48 C hdm hA hR0 hce hR h1 _ hq
    · refine x_iload_n C 2 dX3_readFlaws_11 rfl ?_
      refine x_if_eq (tgt := 48) C dX3_readFlaws_12 (by decide) hq (fun hq => ?_) (fun hq => ?_)
      · refine XG.sub [0] rfl ?_
        exact L_X3_readFlaws_48 C hdm hA hR0 hce hR h1 _ hq
      · refine x_aload_n C 0 dX3_readFlaws_15 rfl ?_
        refine x_getr (K := 4) (k := 0) (o2 := 8) C (isK_lit hdm rfl rfl) (by decide) cl_X3 (by decide) ⟨rfl, rfl, rfl⟩ fl_X3_31 rfl dX3_readFlaws_16 ?_
        refine x_callVv (K := 8) (rm := rmv 1 21 0 0) (As := []) (rest := []) C hA hR0 mf_X7_step lk_X3_63 rfl (isK_lit hdm rfl rfl) (by decide) ⟨rfl, rfl⟩ ⟨Nat.le_of_ble_eq_true rfl, Nat.le_of_ble_eq_true rfl⟩ rfl rfl (Nat.le_of_ble_eq_true rfl) hce dX3_readFlaws_19 hq (fun _ h => c_X7_step g.l g.G hdm  h) (fun w1 _ hq => ?_)
        refine x_aload_n C 0 dX3_readFlaws_22 rfl ?_
        refine x_aload_n C 1 dX3_readFlaws_23 rfl ?_
        refine x_callVi (K := 4) (rm := rmv 3 65 0 0) (As := [.ref (d.ad (o1))]) (rest := []) C hA hR0 mf_X3_readFlaw lk_X3_105 rfl (isK_lit hdm rfl rfl) (by decide) ⟨rfl, rfl⟩ ⟨Nat.le_of_ble_eq_true rfl, Nat.le_of_ble_eq_true rfl⟩ rfl rfl (Nat.le_of_ble_eq_true rfl) hce dX3_readFlaws_24 hq (fun _ _ h => c_X3_readFlaw g.l g.G hdm h1 h) (fun r3 w2 _ hq => ?_)
        refine x_if_ne (tgt := 32) C dX3_readFlaws_27 (by decide) hq (fun hq => ?_) (fun hq => ?_)
        · refine x_aload_n C 0 dX3_readFlaws_32 rfl ?_
          refine x_getr (K := 4) (k := 0) (o2 := 8) C (isK_lit hdm rfl rfl) (by decide) cl_X3 (by decide) ⟨rfl, rfl, rfl⟩ fl_X3_31 rfl dX3_readFlaws_33 ?_
          refine x_ldcS (i := 3) (tx := ",") C (by decide +kernel) dX3_readFlaws_36 ?_
          refine x_callVi (K := 8) (rm := rmv 4 100 0 0) (As := [.ref (g.G.aK 3)]) (rest := []) C hA hR0 mf_X7_says lk_X3_55 rfl (isK_lit hdm rfl rfl) (by decide) ⟨rfl, rfl⟩ ⟨Nat.le_of_ble_eq_true rfl, Nat.le_of_ble_eq_true rfl⟩ rfl rfl (Nat.le_of_ble_eq_true rfl) hce dX3_readFlaws_38 hq (fun _ _ h => c_X7_says g.l g.G hdm (by decide) h) (fun r5 w4 _ hq => ?_)
          refine x_istore_n (lv' := [(2, iV (r5)), (0, .ref (d.ad (9))), (1, .ref (d.ad (o1))), (3, iV (x3))]) C dX3_readFlaws_41 (by decide) rfl ?_
          refine x_iinc (lv' := [(3, iV (x3 + 1)), (2, iV (r5)), (0, .ref (d.ad (9))), (1, .ref (d.ad (o1)))]) C 3 dX3_readFlaws_42 rfl (by decide) rfl ?_
          refine x_goto (tgt := 4) C dX3_readFlaws_45 (by decide) ?_
          refine XG.sub [2, 3, 1, 0] rfl ?_
          exact ih _ _ _ hq
        · refine x_iconst C dX3_readFlaws_30 ?_
          exact hR _ _ _ _ hq (by decide +kernel) dX3_readFlaws_31
set_option maxRecDepth 100000 in
set_option maxHeartbeats 4000000 in
theorem L_X3_readFlaws {g : Cx} {d : Dl} (C : CX g cX3_readFlaws 4 (some .boolean) RX3) (hdm : g.dm = 0) (hA : ∀ q : Nat, g.s.heap.size ≤ q → g.A q) (hR0 : g.R = rmv 6 142 0 0) (hce : d.ce ≤ g.R.cells ∧ d.so ≤ g.R.slots) {res : Int × Wd} (hR : rtI g d cX3_readFlaws .boolean res) {o1 : Nat} (h1 : isK d.na g.dm 7 o1)  (w : Wd) (hq : p_X3_readFlaws o1 w = some res) : XG g d (hP g d w) [(0, .ref (d.ad (9))), (1, .ref (d.ad (o1)))] [] 0 := by
  refine x_iconst C dX3_readFlaws_0 ?_
  refine x_istore_n (lv' := [(2, iV (1)), (0, .ref (d.ad (9))), (1, .ref (d.ad (o1)))]) C dX3_readFlaws_1 (by decide) rfl ?_
  refine x_iconst C dX3_readFlaws_2 ?_
  refine x_istore_n (lv' := [(3, iV (0)), (2, iV (1)), (0, .ref (d.ad (9))), (1, .ref (d.ad (o1)))]) C dX3_readFlaws_3 (by decide) rfl ?_
  refine XG.sub [2, 3, 1, 0] rfl ?_
  exact L_X3_readFlaws_4 C hdm hA hR0 hce hR h1 _ _ _ _ hq
set_option maxRecDepth 100000 in
set_option maxHeartbeats 4000000 in
theorem c_X3_readFlaws (l : Launch) (G : Gd) {dm na : Nat} {ad : Nat → Nat} (hdm : dm = 0) {o1 : Nat} {w w' : Wd} {r : Int} (h1 : isK na dm 7 o1) (hq : p_X3_readFlaws o1 w = some (r, w')) : mI l yX3_readFlaws cX3_readFlaws 4 (some .boolean) (rmv 6 142 0 0) G dm na ad [.ref (ad (9)), .ref (ad (o1))] w r w' := by
  refine met_I [(0, .ref (ad (9))), (1, .ref (ad (o1)))] (by decide) (Nat.le_of_ble_eq_true rfl) rfl .boolean rfl (fun g d C S hR => ?_)
  obtain ⟨rfl, hR0, rfl, rfl, rfl, hA⟩ := S
  exact L_X3_readFlaws (d := (na, ad, 0, 0)) C hdm hA hR0 ⟨Nat.zero_le _, Nat.zero_le _⟩ hR h1  w hq
set_option maxRecDepth 100000 in
set_option maxHeartbeats 4000000 in
theorem L_X3_readGap {g : Cx} {d : Dl} (C : CX g cX3_readGap 2 (some .boolean) RX3) (hdm : g.dm = 0) (hA : ∀ q : Nat, g.s.heap.size ≤ q → g.A q) (hR0 : g.R = rmv 6 142 0 0) (hce : d.ce ≤ g.R.cells ∧ d.so ≤ g.R.slots) {res : Int × Wd} (hR : rtI g d cX3_readGap .boolean res) {o1 : Nat} (h1 : isK d.na g.dm 7 o1)  (w : Wd) (hq : p_X3_readGap o1 w = some res) : XG g d (hP g d w) [(0, .ref (d.ad (9))), (1, .ref (d.ad (o1)))] [] 0 := by
  refine x_aload_n C 0 dX3_readGap_0 rfl ?_
  refine x_get (K := 4) (k := 5) C (isK_lit hdm rfl rfl) (by decide) cl_X3 (by decide) ⟨rfl, rfl, rfl⟩ fl_X3_24 dX3_readGap_1 ?_
  refine x_if_eq (tgt := 13) C dX3_readGap_4 (by decide) hq (fun hq => ?_) (fun hq => ?_)
  · refine x_aload_n C 0 dX3_readGap_13 rfl ?_
    refine x_iconst C dX3_readGap_14 ?_
    refine x_put (K := 4) (k := 5) C (isK_lit hdm rfl rfl) (by decide) cl_X3 (by decide) ⟨rfl, rfl, rfl, rfl⟩ fl_X3_24 (by decide +kernel) dX3_readGap_15 ?_
    refine x_aload_n C 0 dX3_readGap_18 rfl ?_
    refine x_getr (K := 4) (k := 0) (o2 := 8) C (isK_lit hdm rfl rfl) (by decide) cl_X3 (by decide) ⟨rfl, rfl, rfl⟩ fl_X3_31 rfl dX3_readGap_19 ?_
    refine x_callVv (K := 8) (rm := rmv 1 21 0 0) (As := []) (rest := []) C hA hR0 mf_X7_step lk_X3_63 rfl (isK_lit hdm rfl rfl) (by decide) ⟨rfl, rfl⟩ ⟨Nat.le_of_ble_eq_true rfl, Nat.le_of_ble_eq_true rfl⟩ rfl rfl (Nat.le_of_ble_eq_true rfl) hce dX3_readGap_22 hq (fun _ h => c_X7_step g.l g.G hdm  h) (fun w1 _ hq => ?_)
    refine x_aload_n C 0 dX3_readGap_25 rfl ?_
    refine x_iconst C dX3_readGap_26 ?_
    refine x_iconst C dX3_readGap_27 ?_
    refine x_callVi (K := 4) (rm := rmv 3 65 0 0) (As := [iV (0), iV (3)]) (rest := []) C hA hR0 mf_X3_readNumber lk_X3_66 rfl (isK_lit hdm rfl rfl) (by decide) ⟨rfl, rfl⟩ ⟨Nat.le_of_ble_eq_true rfl, Nat.le_of_ble_eq_true rfl⟩ rfl rfl (Nat.le_of_ble_eq_true rfl) hce dX3_readGap_28 hq (fun _ _ h => c_X3_readNumber g.l g.G hdm  h) (fun r3 w2 _ hq => ?_)
    refine x_if_ne (tgt := 36) C dX3_readGap_31 (by decide) hq (fun hq => ?_) (fun hq => ?_)
    · refine x_aload_n C 1 dX3_readGap_36 rfl ?_
      refine x_aload_n C 0 dX3_readGap_37 rfl ?_
      refine x_get (K := 4) (k := 3) C (isK_lit hdm rfl rfl) (by decide) cl_X3 (by decide) ⟨rfl, rfl, rfl⟩ fl_X3_18 dX3_readGap_38 ?_
      refine x_put (K := 7) (k := 2) C h1 (by decide) cl_X6 (by decide) ⟨rfl, rfl, rfl, rfl⟩ fl_X3_126 ⟨rfl, rfl⟩ dX3_readGap_41 ?_
      refine x_aload_n C 0 dX3_readGap_44 rfl ?_
      refine x_callVi (K := 4) (rm := rmv 5 122 0 0) (As := []) (rest := []) C hA hR0 mf_X3_readEnd lk_X3_76 rfl (isK_lit hdm rfl rfl) (by decide) ⟨rfl, rfl⟩ ⟨Nat.le_of_ble_eq_true rfl, Nat.le_of_ble_eq_true rfl⟩ rfl rfl (Nat.le_of_ble_eq_true rfl) hce dX3_readGap_45 hq (fun _ _ h => c_X3_readEnd g.l g.G hdm  h) (fun r5 w4 _ hq => ?_)
      exact hR _ _ _ _ (zr_2 hq) (zr_1 hq) dX3_readGap_48
    · refine x_iconst C dX3_readGap_34 ?_
      exact hR _ _ _ _ hq (by decide +kernel) dX3_readGap_35
  · refine x_aload_n C 0 dX3_readGap_7 rfl ?_
    refine x_iconst C dX3_readGap_8 ?_
    refine x_callVi (K := 4) (rm := rmv 0 0 0 0) (As := [iV (3)]) (rest := []) C hA hR0 mf_X3_fail lk_X3_59 rfl (isK_lit hdm rfl rfl) (by decide) ⟨rfl, rfl⟩ ⟨Nat.le_of_ble_eq_true rfl, Nat.le_of_ble_eq_true rfl⟩ rfl rfl (Nat.le_of_ble_eq_true rfl) hce dX3_readGap_9 hq (fun _ _ h => c_X3_fail g.l g.G hdm  h) (fun r7 w6 _ hq => ?_)
    exact hR _ _ _ _ (zr_2 hq) (zr_1 hq) dX3_readGap_12
set_option maxRecDepth 100000 in
set_option maxHeartbeats 4000000 in
theorem c_X3_readGap (l : Launch) (G : Gd) {dm na : Nat} {ad : Nat → Nat} (hdm : dm = 0) {o1 : Nat} {w w' : Wd} {r : Int} (h1 : isK na dm 7 o1) (hq : p_X3_readGap o1 w = some (r, w')) : mI l yX3_readGap cX3_readGap 2 (some .boolean) (rmv 6 142 0 0) G dm na ad [.ref (ad (9)), .ref (ad (o1))] w r w' := by
  refine met_I [(0, .ref (ad (9))), (1, .ref (ad (o1)))] (by decide) (Nat.le_of_ble_eq_true rfl) rfl .boolean rfl (fun g d C S hR => ?_)
  obtain ⟨rfl, hR0, rfl, rfl, rfl, hA⟩ := S
  exact L_X3_readGap (d := (na, ad, 0, 0)) C hdm hA hR0 ⟨Nat.zero_le _, Nat.zero_le _⟩ hR h1  w hq
set_option maxRecDepth 100000 in
set_option maxHeartbeats 4000000 in
theorem L_X3_readChisel {g : Cx} {d : Dl} (C : CX g cX3_readChisel 3 (some .boolean) RX3) (hdm : g.dm = 0) (hA : ∀ q : Nat, g.s.heap.size ≤ q → g.A q) (hR0 : g.R = rmv 6 142 0 0) (hce : d.ce ≤ g.R.cells ∧ d.so ≤ g.R.slots) {res : Int × Wd} (hR : rtI g d cX3_readChisel .boolean res) {o1 : Nat} (h1 : isK d.na g.dm 7 o1)  (w : Wd) (hq : p_X3_readChisel o1 w = some res) : XG g d (hP g d w) [(0, .ref (d.ad (9))), (1, .ref (d.ad (o1)))] [] 0 := by
  refine x_aload_n C 0 dX3_readChisel_0 rfl ?_
  refine x_get (K := 4) (k := 6) C (isK_lit hdm rfl rfl) (by decide) cl_X3 (by decide) ⟨rfl, rfl, rfl⟩ fl_X3_28 dX3_readChisel_1 ?_
  refine x_if_eq (tgt := 13) C dX3_readChisel_4 (by decide) hq (fun hq => ?_) (fun hq => ?_)
  · refine x_aload_n C 0 dX3_readChisel_13 rfl ?_
    refine x_iconst C dX3_readChisel_14 ?_
    refine x_put (K := 4) (k := 6) C (isK_lit hdm rfl rfl) (by decide) cl_X3 (by decide) ⟨rfl, rfl, rfl, rfl⟩ fl_X3_28 (by decide +kernel) dX3_readChisel_15 ?_
    refine x_aload_n C 0 dX3_readChisel_18 rfl ?_
    refine x_getr (K := 4) (k := 0) (o2 := 8) C (isK_lit hdm rfl rfl) (by decide) cl_X3 (by decide) ⟨rfl, rfl, rfl⟩ fl_X3_31 rfl dX3_readChisel_19 ?_
    refine x_callVv (K := 8) (rm := rmv 1 21 0 0) (As := []) (rest := []) C hA hR0 mf_X7_step lk_X3_63 rfl (isK_lit hdm rfl rfl) (by decide) ⟨rfl, rfl⟩ ⟨Nat.le_of_ble_eq_true rfl, Nat.le_of_ble_eq_true rfl⟩ rfl rfl (Nat.le_of_ble_eq_true rfl) hce dX3_readChisel_22 hq (fun _ h => c_X7_step g.l g.G hdm  h) (fun w1 _ hq => ?_)
    refine x_aload_n C 0 dX3_readChisel_25 rfl ?_
    refine x_iconst C dX3_readChisel_26 ?_
    refine x_sipush (v := 999) C dX3_readChisel_27 (by decide +kernel) ?_
    refine x_callVi (K := 4) (rm := rmv 3 65 0 0) (As := [iV (1), iV (999)]) (rest := []) C hA hR0 mf_X3_readNumber lk_X3_66 rfl (isK_lit hdm rfl rfl) (by decide) ⟨rfl, rfl⟩ ⟨Nat.le_of_ble_eq_true rfl, Nat.le_of_ble_eq_true rfl⟩ rfl rfl (Nat.le_of_ble_eq_true rfl) hce dX3_readChisel_30 hq (fun _ _ h => c_X3_readNumber g.l g.G hdm  h) (fun r3 w2 _ hq => ?_)
    refine x_if_ne (tgt := 38) C dX3_readChisel_33 (by decide) hq (fun hq => ?_) (fun hq => ?_)
    · refine x_aload_n C 0 dX3_readChisel_38 rfl ?_
      refine x_get (K := 4) (k := 3) C (isK_lit hdm rfl rfl) (by decide) cl_X3 (by decide) ⟨rfl, rfl, rfl⟩ fl_X3_18 dX3_readChisel_39 ?_
      refine x_istore_n (lv' := [(2, iV (gF w2 9 3)), (0, .ref (d.ad (9))), (1, .ref (d.ad (o1)))]) C dX3_readChisel_42 (by decide) rfl ?_
      refine x_aload_n C 1 dX3_readChisel_43 rfl ?_
      refine x_iconst C dX3_readChisel_44 ?_
      refine x_bipush (v := 99) C dX3_readChisel_45 (by decide +kernel) ?_
      refine x_callVi (K := 4) (rm := rmv 3 65 0 0) (As := [iV (0), iV (99)]) (rest := []) C hA hR0 mf_X3_readNumber lk_X3_66 rfl (isK_lit hdm rfl rfl) (by decide) ⟨rfl, rfl⟩ ⟨Nat.le_of_ble_eq_true rfl, Nat.le_of_ble_eq_true rfl⟩ rfl rfl (Nat.le_of_ble_eq_true rfl) hce dX3_readChisel_47 hq (fun _ _ h => c_X3_readNumber g.l g.G hdm  h) (fun r5 w4 _ hq => ?_)
      refine x_if_ne (tgt := 55) C dX3_readChisel_50 (by decide) hq (fun hq => ?_) (fun hq => ?_)
      · refine x_aload_n C 2 dX3_readChisel_55 rfl ?_
        refine x_getr (K := 7) (k := 10) (o2 := o1 + 11) C h1 (by decide) cl_X6 (by decide) ⟨rfl, rfl, rfl⟩ fl_X3_128 rfl dX3_readChisel_56 ?_
        refine x_iload_n C 0 dX3_readChisel_59 rfl ?_
        refine x_aload_n C 1 dX3_readChisel_60 rfl ?_
        refine x_get (K := 4) (k := 3) C (isK_lit hdm rfl rfl) (by decide) cl_X3 (by decide) ⟨rfl, rfl, rfl⟩ fl_X3_18 dX3_readChisel_61 ?_
        refine x_callVv (K := 2) (rm := rmv 0 0 0 0) (As := [iV (gF w2 9 3), iV (gF w4 9 3)]) (rest := []) C hA hR0 mf_X1_renew lk_X3_131 rfl (ik7 h1).2.2.2.2.2 (by decide) ⟨rfl, rfl⟩ ⟨Nat.le_of_ble_eq_true rfl, Nat.le_of_ble_eq_true rfl⟩ rfl rfl (Nat.le_of_ble_eq_true rfl) hce dX3_readChisel_64 hq (fun _ h => c_X1_renew g.l g.G hdm (ik7 h1).2.2.2.2.2 h) (fun w6 _ hq => ?_)
        refine x_aload_n C 1 dX3_readChisel_67 rfl ?_
        refine x_callVi (K := 4) (rm := rmv 5 122 0 0) (As := []) (rest := []) C hA hR0 mf_X3_readEnd lk_X3_76 rfl (isK_lit hdm rfl rfl) (by decide) ⟨rfl, rfl⟩ ⟨Nat.le_of_ble_eq_true rfl, Nat.le_of_ble_eq_true rfl⟩ rfl rfl (Nat.le_of_ble_eq_true rfl) hce dX3_readChisel_68 hq (fun _ _ h => c_X3_readEnd g.l g.G hdm  h) (fun r8 w7 _ hq => ?_)
        exact hR _ _ _ _ (zr_2 hq) (zr_1 hq) dX3_readChisel_71
      · refine x_iconst C dX3_readChisel_53 ?_
        exact hR _ _ _ _ hq (by decide +kernel) dX3_readChisel_54
    · refine x_iconst C dX3_readChisel_36 ?_
      exact hR _ _ _ _ hq (by decide +kernel) dX3_readChisel_37
  · refine x_aload_n C 0 dX3_readChisel_7 rfl ?_
    refine x_iconst C dX3_readChisel_8 ?_
    refine x_callVi (K := 4) (rm := rmv 0 0 0 0) (As := [iV (3)]) (rest := []) C hA hR0 mf_X3_fail lk_X3_59 rfl (isK_lit hdm rfl rfl) (by decide) ⟨rfl, rfl⟩ ⟨Nat.le_of_ble_eq_true rfl, Nat.le_of_ble_eq_true rfl⟩ rfl rfl (Nat.le_of_ble_eq_true rfl) hce dX3_readChisel_9 hq (fun _ _ h => c_X3_fail g.l g.G hdm  h) (fun r10 w9 _ hq => ?_)
    exact hR _ _ _ _ (zr_2 hq) (zr_1 hq) dX3_readChisel_12
set_option maxRecDepth 100000 in
set_option maxHeartbeats 4000000 in
theorem c_X3_readChisel (l : Launch) (G : Gd) {dm na : Nat} {ad : Nat → Nat} (hdm : dm = 0) {o1 : Nat} {w w' : Wd} {r : Int} (h1 : isK na dm 7 o1) (hq : p_X3_readChisel o1 w = some (r, w')) : mI l yX3_readChisel cX3_readChisel 3 (some .boolean) (rmv 6 142 0 0) G dm na ad [.ref (ad (9)), .ref (ad (o1))] w r w' := by
  refine met_I [(0, .ref (ad (9))), (1, .ref (ad (o1)))] (by decide) (Nat.le_of_ble_eq_true rfl) rfl .boolean rfl (fun g d C S hR => ?_)
  obtain ⟨rfl, hR0, rfl, rfl, rfl, hA⟩ := S
  exact L_X3_readChisel (d := (na, ad, 0, 0)) C hdm hA hR0 ⟨Nat.zero_le _, Nat.zero_le _⟩ hR h1  w hq
set_option maxRecDepth 100000 in
set_option maxHeartbeats 4000000 in
theorem L_X6_openPart {g : Cx} {d : Dl} (C : CX g cX6_openPart 2 none RX6) (hdm : g.dm = 0) (hA : ∀ q : Nat, g.s.heap.size ≤ q → g.A q) (hR0 : g.R = rmv 1 22 0 0) (hce : d.ce ≤ g.R.cells ∧ d.so ≤ g.R.slots) {res : Wd} (hR : rtV g d cX6_openPart res) {o0 : Nat} (h0 : isK d.na g.dm 7 o0) (x1 : Int) (w : Wd) (hq : p_X6_openPart o0 x1 w = some res) : XG g d (hP g d w) [(0, .ref (d.ad (o0))), (1, iV (x1))] [] 0 := by
  refine x_aload_n C 0 dX6_openPart_0 rfl ?_
  refine x_get (K := 7) (k := 4) C h0 (by decide) cl_X6 (by decide) ⟨rfl, rfl, rfl⟩ fl_X6_30 dX6_openPart_1 ?_
  refine x_bipush (v := 10) C dX6_openPart_4 (by decide +kernel) ?_
  refine x_icmp_ge (tgt := 43) C dX6_openPart_6 (by decide) hq (fun hq => ?_) (fun hq => ?_)
  · exact hR _ _ _ hq dX6_openPart_43
  · refine x_aload_n C 0 dX6_openPart_9 rfl ?_
    refine x_getr (K := 7) (k := 5) (o2 := o0 + 3) C h0 (by decide) cl_X6 (by decide) ⟨rfl, rfl, rfl⟩ fl_X6_33 rfl dX6_openPart_10 ?_
    refine x_aload_n C 0 dX6_openPart_13 rfl ?_
    refine x_get (K := 7) (k := 4) C h0 (by decide) cl_X6 (by decide) ⟨rfl, rfl, rfl⟩ fl_X6_30 dX6_openPart_14 ?_
    refine x_iload_n C 1 dX6_openPart_17 rfl ?_
    refine x_callVv (K := 6) (rm := rmv 0 0 0 0) (As := [iV (gF w o0 4), iV (x1)]) (rest := []) C hA hR0 mf_X5_put lk_X6_85 rfl (ik7 h0).2.1 (by decide) ⟨rfl, rfl⟩ ⟨Nat.le_of_ble_eq_true rfl, Nat.le_of_ble_eq_true rfl⟩ rfl rfl (Nat.le_of_ble_eq_true rfl) hce dX6_openPart_18 hq (fun _ h => c_X5_put g.l g.G hdm (ik7 h0).2.1 h) (fun w1 _ hq => ?_)
    refine x_aload_n C 0 dX6_openPart_21 rfl ?_
    refine x_getr (K := 7) (k := 6) (o2 := o0 + 5) C h0 (by decide) cl_X6 (by decide) ⟨rfl, rfl, rfl⟩ fl_X6_36 rfl dX6_openPart_22 ?_
    refine x_aload_n C 0 dX6_openPart_25 rfl ?_
    refine x_get (K := 7) (k := 4) C h0 (by decide) cl_X6 (by decide) ⟨rfl, rfl, rfl⟩ fl_X6_30 dX6_openPart_26 ?_
    refine x_iconst C dX6_openPart_29 ?_
    refine x_callVv (K := 6) (rm := rmv 0 0 0 0) (As := [iV (gF w1 o0 4), iV (0)]) (rest := []) C hA hR0 mf_X5_put lk_X6_85 rfl (ik7 h0).2.2.1 (by decide) ⟨rfl, rfl⟩ ⟨Nat.le_of_ble_eq_true rfl, Nat.le_of_ble_eq_true rfl⟩ rfl rfl (Nat.le_of_ble_eq_true rfl) hce dX6_openPart_30 hq (fun _ h => c_X5_put g.l g.G hdm (ik7 h0).2.2.1 h) (fun w2 _ hq => ?_)
    refine x_aload_n C 0 dX6_openPart_33 rfl ?_
    refine x_dup C rfl dX6_openPart_34 ?_
    refine x_get (K := 7) (k := 4) C h0 (by decide) cl_X6 (by decide) ⟨rfl, rfl, rfl⟩ fl_X6_30 dX6_openPart_35 ?_
    refine x_iconst C dX6_openPart_38 ?_
    refine x_iadd C dX6_openPart_39 ?_
    refine x_put (K := 7) (k := 4) C h0 (by decide) cl_X6 (by decide) ⟨rfl, rfl, rfl, rfl⟩ fl_X6_30 ⟨rfl, rfl⟩ dX6_openPart_40 ?_
    exact hR _ _ _ hq dX6_openPart_43
set_option maxRecDepth 100000 in
set_option maxHeartbeats 4000000 in
theorem c_X6_openPart (l : Launch) (G : Gd) {dm na : Nat} {ad : Nat → Nat} (hdm : dm = 0) {o0 : Nat} {x1 : Int} {w w' : Wd}  (h0 : isK na dm 7 o0) (hq : p_X6_openPart o0 x1 w = some w') : mV l yX6_openPart cX6_openPart 2 none (rmv 1 22 0 0) G dm na ad [.ref (ad (o0)), iV (x1)] w w' := by
  refine met_V [(0, .ref (ad (o0))), (1, iV (x1))] (by decide) (Nat.le_of_ble_eq_true rfl) rfl rfl (fun g d C S hR => ?_)
  obtain ⟨rfl, hR0, rfl, rfl, rfl, hA⟩ := S
  exact L_X6_openPart (d := (na, ad, 0, 0)) C hdm hA hR0 ⟨Nat.zero_le _, Nat.zero_le _⟩ hR h0 _ w hq
set_option maxRecDepth 100000 in
set_option maxHeartbeats 4000000 in
theorem L_X7_isPlainWord_16 {g : Cx} {d : Dl} (C : CX g cX7_isPlainWord 1 (some .boolean) RX7) (hdm : g.dm = 0) (hA : ∀ q : Nat, g.s.heap.size ≤ q → g.A q) (hR0 : g.R = rmv 0 0 0 0) (hce : d.ce ≤ g.R.cells ∧ d.so ≤ g.R.slots) {res : Int × Wd} (hR : rtI g d cX7_isPlainWord .boolean res)  (w : Wd) (hq : p_X7_isPlainWord_16 w = some res) : XG g d (hP g d w) [(0, .ref (d.ad (8)))] [] 16 := by
  refine x_aload_n C 0 dX7_isPlainWord_16 rfl ?_
  refine x_get (K := 8) (k := 3) C (isK_lit hdm rfl rfl) (by decide) cl_X7 (by decide) ⟨rfl, rfl, rfl⟩ fl_X7_18 dX7_isPlainWord_17 ?_
  refine x_bipush (v := 12) C dX7_isPlainWord_20 (by decide +kernel) ?_
  refine x_icmp_gt (tgt := 29) C dX7_isPlainWord_22 (by decide) hq (fun hq => ?_) (fun hq => ?_)
  · refine x_iconst C dX7_isPlainWord_29 ?_
    exact hR _ _ _ _ hq (by decide +kernel) dX7_isPlainWord_30
  · refine x_iconst C dX7_isPlainWord_25 ?_
    refine x_goto (tgt := 30) C dX7_isPlainWord_26 (by decide) ?_
    exact hR _ _ _ _ hq (by decide +kernel) dX7_isPlainWord_30
set_option maxRecDepth 100000 in
set_option maxHeartbeats 4000000 in
theorem L_X7_isPlainWord {g : Cx} {d : Dl} (C : CX g cX7_isPlainWord 1 (some .boolean) RX7) (hdm : g.dm = 0) (hA : ∀ q : Nat, g.s.heap.size ≤ q → g.A q) (hR0 : g.R = rmv 0 0 0 0) (hce : d.ce ≤ g.R.cells ∧ d.so ≤ g.R.slots) {res : Int × Wd} (hR : rtI g d cX7_isPlainWord .boolean res)  (w : Wd) (hq : p_X7_isPlainWord  w = some res) : XG g d (hP g d w) [(0, .ref (d.ad (8)))] [] 0 := by
  refine x_aload_n C 0 dX7_isPlainWord_0 rfl ?_
  refine x_get (K := 8) (k := 1) C (isK_lit hdm rfl rfl) (by decide) cl_X7 (by decide) ⟨rfl, rfl, rfl⟩ fl_X7_11 dX7_isPlainWord_1 ?_
  refine x_iconst C dX7_isPlainWord_4 ?_
  refine x_icmp_eq (tgt := 16) C dX7_isPlainWord_5 (by decide) hq (fun hq => ?_) (fun hq => ?_)
  · exact L_X7_isPlainWord_16 C hdm hA hR0 hce hR _ hq
  · refine x_aload_n C 0 dX7_isPlainWord_8 rfl ?_
    refine x_get (K := 8) (k := 1) C (isK_lit hdm rfl rfl) (by decide) cl_X7 (by decide) ⟨rfl, rfl, rfl⟩ fl_X7_11 dX7_isPlainWord_9 ?_
    refine x_iconst C dX7_isPlainWord_12 ?_
    refine x_icmp_ne (tgt := 29) C dX7_isPlainWord_13 (by decide) hq (fun hq => ?_) (fun hq => ?_)
    · refine x_iconst C dX7_isPlainWord_29 ?_
      exact hR _ _ _ _ hq (by decide +kernel) dX7_isPlainWord_30
    · exact L_X7_isPlainWord_16 C hdm hA hR0 hce hR _ hq
set_option maxRecDepth 100000 in
set_option maxHeartbeats 4000000 in
theorem c_X7_isPlainWord (l : Launch) (G : Gd) {dm na : Nat} {ad : Nat → Nat} (hdm : dm = 0)  {w w' : Wd} {r : Int}  (hq : p_X7_isPlainWord  w = some (r, w')) : mI l yX7_isPlainWord cX7_isPlainWord 1 (some .boolean) (rmv 0 0 0 0) G dm na ad [.ref (ad (8))] w r w' := by
  refine met_I [(0, .ref (ad (8)))] (by decide) (Nat.le_of_ble_eq_true rfl) rfl .boolean rfl (fun g d C S hR => ?_)
  obtain ⟨rfl, hR0, rfl, rfl, rfl, hA⟩ := S
  exact L_X7_isPlainWord (d := (na, ad, 0, 0)) C hdm hA hR0 ⟨Nat.zero_le _, Nat.zero_le _⟩ hR   w hq
set_option maxRecDepth 100000 in
set_option maxHeartbeats 4000000 in
theorem L_X6_takeWord_56 {g : Cx} {d : Dl} (C : CX g cX6_takeWord 5 none RX6) (hdm : g.dm = 0) (hA : ∀ q : Nat, g.s.heap.size ≤ q → g.A q) (hR0 : g.R = rmv 1 22 0 0) (hce : d.ce ≤ g.R.cells ∧ d.so ≤ g.R.slots) {res : Wd} (hR : rtV g d cX6_takeWord res) {o0 : Nat} {o1 : Nat} (h0 : isK d.na g.dm 7 o0) (h1 : isK d.na g.dm 6 o1) (x3 : Int) (w : Wd) (hq : p_X6_takeWord_56 o0 o1 x3 w = some res) : XG g d (hP g d w) [(0, .ref (d.ad (o0))), (3, iV (x3))] [] 56 := by
  refine x_aload_n C 0 dX6_takeWord_56 rfl ?_
  refine x_getr (K := 7) (k := 8) (o2 := o0 + 7) C h0 (by decide) cl_X6 (by decide) ⟨rfl, rfl, rfl⟩ fl_X6_42 rfl dX6_takeWord_57 ?_
  refine x_aload_n C 0 dX6_takeWord_60 rfl ?_
  refine x_get (K := 7) (k := 7) C h0 (by decide) cl_X6 (by decide) ⟨rfl, rfl, rfl⟩ fl_X6_39 dX6_takeWord_61 ?_
  refine x_iload_n C 1 dX6_takeWord_64 rfl ?_
  refine x_callVv (K := 6) (rm := rmv 0 0 0 0) (As := [iV (gF w o0 7), iV (x3)]) (rest := []) C hA hR0 mf_X5_put lk_X6_85 rfl (ik7 h0).2.2.2.1 (by decide) ⟨rfl, rfl⟩ ⟨Nat.le_of_ble_eq_true rfl, Nat.le_of_ble_eq_true rfl⟩ rfl rfl (Nat.le_of_ble_eq_true rfl) hce dX6_takeWord_65 hq (fun _ h => c_X5_put g.l g.G hdm (ik7 h0).2.2.2.1 h) (fun w1 _ hq => ?_)
  refine x_aload_n C 0 dX6_takeWord_68 rfl ?_
  refine x_getr (K := 7) (k := 6) (o2 := o0 + 5) C h0 (by decide) cl_X6 (by decide) ⟨rfl, rfl, rfl⟩ fl_X6_36 rfl dX6_takeWord_69 ?_
  refine x_aload_n C 0 dX6_takeWord_72 rfl ?_
  refine x_get (K := 7) (k := 4) C h0 (by decide) cl_X6 (by decide) ⟨rfl, rfl, rfl⟩ fl_X6_30 dX6_takeWord_73 ?_
  refine x_iconst C dX6_takeWord_76 ?_
  refine x_isub C dX6_takeWord_77 ?_
  refine x_aload_n C 0 dX6_takeWord_78 rfl ?_
  refine x_getr (K := 7) (k := 6) (o2 := o0 + 5) C h0 (by decide) cl_X6 (by decide) ⟨rfl, rfl, rfl⟩ fl_X6_36 rfl dX6_takeWord_79 ?_
  refine x_aload_n C 0 dX6_takeWord_82 rfl ?_
  refine x_get (K := 7) (k := 4) C h0 (by decide) cl_X6 (by decide) ⟨rfl, rfl, rfl⟩ fl_X6_30 dX6_takeWord_83 ?_
  refine x_iconst C dX6_takeWord_86 ?_
  refine x_isub C dX6_takeWord_87 ?_
  refine x_callVi (K := 6) (rm := rmv 0 0 0 0) (As := [iV ((gF w1 o0 4) - 1)]) (rest := [iV ((gF w1 o0 4) - 1), .ref (d.ad (o0 + 5))]) C hA hR0 mf_X5_at lk_X6_81 rfl (ik7 h0).2.2.1 (by decide) ⟨rfl, rfl⟩ ⟨Nat.le_of_ble_eq_true rfl, Nat.le_of_ble_eq_true rfl⟩ rfl rfl (Nat.le_of_ble_eq_true rfl) hce dX6_takeWord_88 hq (fun _ _ h => c_X5_at g.l g.G hdm (ik7 h0).2.2.1 h) (fun r3 w2 _ hq => ?_)
  refine x_iconst C dX6_takeWord_91 ?_
  refine x_iadd C dX6_takeWord_92 ?_
  refine x_callVv (K := 6) (rm := rmv 0 0 0 0) (As := [iV ((gF w1 o0 4) - 1), iV (r3 + 1)]) (rest := []) C hA hR0 mf_X5_put lk_X6_85 rfl (ik7 h0).2.2.1 (by decide) ⟨rfl, rfl⟩ ⟨Nat.le_of_ble_eq_true rfl, Nat.le_of_ble_eq_true rfl⟩ rfl rfl (Nat.le_of_ble_eq_true rfl) hce dX6_takeWord_93 hq (fun _ h => c_X5_put g.l g.G hdm (ik7 h0).2.2.1 h) (fun w4 _ hq => ?_)
  refine x_aload_n C 0 dX6_takeWord_96 rfl ?_
  refine x_dup C rfl dX6_takeWord_97 ?_
  refine x_get (K := 7) (k := 7) C h0 (by decide) cl_X6 (by decide) ⟨rfl, rfl, rfl⟩ fl_X6_39 dX6_takeWord_98 ?_
  refine x_iconst C dX6_takeWord_101 ?_
  refine x_iadd C dX6_takeWord_102 ?_
  refine x_put (K := 7) (k := 7) C h0 (by decide) cl_X6 (by decide) ⟨rfl, rfl, rfl, rfl⟩ fl_X6_39 ⟨rfl, rfl⟩ dX6_takeWord_103 ?_
  exact hR _ _ _ hq dX6_takeWord_106
set_option maxRecDepth 100000 in
set_option maxHeartbeats 4000000 in
theorem L_X6_takeWord_19 {g : Cx} {d : Dl} (C : CX g cX6_takeWord 5 none RX6) (hdm : g.dm = 0) (hA : ∀ q : Nat, g.s.heap.size ≤ q → g.A q) (hR0 : g.R = rmv 1 22 0 0) (hce : d.ce ≤ g.R.cells ∧ d.so ≤ g.R.slots) {res : Wd} (hR : rtV g d cX6_takeWord res) {o0 : Nat} {o1 : Nat} (h0 : isK d.na g.dm 7 o0) (h1 : isK d.na g.dm 6 o1) : ∀ (n : Nat) (x2 : Int) (x3 : Int) (x4 : Int) (w : Wd), p_X6_takeWord_19 o0 o1 n x2 x3 x4 w = some res → XG g d (hP g d w) [(0, .ref (d.ad (o0))), (1, .ref (d.ad (o1))), (2, iV (x2)), (3, iV (x3)), (4, iV (x4))] [] 19 := by
  intro n
  induction n with
  | zero => intro x2 x3 x4 w  hq; exact nomatch (show none = some _ from hq)
  | succ n ih =>
    intro x2 x3 x4 w  hq
    refine x_iload C 4 dX6_takeWord_19 rfl ?_
    refine x_iload_n C 3 dX6_takeWord_21 rfl ?_
    refine x_icmp_ge (tgt := 56) C dX6_takeWord_22 (by decide) hq (fun hq => ?_) (fun hq => ?_)
    · refine XG.sub [0, 3] rfl ?_
      exact L_X6_takeWord_56 C hdm hA hR0 hce hR h0 h1 _ _ hq
    · refine x_aload_n C 0 dX6_takeWord_25 rfl ?_
      refine x_getr (K := 7) (k := 9) (o2 := o0 + 9) C h0 (by decide) cl_X6 (by decide) ⟨rfl, rfl, rfl⟩ fl_X6_45 rfl dX6_takeWord_26 ?_
      refine x_aload_n C 0 dX6_takeWord_29 rfl ?_
      refine x_get (K := 7) (k := 7) C h0 (by decide) cl_X6 (by decide) ⟨rfl, rfl, rfl⟩ fl_X6_39 dX6_takeWord_30 ?_
      refine x_bipush (v := 12) C dX6_takeWord_33 (by decide +kernel) ?_
      refine x_imul C dX6_takeWord_35 ?_
      refine x_iload C 4 dX6_takeWord_36 rfl ?_
      refine x_iadd C dX6_takeWord_38 ?_
      refine x_aload_n C 1 dX6_takeWord_39 rfl ?_
      refine x_iload_n C 2 dX6_takeWord_40 rfl ?_
      refine x_iload C 4 dX6_takeWord_41 rfl ?_
      refine x_iadd C dX6_takeWord_43 ?_
      refine x_callVi (K := 6) (rm := rmv 0 0 0 0) (As := [iV (x2 + x4)]) (rest := [iV (((gF w o0 7) * 12) + x4), .ref (d.ad (o0 + 9))]) C hA hR0 mf_X5_at lk_X6_81 rfl h1 (by decide) ⟨rfl, rfl⟩ ⟨Nat.le_of_ble_eq_true rfl, Nat.le_of_ble_eq_true rfl⟩ rfl rfl (Nat.le_of_ble_eq_true rfl) hce dX6_takeWord_44 hq (fun _ _ h => c_X5_at g.l g.G hdm h1 h) (fun r2 w1 _ hq => ?_)
      refine x_callVv (K := 6) (rm := rmv 0 0 0 0) (As := [iV (((gF w o0 7) * 12) + x4), iV (r2)]) (rest := []) C hA hR0 mf_X5_put lk_X6_85 rfl (ik7 h0).2.2.2.2.1 (by decide) ⟨rfl, rfl⟩ ⟨Nat.le_of_ble_eq_true rfl, Nat.le_of_ble_eq_true rfl⟩ rfl rfl (Nat.le_of_ble_eq_true rfl) hce dX6_takeWord_47 hq (fun _ h => c_X5_put g.l g.G hdm (ik7 h0).2.2.2.2.1 h) (fun w3 _ hq => ?_)
      refine x_iinc (lv' := [(4, iV (x4 + 1)), (0, .ref (d.ad (o0))), (1, .ref (d.ad (o1))), (2, iV (x2)), (3, iV (x3))]) C 4 dX6_takeWord_50 rfl (by decide) rfl ?_
      refine x_goto (tgt := 19) C dX6_takeWord_53 (by decide) ?_
      refine XG.sub [1, 2, 3, 4, 0] rfl ?_
      exact ih _ _ _ _ hq
set_option maxRecDepth 100000 in
set_option maxHeartbeats 4000000 in
theorem L_X6_takeWord {g : Cx} {d : Dl} (C : CX g cX6_takeWord 5 none RX6) (hdm : g.dm = 0) (hA : ∀ q : Nat, g.s.heap.size ≤ q → g.A q) (hR0 : g.R = rmv 1 22 0 0) (hce : d.ce ≤ g.R.cells ∧ d.so ≤ g.R.slots) {res : Wd} (hR : rtV g d cX6_takeWord res) {o0 : Nat} {o1 : Nat} (h0 : isK d.na g.dm 7 o0) (h1 : isK d.na g.dm 6 o1) (x2 : Int) (x3 : Int) (w : Wd) (hq : p_X6_takeWord o0 o1 x2 x3 w = some res) : XG g d (hP g d w) [(0, .ref (d.ad (o0))), (1, .ref (d.ad (o1))), (2, iV (x2)), (3, iV (x3))] [] 0 := by
  refine x_aload_n C 0 dX6_takeWord_0 rfl ?_
  refine x_get (K := 7) (k := 7) C h0 (by decide) cl_X6 (by decide) ⟨rfl, rfl, rfl⟩ fl_X6_39 dX6_takeWord_1 ?_
  refine x_bipush (v := 60) C dX6_takeWord_4 (by decide +kernel) ?_
  refine x_icmp_ge (tgt := 106) C dX6_takeWord_6 (by decide) hq (fun hq => ?_) (fun hq => ?_)
  · exact hR _ _ _ hq dX6_takeWord_106
  · refine x_aload_n C 0 dX6_takeWord_9 rfl ?_
    refine x_get (K := 7) (k := 4) C h0 (by decide) cl_X6 (by decide) ⟨rfl, rfl, rfl⟩ fl_X6_30 dX6_takeWord_10 ?_
    refine x_if_le (tgt := 106) C dX6_takeWord_13 (by decide) hq (fun hq => ?_) (fun hq => ?_)
    · exact hR _ _ _ hq dX6_takeWord_106
    · refine x_iconst C dX6_takeWord_16 ?_
      refine x_istore (lv' := [(4, iV (0)), (0, .ref (d.ad (o0))), (1, .ref (d.ad (o1))), (2, iV (x2)), (3, iV (x3))]) C dX6_takeWord_17 (by decide) rfl ?_
      refine XG.sub [1, 2, 3, 4, 0] rfl ?_
      exact L_X6_takeWord_19 C hdm hA hR0 hce hR h0 h1 _ _ _ _ _ hq
set_option maxRecDepth 100000 in
set_option maxHeartbeats 4000000 in
theorem c_X6_takeWord (l : Launch) (G : Gd) {dm na : Nat} {ad : Nat → Nat} (hdm : dm = 0) {o0 : Nat} {o1 : Nat} {x2 : Int} {x3 : Int} {w w' : Wd}  (h0 : isK na dm 7 o0) (h1 : isK na dm 6 o1) (hq : p_X6_takeWord o0 o1 x2 x3 w = some w') : mV l yX6_takeWord cX6_takeWord 5 none (rmv 1 22 0 0) G dm na ad [.ref (ad (o0)), .ref (ad (o1)), iV (x2), iV (x3)] w w' := by
  refine met_V [(0, .ref (ad (o0))), (1, .ref (ad (o1))), (2, iV (x2)), (3, iV (x3))] (by decide) (Nat.le_of_ble_eq_true rfl) rfl rfl (fun g d C S hR => ?_)
  obtain ⟨rfl, hR0, rfl, rfl, rfl, hA⟩ := S
  exact L_X6_takeWord (d := (na, ad, 0, 0)) C hdm hA hR0 ⟨Nat.zero_le _, Nat.zero_le _⟩ hR h0 h1 _ _ w hq
set_option maxRecDepth 100000 in
set_option maxHeartbeats 4000000 in
theorem L_X3_readWord {g : Cx} {d : Dl} (C : CX g cX3_readWord 2 (some .boolean) RX3) (hdm : g.dm = 0) (hA : ∀ q : Nat, g.s.heap.size ≤ q → g.A q) (hR0 : g.R = rmv 2 46 0 0) (hce : d.ce ≤ g.R.cells ∧ d.so ≤ g.R.slots) {res : Int × Wd} (hR : rtI g d cX3_readWord .boolean res) {o1 : Nat} (h1 : isK d.na g.dm 7 o1)  (w : Wd) (hq : p_X3_readWord o1 w = some res) : XG g d (hP g d w) [(0, .ref (d.ad (9))), (1, .ref (d.ad (o1)))] [] 0 := by
  refine x_aload_n C 0 dX3_readWord_0 rfl ?_
  refine x_getr (K := 4) (k := 0) (o2 := 8) C (isK_lit hdm rfl rfl) (by decide) cl_X3 (by decide) ⟨rfl, rfl, rfl⟩ fl_X3_31 rfl dX3_readWord_1 ?_
  refine x_callVi (K := 8) (rm := rmv 0 0 0 0) (As := []) (rest := []) C hA hR0 mf_X7_isPlainWord lk_X3_148 rfl (isK_lit hdm rfl rfl) (by decide) ⟨rfl, rfl⟩ ⟨Nat.le_of_ble_eq_true rfl, Nat.le_of_ble_eq_true rfl⟩ rfl rfl (Nat.le_of_ble_eq_true rfl) hce dX3_readWord_4 hq (fun _ _ h => c_X7_isPlainWord g.l g.G hdm  h) (fun r2 w1 _ hq => ?_)
  refine x_if_ne (tgt := 16) C dX3_readWord_7 (by decide) hq (fun hq => ?_) (fun hq => ?_)
  · refine x_aload_n C 0 dX3_readWord_16 rfl ?_
    refine x_getr (K := 4) (k := 0) (o2 := 8) C (isK_lit hdm rfl rfl) (by decide) cl_X3 (by decide) ⟨rfl, rfl, rfl⟩ fl_X3_31 rfl dX3_readWord_17 ?_
    refine x_get (K := 8) (k := 3) C (isK_lit hdm rfl rfl) (by decide) cl_X7 (by decide) ⟨rfl, rfl, rfl⟩ fl_X3_151 dX3_readWord_20 ?_
    refine x_aload_n C 1 dX3_readWord_23 rfl ?_
    refine x_get (K := 7) (k := 0) C h1 (by decide) cl_X6 (by decide) ⟨rfl, rfl, rfl⟩ fl_X3_110 dX3_readWord_24 ?_
    refine x_icmp_le (tgt := 36) C dX3_readWord_27 (by decide) hq (fun hq => ?_) (fun hq => ?_)
    · refine x_aload_n C 1 dX3_readWord_36 rfl ?_
      refine x_get (K := 7) (k := 7) C h1 (by decide) cl_X6 (by decide) ⟨rfl, rfl, rfl⟩ fl_X3_154 dX3_readWord_37 ?_
      refine x_bipush (v := 60) C dX3_readWord_40 (by decide +kernel) ?_
      refine x_icmp_lt (tgt := 51) C dX3_readWord_42 (by decide) hq (fun hq => ?_) (fun hq => ?_)
      · refine x_aload_n C 1 dX3_readWord_51 rfl ?_
        refine x_aload_n C 0 dX3_readWord_52 rfl ?_
        refine x_getr (K := 4) (k := 0) (o2 := 8) C (isK_lit hdm rfl rfl) (by decide) cl_X3 (by decide) ⟨rfl, rfl, rfl⟩ fl_X3_31 rfl dX3_readWord_53 ?_
        refine x_getr (K := 8) (k := 0) (o2 := 2) C (isK_lit hdm rfl rfl) (by decide) cl_X7 (by decide) ⟨rfl, rfl, rfl⟩ fl_X3_157 rfl dX3_readWord_56 ?_
        refine x_getr (K := 1) (k := 0) (o2 := 3) C (isK_lit hdm rfl rfl) (by decide) cl_X0 (by decide) ⟨rfl, rfl, rfl⟩ fl_X3_161 rfl dX3_readWord_59 ?_
        refine x_aload_n C 0 dX3_readWord_62 rfl ?_
        refine x_getr (K := 4) (k := 0) (o2 := 8) C (isK_lit hdm rfl rfl) (by decide) cl_X3 (by decide) ⟨rfl, rfl, rfl⟩ fl_X3_31 rfl dX3_readWord_63 ?_
        refine x_get (K := 8) (k := 2) C (isK_lit hdm rfl rfl) (by decide) cl_X7 (by decide) ⟨rfl, rfl, rfl⟩ fl_X3_50 dX3_readWord_66 ?_
        refine x_aload_n C 0 dX3_readWord_69 rfl ?_
        refine x_getr (K := 4) (k := 0) (o2 := 8) C (isK_lit hdm rfl rfl) (by decide) cl_X3 (by decide) ⟨rfl, rfl, rfl⟩ fl_X3_31 rfl dX3_readWord_70 ?_
        refine x_get (K := 8) (k := 3) C (isK_lit hdm rfl rfl) (by decide) cl_X7 (by decide) ⟨rfl, rfl, rfl⟩ fl_X3_151 dX3_readWord_73 ?_
        refine x_callVv (K := 7) (rm := rmv 1 22 0 0) (As := [.ref (d.ad (3)), iV (gF w1 8 2), iV (gF w1 8 3)]) (rest := []) C hA hR0 mf_X6_takeWord lk_X3_167 rfl h1 (by decide) ⟨rfl, rfl⟩ ⟨Nat.le_of_ble_eq_true rfl, Nat.le_of_ble_eq_true rfl⟩ rfl rfl (Nat.le_of_ble_eq_true rfl) hce dX3_readWord_76 hq (fun _ h => c_X6_takeWord g.l g.G hdm h1 (isK_lit hdm rfl rfl) h) (fun w3 _ hq => ?_)
        refine x_aload_n C 0 dX3_readWord_79 rfl ?_
        refine x_getr (K := 4) (k := 0) (o2 := 8) C (isK_lit hdm rfl rfl) (by decide) cl_X3 (by decide) ⟨rfl, rfl, rfl⟩ fl_X3_31 rfl dX3_readWord_80 ?_
        refine x_callVv (K := 8) (rm := rmv 1 21 0 0) (As := []) (rest := []) C hA hR0 mf_X7_step lk_X3_63 rfl (isK_lit hdm rfl rfl) (by decide) ⟨rfl, rfl⟩ ⟨Nat.le_of_ble_eq_true rfl, Nat.le_of_ble_eq_true rfl⟩ rfl rfl (Nat.le_of_ble_eq_true rfl) hce dX3_readWord_83 hq (fun _ h => c_X7_step g.l g.G hdm  h) (fun w4 _ hq => ?_)
        refine x_iconst C dX3_readWord_86 ?_
        exact hR _ _ _ _ hq (by decide +kernel) dX3_readWord_87
      · refine x_aload_n C 0 dX3_readWord_45 rfl ?_
        refine x_iconst C dX3_readWord_46 ?_
        refine x_callVi (K := 4) (rm := rmv 0 0 0 0) (As := [iV (5)]) (rest := []) C hA hR0 mf_X3_fail lk_X3_59 rfl (isK_lit hdm rfl rfl) (by decide) ⟨rfl, rfl⟩ ⟨Nat.le_of_ble_eq_true rfl, Nat.le_of_ble_eq_true rfl⟩ rfl rfl (Nat.le_of_ble_eq_true rfl) hce dX3_readWord_47 hq (fun _ _ h => c_X3_fail g.l g.G hdm  h) (fun r6 w5 _ hq => ?_)
        exact hR _ _ _ _ (zr_2 hq) (zr_1 hq) dX3_readWord_50
    · refine x_aload_n C 0 dX3_readWord_30 rfl ?_
      refine x_iconst C dX3_readWord_31 ?_
      refine x_callVi (K := 4) (rm := rmv 0 0 0 0) (As := [iV (4)]) (rest := []) C hA hR0 mf_X3_fail lk_X3_59 rfl (isK_lit hdm rfl rfl) (by decide) ⟨rfl, rfl⟩ ⟨Nat.le_of_ble_eq_true rfl, Nat.le_of_ble_eq_true rfl⟩ rfl rfl (Nat.le_of_ble_eq_true rfl) hce dX3_readWord_32 hq (fun _ _ h => c_X3_fail g.l g.G hdm  h) (fun r8 w7 _ hq => ?_)
      exact hR _ _ _ _ (zr_2 hq) (zr_1 hq) dX3_readWord_35
  · refine x_aload_n C 0 dX3_readWord_10 rfl ?_
    refine x_iconst C dX3_readWord_11 ?_
    refine x_callVi (K := 4) (rm := rmv 0 0 0 0) (As := [iV (1)]) (rest := []) C hA hR0 mf_X3_fail lk_X3_59 rfl (isK_lit hdm rfl rfl) (by decide) ⟨rfl, rfl⟩ ⟨Nat.le_of_ble_eq_true rfl, Nat.le_of_ble_eq_true rfl⟩ rfl rfl (Nat.le_of_ble_eq_true rfl) hce dX3_readWord_12 hq (fun _ _ h => c_X3_fail g.l g.G hdm  h) (fun r10 w9 _ hq => ?_)
    exact hR _ _ _ _ (zr_2 hq) (zr_1 hq) dX3_readWord_15
set_option maxRecDepth 100000 in
set_option maxHeartbeats 4000000 in
theorem c_X3_readWord (l : Launch) (G : Gd) {dm na : Nat} {ad : Nat → Nat} (hdm : dm = 0) {o1 : Nat} {w w' : Wd} {r : Int} (h1 : isK na dm 7 o1) (hq : p_X3_readWord o1 w = some (r, w')) : mI l yX3_readWord cX3_readWord 2 (some .boolean) (rmv 2 46 0 0) G dm na ad [.ref (ad (9)), .ref (ad (o1))] w r w' := by
  refine met_I [(0, .ref (ad (9))), (1, .ref (ad (o1)))] (by decide) (Nat.le_of_ble_eq_true rfl) rfl .boolean rfl (fun g d C S hR => ?_)
  obtain ⟨rfl, hR0, rfl, rfl, rfl, hA⟩ := S
  exact L_X3_readWord (d := (na, ad, 0, 0)) C hdm hA hR0 ⟨Nat.zero_le _, Nat.zero_le _⟩ hR h1  w hq
set_option maxRecDepth 100000 in
set_option maxHeartbeats 4000000 in
theorem L_X3_readPart_72 {g : Cx} {d : Dl} (C : CX g cX3_readPart 5 (some .boolean) RX3) (hdm : g.dm = 0) (hA : ∀ q : Nat, g.s.heap.size ≤ q → g.A q) (hR0 : g.R = rmv 6 142 0 0) (hce : d.ce ≤ g.R.cells ∧ d.so ≤ g.R.slots) {res : Int × Wd} (hR : rtI g d cX3_readPart .boolean res) {o1 : Nat} (h1 : isK d.na g.dm 7 o1) (x3 : Int) (w : Wd) (hq : p_X3_readPart_72 o1 x3 w = some res) : XG g d (hP g d w) [(0, .ref (d.ad (9))), (3, iV (x3))] [] 72 := by
  refine x_iload_n C 1 dX3_readPart_72 rfl ?_
  refine x_if_eq (tgt := 87) C dX3_readPart_73 (by decide) hq (fun hq => ?_) (fun hq => ?_)
  · refine x_iconst C dX3_readPart_87 ?_
    exact hR _ _ _ _ hq (by decide +kernel) dX3_readPart_88
  · refine x_aload_n C 0 dX3_readPart_76 rfl ?_
    refine x_callVi (K := 4) (rm := rmv 5 122 0 0) (As := []) (rest := []) C hA hR0 mf_X3_readEnd lk_X3_76 rfl (isK_lit hdm rfl rfl) (by decide) ⟨rfl, rfl⟩ ⟨Nat.le_of_ble_eq_true rfl, Nat.le_of_ble_eq_true rfl⟩ rfl rfl (Nat.le_of_ble_eq_true rfl) hce dX3_readPart_77 hq (fun _ _ h => c_X3_readEnd g.l g.G hdm  h) (fun r2 w1 _ hq => ?_)
    refine x_if_eq (tgt := 87) C dX3_readPart_80 (by decide) hq (fun hq => ?_) (fun hq => ?_)
    · refine x_iconst C dX3_readPart_87 ?_
      exact hR _ _ _ _ hq (by decide +kernel) dX3_readPart_88
    · refine x_iconst C dX3_readPart_83 ?_
      refine x_goto (tgt := 88) C dX3_readPart_84 (by decide) ?_
      exact hR _ _ _ _ hq (by decide +kernel) dX3_readPart_88
set_option maxRecDepth 100000 in
set_option maxHeartbeats 4000000 in
theorem L_X3_readPart_36 {g : Cx} {d : Dl} (C : CX g cX3_readPart 5 (some .boolean) RX3) (hdm : g.dm = 0) (hA : ∀ q : Nat, g.s.heap.size ≤ q → g.A q) (hR0 : g.R = rmv 6 142 0 0) (hce : d.ce ≤ g.R.cells ∧ d.so ≤ g.R.slots) {res : Int × Wd} (hR : rtI g d cX3_readPart .boolean res) {o1 : Nat} (h1 : isK d.na g.dm 7 o1) : ∀ (n : Nat) (x3 : Int) (x4 : Int) (w : Wd), p_X3_readPart_36 o1 n x3 x4 w = some res → XG g d (hP g d w) [(0, .ref (d.ad (9))), (1, .ref (d.ad (o1))), (3, iV (x3)), (4, iV (x4))] [] 36 := by
  intro n
  induction n with
  | zero => intro x3 x4 w  hq; exact nomatch (show none = some _ from hq)
  | succ n ih =>
    intro x3 x4 w  hq
    refine x_iload C 3 dX3_readPart_36 rfl ?_
    refine x_sipush (v := 500) C dX3_readPart_38 (by decide +kernel) ?_
    refine x_icmp_ge (tgt := 72) C dX3_readPart_41 (by decide) hq (fun hq => ?_) (fun hq => ?_)
    · refine XG.sub [0, 2] rfl ?_
      exact L_X3_readPart_72 C hdm hA hR0 hce hR h1 _ _ hq
    · refine x_iload_n C 2 dX3_readPart_44 rfl ?_
      refine x_if_eq (tgt := 72) C dX3_readPart_45 (by decide) hq (fun hq => ?_) (fun hq => ?_)
      · refine XG.sub [0, 2] rfl ?_
        exact L_X3_readPart_72 C hdm hA hR0 hce hR h1 _ _ hq
      · refine x_aload_n C 0 dX3_readPart_48 rfl ?_
        refine x_getr (K := 4) (k := 0) (o2 := 8) C (isK_lit hdm rfl rfl) (by decide) cl_X3 (by decide) ⟨rfl, rfl, rfl⟩ fl_X3_31 rfl dX3_readPart_49 ?_
        refine x_ldcS (i := 1) (tx := ";") C (by decide +kernel) dX3_readPart_52 ?_
        refine x_callVi (K := 8) (rm := rmv 4 100 0 0) (As := [.ref (g.G.aK 1)]) (rest := []) C hA hR0 mf_X7_says lk_X3_55 rfl (isK_lit hdm rfl rfl) (by decide) ⟨rfl, rfl⟩ ⟨Nat.le_of_ble_eq_true rfl, Nat.le_of_ble_eq_true rfl⟩ rfl rfl (Nat.le_of_ble_eq_true rfl) hce dX3_readPart_54 hq (fun _ _ h => c_X7_says g.l g.G hdm (by decide) h) (fun r2 w1 _ hq => ?_)
        refine x_if_ne (tgt := 72) C dX3_readPart_57 (by decide) hq (fun hq => ?_) (fun hq => ?_)
        · refine XG.sub [0, 2] rfl ?_
          exact L_X3_readPart_72 C hdm hA hR0 hce hR h1 _ _ hq
        · refine x_aload_n C 0 dX3_readPart_60 rfl ?_
          refine x_aload_n C 1 dX3_readPart_61 rfl ?_
          refine x_callVi (K := 4) (rm := rmv 2 46 0 0) (As := [.ref (d.ad (o1))]) (rest := []) C hA hR0 mf_X3_readWord lk_X3_143 rfl (isK_lit hdm rfl rfl) (by decide) ⟨rfl, rfl⟩ ⟨Nat.le_of_ble_eq_true rfl, Nat.le_of_ble_eq_true rfl⟩ rfl rfl (Nat.le_of_ble_eq_true rfl) hce dX3_readPart_62 hq (fun _ _ h => c_X3_readWord g.l g.G hdm h1 h) (fun r4 w3 _ hq => ?_)
          refine x_istore_n (lv' := [(3, iV (r4)), (0, .ref (d.ad (9))), (1, .ref (d.ad (o1))), (4, iV (x4))]) C dX3_readPart_65 (by decide) rfl ?_
          refine x_iinc (lv' := [(4, iV (x4 + 1)), (3, iV (r4)), (0, .ref (d.ad (9))), (1, .ref (d.ad (o1)))]) C 3 dX3_readPart_66 rfl (by decide) rfl ?_
          refine x_goto (tgt := 36) C dX3_readPart_69 (by decide) ?_
          refine XG.sub [2, 3, 1, 0] rfl ?_
          exact ih _ _ _ hq
set_option maxRecDepth 100000 in
set_option maxHeartbeats 4000000 in
theorem L_X3_readPart {g : Cx} {d : Dl} (C : CX g cX3_readPart 5 (some .boolean) RX3) (hdm : g.dm = 0) (hA : ∀ q : Nat, g.s.heap.size ≤ q → g.A q) (hR0 : g.R = rmv 6 142 0 0) (hce : d.ce ≤ g.R.cells ∧ d.so ≤ g.R.slots) {res : Int × Wd} (hR : rtI g d cX3_readPart .boolean res) {o1 : Nat} (h1 : isK d.na g.dm 7 o1) (x2 : Int) (w : Wd) (hq : p_X3_readPart o1 x2 w = some res) : XG g d (hP g d w) [(0, .ref (d.ad (9))), (1, .ref (d.ad (o1))), (2, iV (x2))] [] 0 := by
  refine x_aload_n C 1 dX3_readPart_0 rfl ?_
  refine x_get (K := 7) (k := 4) C h1 (by decide) cl_X6 (by decide) ⟨rfl, rfl, rfl⟩ fl_X3_136 dX3_readPart_1 ?_
  refine x_bipush (v := 10) C dX3_readPart_4 (by decide +kernel) ?_
  refine x_icmp_lt (tgt := 15) C dX3_readPart_6 (by decide) hq (fun hq => ?_) (fun hq => ?_)
  · refine x_aload_n C 1 dX3_readPart_15 rfl ?_
    refine x_iload_n C 2 dX3_readPart_16 rfl ?_
    refine x_callVv (K := 7) (rm := rmv 1 22 0 0) (As := [iV (x2)]) (rest := []) C hA hR0 mf_X6_openPart lk_X3_139 rfl h1 (by decide) ⟨rfl, rfl⟩ ⟨Nat.le_of_ble_eq_true rfl, Nat.le_of_ble_eq_true rfl⟩ rfl rfl (Nat.le_of_ble_eq_true rfl) hce dX3_readPart_17 hq (fun _ h => c_X6_openPart g.l g.G hdm h1 h) (fun w1 _ hq => ?_)
    refine x_aload_n C 0 dX3_readPart_20 rfl ?_
    refine x_getr (K := 4) (k := 0) (o2 := 8) C (isK_lit hdm rfl rfl) (by decide) cl_X3 (by decide) ⟨rfl, rfl, rfl⟩ fl_X3_31 rfl dX3_readPart_21 ?_
    refine x_callVv (K := 8) (rm := rmv 1 21 0 0) (As := []) (rest := []) C hA hR0 mf_X7_step lk_X3_63 rfl (isK_lit hdm rfl rfl) (by decide) ⟨rfl, rfl⟩ ⟨Nat.le_of_ble_eq_true rfl, Nat.le_of_ble_eq_true rfl⟩ rfl rfl (Nat.le_of_ble_eq_true rfl) hce dX3_readPart_24 hq (fun _ h => c_X7_step g.l g.G hdm  h) (fun w2 _ hq => ?_)
    refine x_aload_n C 0 dX3_readPart_27 rfl ?_
    refine x_aload_n C 1 dX3_readPart_28 rfl ?_
    refine x_callVi (K := 4) (rm := rmv 2 46 0 0) (As := [.ref (d.ad (o1))]) (rest := []) C hA hR0 mf_X3_readWord lk_X3_143 rfl (isK_lit hdm rfl rfl) (by decide) ⟨rfl, rfl⟩ ⟨Nat.le_of_ble_eq_true rfl, Nat.le_of_ble_eq_true rfl⟩ rfl rfl (Nat.le_of_ble_eq_true rfl) hce dX3_readPart_29 hq (fun _ _ h => c_X3_readWord g.l g.G hdm h1 h) (fun r4 w3 _ hq => ?_)
    refine x_istore_n (lv' := [(3, iV (r4)), (0, .ref (d.ad (9))), (1, .ref (d.ad (o1))), (2, iV (x2))]) C dX3_readPart_32 (by decide) rfl ?_
    refine x_iconst C dX3_readPart_33 ?_
    refine x_istore (lv' := [(4, iV (0)), (3, iV (r4)), (0, .ref (d.ad (9))), (1, .ref (d.ad (o1))), (2, iV (x2))]) C dX3_readPart_34 (by decide) rfl ?_
    refine XG.sub [2, 3, 1, 0] rfl ?_
    exact L_X3_readPart_36 C hdm hA hR0 hce hR h1 _ _ _ _ hq
  · refine x_aload_n C 0 dX3_readPart_9 rfl ?_
    refine x_iconst C dX3_readPart_10 ?_
    refine x_callVi (K := 4) (rm := rmv 0 0 0 0) (As := [iV (5)]) (rest := []) C hA hR0 mf_X3_fail lk_X3_59 rfl (isK_lit hdm rfl rfl) (by decide) ⟨rfl, rfl⟩ ⟨Nat.le_of_ble_eq_true rfl, Nat.le_of_ble_eq_true rfl⟩ rfl rfl (Nat.le_of_ble_eq_true rfl) hce dX3_readPart_11 hq (fun _ _ h => c_X3_fail g.l g.G hdm  h) (fun r6 w5 _ hq => ?_)
    exact hR _ _ _ _ (zr_2 hq) (zr_1 hq) dX3_readPart_14
set_option maxRecDepth 100000 in
set_option maxHeartbeats 4000000 in
theorem c_X3_readPart (l : Launch) (G : Gd) {dm na : Nat} {ad : Nat → Nat} (hdm : dm = 0) {o1 : Nat} {x2 : Int} {w w' : Wd} {r : Int} (h1 : isK na dm 7 o1) (hq : p_X3_readPart o1 x2 w = some (r, w')) : mI l yX3_readPart cX3_readPart 5 (some .boolean) (rmv 6 142 0 0) G dm na ad [.ref (ad (9)), .ref (ad (o1)), iV (x2)] w r w' := by
  refine met_I [(0, .ref (ad (9))), (1, .ref (ad (o1))), (2, iV (x2))] (by decide) (Nat.le_of_ble_eq_true rfl) rfl .boolean rfl (fun g d C S hR => ?_)
  obtain ⟨rfl, hR0, rfl, rfl, rfl, hA⟩ := S
  exact L_X3_readPart (d := (na, ad, 0, 0)) C hdm hA hR0 ⟨Nat.zero_le _, Nat.zero_le _⟩ hR h1 _ w hq
set_option maxRecDepth 100000 in
set_option maxHeartbeats 4000000 in
theorem L_X3_readStatement {g : Cx} {d : Dl} (C : CX g cX3_readStatement 2 (some .boolean) RX3) (hdm : g.dm = 0) (hA : ∀ q : Nat, g.s.heap.size ≤ q → g.A q) (hR0 : g.R = rmv 7 166 0 0) (hce : d.ce ≤ g.R.cells ∧ d.so ≤ g.R.slots) {res : Int × Wd} (hR : rtI g d cX3_readStatement .boolean res) {o1 : Nat} (h1 : isK d.na g.dm 7 o1)  (w : Wd) (hq : p_X3_readStatement o1 w = some res) : XG g d (hP g d w) [(0, .ref (d.ad (9))), (1, .ref (d.ad (o1)))] [] 0 := by
  refine x_aload_n C 0 dX3_readStatement_0 rfl ?_
  refine x_getr (K := 4) (k := 0) (o2 := 8) C (isK_lit hdm rfl rfl) (by decide) cl_X3 (by decide) ⟨rfl, rfl, rfl⟩ fl_X3_31 rfl dX3_readStatement_1 ?_
  refine x_ldcS (i := 2) (tx := "flaw") C (by decide +kernel) dX3_readStatement_4 ?_
  refine x_callVi (K := 8) (rm := rmv 4 100 0 0) (As := [.ref (g.G.aK 2)]) (rest := []) C hA hR0 mf_X7_says lk_X3_55 rfl (isK_lit hdm rfl rfl) (by decide) ⟨rfl, rfl⟩ ⟨Nat.le_of_ble_eq_true rfl, Nat.le_of_ble_eq_true rfl⟩ rfl rfl (Nat.le_of_ble_eq_true rfl) hce dX3_readStatement_6 hq (fun _ _ h => c_X7_says g.l g.G hdm (by decide) h) (fun r2 w1 _ hq => ?_)
  refine x_if_eq (tgt := 18) C dX3_readStatement_9 (by decide) hq (fun hq => ?_) (fun hq => ?_)
  · refine x_aload_n C 0 dX3_readStatement_18 rfl ?_
    refine x_getr (K := 4) (k := 0) (o2 := 8) C (isK_lit hdm rfl rfl) (by decide) cl_X3 (by decide) ⟨rfl, rfl, rfl⟩ fl_X3_31 rfl dX3_readStatement_19 ?_
    refine x_ldcS (i := 4) (tx := "gap") C (by decide +kernel) dX3_readStatement_22 ?_
    refine x_callVi (K := 8) (rm := rmv 4 100 0 0) (As := [.ref (g.G.aK 4)]) (rest := []) C hA hR0 mf_X7_says lk_X3_55 rfl (isK_lit hdm rfl rfl) (by decide) ⟨rfl, rfl⟩ ⟨Nat.le_of_ble_eq_true rfl, Nat.le_of_ble_eq_true rfl⟩ rfl rfl (Nat.le_of_ble_eq_true rfl) hce dX3_readStatement_24 hq (fun _ _ h => c_X7_says g.l g.G hdm (by decide) h) (fun r4 w3 _ hq => ?_)
    refine x_if_eq (tgt := 36) C dX3_readStatement_27 (by decide) hq (fun hq => ?_) (fun hq => ?_)
    · refine x_aload_n C 0 dX3_readStatement_36 rfl ?_
      refine x_getr (K := 4) (k := 0) (o2 := 8) C (isK_lit hdm rfl rfl) (by decide) cl_X3 (by decide) ⟨rfl, rfl, rfl⟩ fl_X3_31 rfl dX3_readStatement_37 ?_
      refine x_ldcS (i := 5) (tx := "chisel") C (by decide +kernel) dX3_readStatement_40 ?_
      refine x_callVi (K := 8) (rm := rmv 4 100 0 0) (As := [.ref (g.G.aK 5)]) (rest := []) C hA hR0 mf_X7_says lk_X3_55 rfl (isK_lit hdm rfl rfl) (by decide) ⟨rfl, rfl⟩ ⟨Nat.le_of_ble_eq_true rfl, Nat.le_of_ble_eq_true rfl⟩ rfl rfl (Nat.le_of_ble_eq_true rfl) hce dX3_readStatement_42 hq (fun _ _ h => c_X7_says g.l g.G hdm (by decide) h) (fun r6 w5 _ hq => ?_)
      refine x_if_eq (tgt := 54) C dX3_readStatement_45 (by decide) hq (fun hq => ?_) (fun hq => ?_)
      · refine x_aload_n C 0 dX3_readStatement_54 rfl ?_
        refine x_getr (K := 4) (k := 0) (o2 := 8) C (isK_lit hdm rfl rfl) (by decide) cl_X3 (by decide) ⟨rfl, rfl, rfl⟩ fl_X3_31 rfl dX3_readStatement_55 ?_
        refine x_ldcS (i := 6) (tx := "name") C (by decide +kernel) dX3_readStatement_58 ?_
        refine x_callVi (K := 8) (rm := rmv 4 100 0 0) (As := [.ref (g.G.aK 6)]) (rest := []) C hA hR0 mf_X7_says lk_X3_55 rfl (isK_lit hdm rfl rfl) (by decide) ⟨rfl, rfl⟩ ⟨Nat.le_of_ble_eq_true rfl, Nat.le_of_ble_eq_true rfl⟩ rfl rfl (Nat.le_of_ble_eq_true rfl) hce dX3_readStatement_60 hq (fun _ _ h => c_X7_says g.l g.G hdm (by decide) h) (fun r8 w7 _ hq => ?_)
        refine x_if_eq (tgt := 73) C dX3_readStatement_63 (by decide) hq (fun hq => ?_) (fun hq => ?_)
        · refine x_aload_n C 0 dX3_readStatement_73 rfl ?_
          refine x_getr (K := 4) (k := 0) (o2 := 8) C (isK_lit hdm rfl rfl) (by decide) cl_X3 (by decide) ⟨rfl, rfl, rfl⟩ fl_X3_31 rfl dX3_readStatement_74 ?_
          refine x_ldcS (i := 7) (tx := "date") C (by decide +kernel) dX3_readStatement_77 ?_
          refine x_callVi (K := 8) (rm := rmv 4 100 0 0) (As := [.ref (g.G.aK 7)]) (rest := []) C hA hR0 mf_X7_says lk_X3_55 rfl (isK_lit hdm rfl rfl) (by decide) ⟨rfl, rfl⟩ ⟨Nat.le_of_ble_eq_true rfl, Nat.le_of_ble_eq_true rfl⟩ rfl rfl (Nat.le_of_ble_eq_true rfl) hce dX3_readStatement_79 hq (fun _ _ h => c_X7_says g.l g.G hdm (by decide) h) (fun r10 w9 _ hq => ?_)
          refine x_if_eq (tgt := 92) C dX3_readStatement_82 (by decide) hq (fun hq => ?_) (fun hq => ?_)
          · refine x_aload_n C 0 dX3_readStatement_92 rfl ?_
            refine x_getr (K := 4) (k := 0) (o2 := 8) C (isK_lit hdm rfl rfl) (by decide) cl_X3 (by decide) ⟨rfl, rfl, rfl⟩ fl_X3_31 rfl dX3_readStatement_93 ?_
            refine x_ldcS (i := 8) (tx := "verse") C (by decide +kernel) dX3_readStatement_96 ?_
            refine x_callVi (K := 8) (rm := rmv 4 100 0 0) (As := [.ref (g.G.aK 8)]) (rest := []) C hA hR0 mf_X7_says lk_X3_55 rfl (isK_lit hdm rfl rfl) (by decide) ⟨rfl, rfl⟩ ⟨Nat.le_of_ble_eq_true rfl, Nat.le_of_ble_eq_true rfl⟩ rfl rfl (Nat.le_of_ble_eq_true rfl) hce dX3_readStatement_98 hq (fun _ _ h => c_X7_says g.l g.G hdm (by decide) h) (fun r12 w11 _ hq => ?_)
            refine x_if_eq (tgt := 111) C dX3_readStatement_101 (by decide) hq (fun hq => ?_) (fun hq => ?_)
            · refine x_aload_n C 0 dX3_readStatement_111 rfl ?_
              refine x_iconst C dX3_readStatement_112 ?_
              refine x_callVi (K := 4) (rm := rmv 0 0 0 0) (As := [iV (1)]) (rest := []) C hA hR0 mf_X3_fail lk_X3_59 rfl (isK_lit hdm rfl rfl) (by decide) ⟨rfl, rfl⟩ ⟨Nat.le_of_ble_eq_true rfl, Nat.le_of_ble_eq_true rfl⟩ rfl rfl (Nat.le_of_ble_eq_true rfl) hce dX3_readStatement_113 hq (fun _ _ h => c_X3_fail g.l g.G hdm  h) (fun r14 w13 _ hq => ?_)
              exact hR _ _ _ _ (zr_2 hq) (zr_1 hq) dX3_readStatement_116
            · refine x_aload_n C 0 dX3_readStatement_104 rfl ?_
              refine x_aload_n C 1 dX3_readStatement_105 rfl ?_
              refine x_iconst C dX3_readStatement_106 ?_
              refine x_callVi (K := 4) (rm := rmv 6 142 0 0) (As := [.ref (d.ad (o1)), iV (2)]) (rest := []) C hA hR0 mf_X3_readPart lk_X3_97 rfl (isK_lit hdm rfl rfl) (by decide) ⟨rfl, rfl⟩ ⟨Nat.le_of_ble_eq_true rfl, Nat.le_of_ble_eq_true rfl⟩ rfl rfl (Nat.le_of_ble_eq_true rfl) hce dX3_readStatement_107 hq (fun _ _ h => c_X3_readPart g.l g.G hdm h1 h) (fun r16 w15 _ hq => ?_)
              exact hR _ _ _ _ (zr_2 hq) (zr_1 hq) dX3_readStatement_110
          · refine x_aload_n C 0 dX3_readStatement_85 rfl ?_
            refine x_aload_n C 1 dX3_readStatement_86 rfl ?_
            refine x_iconst C dX3_readStatement_87 ?_
            refine x_callVi (K := 4) (rm := rmv 6 142 0 0) (As := [.ref (d.ad (o1)), iV (1)]) (rest := []) C hA hR0 mf_X3_readPart lk_X3_97 rfl (isK_lit hdm rfl rfl) (by decide) ⟨rfl, rfl⟩ ⟨Nat.le_of_ble_eq_true rfl, Nat.le_of_ble_eq_true rfl⟩ rfl rfl (Nat.le_of_ble_eq_true rfl) hce dX3_readStatement_88 hq (fun _ _ h => c_X3_readPart g.l g.G hdm h1 h) (fun r18 w17 _ hq => ?_)
            exact hR _ _ _ _ (zr_2 hq) (zr_1 hq) dX3_readStatement_91
        · refine x_aload_n C 0 dX3_readStatement_66 rfl ?_
          refine x_aload_n C 1 dX3_readStatement_67 rfl ?_
          refine x_iconst C dX3_readStatement_68 ?_
          refine x_callVi (K := 4) (rm := rmv 6 142 0 0) (As := [.ref (d.ad (o1)), iV (0)]) (rest := []) C hA hR0 mf_X3_readPart lk_X3_97 rfl (isK_lit hdm rfl rfl) (by decide) ⟨rfl, rfl⟩ ⟨Nat.le_of_ble_eq_true rfl, Nat.le_of_ble_eq_true rfl⟩ rfl rfl (Nat.le_of_ble_eq_true rfl) hce dX3_readStatement_69 hq (fun _ _ h => c_X3_readPart g.l g.G hdm h1 h) (fun r20 w19 _ hq => ?_)
          exact hR _ _ _ _ (zr_2 hq) (zr_1 hq) dX3_readStatement_72
      · refine x_aload_n C 0 dX3_readStatement_48 rfl ?_
        refine x_aload_n C 1 dX3_readStatement_49 rfl ?_
        refine x_callVi (K := 4) (rm := rmv 6 142 0 0) (As := [.ref (d.ad (o1))]) (rest := []) C hA hR0 mf_X3_readChisel lk_X3_92 rfl (isK_lit hdm rfl rfl) (by decide) ⟨rfl, rfl⟩ ⟨Nat.le_of_ble_eq_true rfl, Nat.le_of_ble_eq_true rfl⟩ rfl rfl (Nat.le_of_ble_eq_true rfl) hce dX3_readStatement_50 hq (fun _ _ h => c_X3_readChisel g.l g.G hdm h1 h) (fun r22 w21 _ hq => ?_)
        exact hR _ _ _ _ (zr_2 hq) (zr_1 hq) dX3_readStatement_53
    · refine x_aload_n C 0 dX3_readStatement_30 rfl ?_
      refine x_aload_n C 1 dX3_readStatement_31 rfl ?_
      refine x_callVi (K := 4) (rm := rmv 6 142 0 0) (As := [.ref (d.ad (o1))]) (rest := []) C hA hR0 mf_X3_readGap lk_X3_87 rfl (isK_lit hdm rfl rfl) (by decide) ⟨rfl, rfl⟩ ⟨Nat.le_of_ble_eq_true rfl, Nat.le_of_ble_eq_true rfl⟩ rfl rfl (Nat.le_of_ble_eq_true rfl) hce dX3_readStatement_32 hq (fun _ _ h => c_X3_readGap g.l g.G hdm h1 h) (fun r24 w23 _ hq => ?_)
      exact hR _ _ _ _ (zr_2 hq) (zr_1 hq) dX3_readStatement_35
  · refine x_aload_n C 0 dX3_readStatement_12 rfl ?_
    refine x_aload_n C 1 dX3_readStatement_13 rfl ?_
    refine x_callVi (K := 4) (rm := rmv 6 142 0 0) (As := [.ref (d.ad (o1))]) (rest := []) C hA hR0 mf_X3_readFlaws lk_X3_82 rfl (isK_lit hdm rfl rfl) (by decide) ⟨rfl, rfl⟩ ⟨Nat.le_of_ble_eq_true rfl, Nat.le_of_ble_eq_true rfl⟩ rfl rfl (Nat.le_of_ble_eq_true rfl) hce dX3_readStatement_14 hq (fun _ _ h => c_X3_readFlaws g.l g.G hdm h1 h) (fun r26 w25 _ hq => ?_)
    exact hR _ _ _ _ (zr_2 hq) (zr_1 hq) dX3_readStatement_17
set_option maxRecDepth 100000 in
set_option maxHeartbeats 4000000 in
theorem c_X3_readStatement (l : Launch) (G : Gd) {dm na : Nat} {ad : Nat → Nat} (hdm : dm = 0) {o1 : Nat} {w w' : Wd} {r : Int} (h1 : isK na dm 7 o1) (hq : p_X3_readStatement o1 w = some (r, w')) : mI l yX3_readStatement cX3_readStatement 2 (some .boolean) (rmv 7 166 0 0) G dm na ad [.ref (ad (9)), .ref (ad (o1))] w r w' := by
  refine met_I [(0, .ref (ad (9))), (1, .ref (ad (o1)))] (by decide) (Nat.le_of_ble_eq_true rfl) rfl .boolean rfl (fun g d C S hR => ?_)
  obtain ⟨rfl, hR0, rfl, rfl, rfl, hA⟩ := S
  exact L_X3_readStatement (d := (na, ad, 0, 0)) C hdm hA hR0 ⟨Nat.zero_le _, Nat.zero_le _⟩ hR h1  w hq
set_option maxRecDepth 100000 in
set_option maxHeartbeats 4000000 in
theorem L_X3_read_40 {g : Cx} {d : Dl} (C : CX g cX3_read 4 (some .boolean) RX3) (hdm : g.dm = 0) (hA : ∀ q : Nat, g.s.heap.size ≤ q → g.A q) (hR0 : g.R = rmv 8 187 0 0) (hce : d.ce ≤ g.R.cells ∧ d.so ≤ g.R.slots) {res : Int × Wd} (hR : rtI g d cX3_read .boolean res) {o1 : Nat} (h1 : isK d.na g.dm 7 o1) : ∀ (n : Nat) (x2 : Int) (x3 : Int) (w : Wd), p_X3_read_40 o1 n x2 x3 w = some res → XG g d (hP g d w) [(0, .ref (d.ad (9))), (1, .ref (d.ad (o1))), (2, iV (x2)), (3, iV (x3))] [] 40 := by
  intro n
  induction n with
  | zero => intro x2 x3 w  hq; exact nomatch (show none = some _ from hq)
  | succ n ih =>
    intro x2 x3 w  hq
    refine x_iload_n C 3 dX3_read_40 rfl ?_
    refine x_sipush (v := 500) C dX3_read_41 (by decide +kernel) ?_
    refine x_icmp_ge (tgt := 73) C dX3_read_44 (by decide) hq (fun hq => ?_) (fun hq => ?_)
    · refine x_iload_n C 2 dX3_read_73 rfl ?_
      exact hR _ _ _ _ (zr_2 hq) (zr_1 hq) dX3_read_74
    · refine x_iload_n C 2 dX3_read_47 rfl ?_
      refine x_if_eq (tgt := 73) C dX3_read_48 (by decide) hq (fun hq => ?_) (fun hq => ?_)
      · refine x_iload_n C 2 dX3_read_73 rfl ?_
        exact hR _ _ _ _ (zr_2 hq) (zr_1 hq) dX3_read_74
      · refine x_aload_n C 0 dX3_read_51 rfl ?_
        refine x_getr (K := 4) (k := 0) (o2 := 8) C (isK_lit hdm rfl rfl) (by decide) cl_X3 (by decide) ⟨rfl, rfl, rfl⟩ fl_X3_31 rfl dX3_read_52 ?_
        refine x_get (K := 8) (k := 1) C (isK_lit hdm rfl rfl) (by decide) cl_X7 (by decide) ⟨rfl, rfl, rfl⟩ fl_X3_44 dX3_read_55 ?_
        refine x_if_eq (tgt := 73) C dX3_read_58 (by decide) hq (fun hq => ?_) (fun hq => ?_)
        · refine x_iload_n C 2 dX3_read_73 rfl ?_
          exact hR _ _ _ _ (zr_2 hq) (zr_1 hq) dX3_read_74
        · refine x_aload_n C 0 dX3_read_61 rfl ?_
          refine x_aload_n C 1 dX3_read_62 rfl ?_
          refine x_callVi (K := 4) (rm := rmv 7 166 0 0) (As := [.ref (d.ad (o1))]) (rest := []) C hA hR0 mf_X3_readStatement lk_X3_47 rfl (isK_lit hdm rfl rfl) (by decide) ⟨rfl, rfl⟩ ⟨Nat.le_of_ble_eq_true rfl, Nat.le_of_ble_eq_true rfl⟩ rfl rfl (Nat.le_of_ble_eq_true rfl) hce dX3_read_63 hq (fun _ _ h => c_X3_readStatement g.l g.G hdm h1 h) (fun r2 w1 _ hq => ?_)
          refine x_istore_n (lv' := [(2, iV (r2)), (0, .ref (d.ad (9))), (1, .ref (d.ad (o1))), (3, iV (x3))]) C dX3_read_66 (by decide) rfl ?_
          refine x_iinc (lv' := [(3, iV (x3 + 1)), (2, iV (r2)), (0, .ref (d.ad (9))), (1, .ref (d.ad (o1)))]) C 3 dX3_read_67 rfl (by decide) rfl ?_
          refine x_goto (tgt := 40) C dX3_read_70 (by decide) ?_
          refine XG.sub [2, 3, 1, 0] rfl ?_
          exact ih _ _ _ hq
set_option maxRecDepth 100000 in
set_option maxHeartbeats 4000000 in
theorem L_X3_read {g : Cx} {d : Dl} (C : CX g cX3_read 4 (some .boolean) RX3) (hdm : g.dm = 0) (hA : ∀ q : Nat, g.s.heap.size ≤ q → g.A q) (hR0 : g.R = rmv 8 187 0 0) (hce : d.ce ≤ g.R.cells ∧ d.so ≤ g.R.slots) {res : Int × Wd} (hR : rtI g d cX3_read .boolean res) {o1 : Nat} (h1 : isK d.na g.dm 7 o1)  (w : Wd) (hq : p_X3_read o1 w = some res) : XG g d (hP g d w) [(0, .ref (d.ad (9))), (1, .ref (d.ad (o1)))] [] 0 := by
  refine x_aload_n C 0 dX3_read_0 rfl ?_
  refine x_iconst C dX3_read_1 ?_
  refine x_put (K := 4) (k := 1) C (isK_lit hdm rfl rfl) (by decide) cl_X3 (by decide) ⟨rfl, rfl, rfl, rfl⟩ fl_X3_9 ⟨rfl, rfl⟩ dX3_read_2 ?_
  refine x_aload_n C 0 dX3_read_5 rfl ?_
  refine x_iconst C dX3_read_6 ?_
  refine x_put (K := 4) (k := 2) C (isK_lit hdm rfl rfl) (by decide) cl_X3 (by decide) ⟨rfl, rfl, rfl, rfl⟩ fl_X3_15 ⟨rfl, rfl⟩ dX3_read_7 ?_
  refine nmW hq (fun w1 ew1 hq => ?_)
  rw [← ew1]
  refine x_aload_n C 0 dX3_read_10 rfl ?_
  refine x_iconst C dX3_read_11 ?_
  refine x_put (K := 4) (k := 4) C (isK_lit hdm rfl rfl) (by decide) cl_X3 (by decide) ⟨rfl, rfl, rfl, rfl⟩ fl_X3_21 ⟨rfl, rfl⟩ dX3_read_12 ?_
  refine x_aload_n C 0 dX3_read_15 rfl ?_
  refine x_iconst C dX3_read_16 ?_
  refine x_put (K := 4) (k := 5) C (isK_lit hdm rfl rfl) (by decide) cl_X3 (by decide) ⟨rfl, rfl, rfl, rfl⟩ fl_X3_24 (by decide +kernel) dX3_read_17 ?_
  refine nmW hq (fun w2 ew2 hq => ?_)
  rw [← ew2]
  refine x_aload_n C 0 dX3_read_20 rfl ?_
  refine x_iconst C dX3_read_21 ?_
  refine x_put (K := 4) (k := 6) C (isK_lit hdm rfl rfl) (by decide) cl_X3 (by decide) ⟨rfl, rfl, rfl, rfl⟩ fl_X3_28 (by decide +kernel) dX3_read_22 ?_
  refine x_aload_n C 0 dX3_read_25 rfl ?_
  refine x_getr (K := 4) (k := 0) (o2 := 8) C (isK_lit hdm rfl rfl) (by decide) cl_X3 (by decide) ⟨rfl, rfl, rfl⟩ fl_X3_31 rfl dX3_read_26 ?_
  refine x_callVv (K := 8) (rm := rmv 2 42 0 0) (As := []) (rest := []) C hA hR0 mf_X7_restart lk_X3_35 rfl (isK_lit hdm rfl rfl) (by decide) ⟨rfl, rfl⟩ ⟨Nat.le_of_ble_eq_true rfl, Nat.le_of_ble_eq_true rfl⟩ rfl rfl (Nat.le_of_ble_eq_true rfl) hce dX3_read_29 hq (fun _ h => c_X7_restart g.l g.G hdm  h) (fun w3 _ hq => ?_)
  refine x_aload_n C 0 dX3_read_32 rfl ?_
  refine x_aload_n C 1 dX3_read_33 rfl ?_
  refine x_callVi (K := 4) (rm := rmv 6 142 0 0) (As := [.ref (d.ad (o1))]) (rest := []) C hA hR0 mf_X3_readSize lk_X3_40 rfl (isK_lit hdm rfl rfl) (by decide) ⟨rfl, rfl⟩ ⟨Nat.le_of_ble_eq_true rfl, Nat.le_of_ble_eq_true rfl⟩ rfl rfl (Nat.le_of_ble_eq_true rfl) hce dX3_read_34 hq (fun _ _ h => c_X3_readSize g.l g.G hdm h1 h) (fun r5 w4 _ hq => ?_)
  refine x_istore_n (lv' := [(2, iV (r5)), (0, .ref (d.ad (9))), (1, .ref (d.ad (o1)))]) C dX3_read_37 (by decide) rfl ?_
  refine x_iconst C dX3_read_38 ?_
  refine x_istore_n (lv' := [(3, iV (0)), (2, iV (r5)), (0, .ref (d.ad (9))), (1, .ref (d.ad (o1)))]) C dX3_read_39 (by decide) rfl ?_
  refine XG.sub [2, 3, 1, 0] rfl ?_
  exact L_X3_read_40 C hdm hA hR0 hce hR h1 _ _ _ _ hq
set_option maxRecDepth 100000 in
set_option maxHeartbeats 4000000 in
theorem c_X3_read (l : Launch) (G : Gd) {dm na : Nat} {ad : Nat → Nat} (hdm : dm = 0) {o1 : Nat} {w w' : Wd} {r : Int} (h1 : isK na dm 7 o1) (hq : p_X3_read o1 w = some (r, w')) : mI l yX3_read cX3_read 4 (some .boolean) (rmv 8 187 0 0) G dm na ad [.ref (ad (9)), .ref (ad (o1))] w r w' := by
  refine met_I [(0, .ref (ad (9))), (1, .ref (ad (o1)))] (by decide) (Nat.le_of_ble_eq_true rfl) rfl .boolean rfl (fun g d C S hR => ?_)
  obtain ⟨rfl, hR0, rfl, rfl, rfl, hA⟩ := S
  exact L_X3_read (d := (na, ad, 0, 0)) C hdm hA hR0 ⟨Nat.zero_le _, Nat.zero_le _⟩ hR h1  w hq
set_option maxRecDepth 100000 in
set_option maxHeartbeats 4000000 in
theorem L_X4_oldestToEnd_2 {g : Cx} {d : Dl} (C : CX g cX4_oldestToEnd 3 none RX4) (hdm : g.dm = 0) (hA : ∀ q : Nat, g.s.heap.size ≤ q → g.A q) (hR0 : g.R = rmv 0 0 0 0) (hce : d.ce ≤ g.R.cells ∧ d.so ≤ g.R.slots) {res : Wd} (hR : rtV g d cX4_oldestToEnd res) : ∀ (n : Nat) (x1 : Int) (w : Wd), p_X4_oldestToEnd_2 n x1 w = some res → XG g d (hP g d w) [(0, .ref (d.ad (31))), (1, iV (x1))] [] 2 := by
  intro n
  induction n with
  | zero => intro x1 w  hq; exact nomatch (show none = some _ from hq)
  | succ n ih =>
    intro x1 w  hq
    refine x_iload_n C 1 dX4_oldestToEnd_2 rfl ?_
    refine x_aload_n C 0 dX4_oldestToEnd_3 rfl ?_
    refine x_getr (K := 5) (k := 0) (o2 := 32) C (isK_lit hdm rfl rfl) (by decide) cl_X4 (by decide) ⟨rfl, rfl, rfl⟩ fl_X4_11 rfl dX4_oldestToEnd_4 ?_
    refine x_alenR C (isK_lit hdm rfl rfl) dX4_oldestToEnd_7 ?_
    refine x_icmp_ge (tgt := 47) C dX4_oldestToEnd_8 (by decide) hq (fun hq => ?_) (fun hq => ?_)
    · exact hR _ _ _ hq dX4_oldestToEnd_47
    · refine x_aload_n C 0 dX4_oldestToEnd_11 rfl ?_
      refine x_getr (K := 5) (k := 0) (o2 := 32) C (isK_lit hdm rfl rfl) (by decide) cl_X4 (by decide) ⟨rfl, rfl, rfl⟩ fl_X4_11 rfl dX4_oldestToEnd_12 ?_
      refine x_iload_n C 1 dX4_oldestToEnd_15 rfl ?_
      refine x_iconst C dX4_oldestToEnd_16 ?_
      refine x_isub C dX4_oldestToEnd_17 ?_
      refine inb_2 hq (fun hi hq => ?_)
      refine x_aald C hdm (isK_lit hdm rfl rfl) hi dX4_oldestToEnd_18 (fun q1 => ?_)
      refine x_storeV (lv' := [(2, rV d.ad (gP w 32 (x1 - 1))), (0, .ref (d.ad (31))), (1, iV (x1))]) C ⟨_, rfl⟩ dX4_oldestToEnd_19 (by decide) rfl ?_
      refine x_aload_n C 1 dX4_oldestToEnd_20 rfl ?_
      refine x_getr (K := 5) (k := 0) (o2 := 32) C (isK_lit hdm rfl rfl) (by decide) cl_X4 (by decide) ⟨rfl, rfl, rfl⟩ fl_X4_11 rfl dX4_oldestToEnd_21 ?_
      refine x_iload_n C 2 dX4_oldestToEnd_24 rfl ?_
      refine x_iconst C dX4_oldestToEnd_25 ?_
      refine x_isub C dX4_oldestToEnd_26 ?_
      refine x_aload_n C 1 dX4_oldestToEnd_27 rfl ?_
      refine x_getr (K := 5) (k := 0) (o2 := 32) C (isK_lit hdm rfl rfl) (by decide) cl_X4 (by decide) ⟨rfl, rfl, rfl⟩ fl_X4_11 rfl dX4_oldestToEnd_28 ?_
      refine x_iload_n C 2 dX4_oldestToEnd_31 rfl ?_
      refine inb_2 hq (fun hi hq => ?_)
      refine x_aald C hdm (isK_lit hdm rfl rfl) hi dX4_oldestToEnd_32 (fun q2 => ?_)
      refine inb_2 hq (fun hi hq => ?_)
      refine x_aastN C hdm (isK_lit hdm rfl rfl) hi q2 dX4_oldestToEnd_33 ?_
      refine x_aload_n C 1 dX4_oldestToEnd_34 rfl ?_
      refine x_getr (K := 5) (k := 0) (o2 := 32) C (isK_lit hdm rfl rfl) (by decide) cl_X4 (by decide) ⟨rfl, rfl, rfl⟩ fl_X4_11 rfl dX4_oldestToEnd_35 ?_
      refine x_iload_n C 2 dX4_oldestToEnd_38 rfl ?_
      refine x_loadV C 0 dX4_oldestToEnd_39 rfl ?_
      refine inb_2 hq (fun hi hq => ?_)
      refine x_aastN C hdm (isK_lit hdm rfl rfl) hi q1 dX4_oldestToEnd_40 ?_
      refine nmW hq (fun w3 ew3 hq => ?_)
      rw [← ew3]
      refine x_iinc (lv' := [(1, iV (x1 + 1)), (2, rV d.ad (gP w 32 (x1 - 1))), (0, .ref (d.ad (31)))]) C 2 dX4_oldestToEnd_41 rfl (by decide) rfl ?_
      refine x_goto (tgt := 2) C dX4_oldestToEnd_44 (by decide) ?_
      refine XG.sub [2, 0] rfl ?_
      exact ih _ _ hq
set_option maxRecDepth 100000 in
set_option maxHeartbeats 4000000 in
theorem L_X4_oldestToEnd {g : Cx} {d : Dl} (C : CX g cX4_oldestToEnd 3 none RX4) (hdm : g.dm = 0) (hA : ∀ q : Nat, g.s.heap.size ≤ q → g.A q) (hR0 : g.R = rmv 0 0 0 0) (hce : d.ce ≤ g.R.cells ∧ d.so ≤ g.R.slots) {res : Wd} (hR : rtV g d cX4_oldestToEnd res)  (w : Wd) (hq : p_X4_oldestToEnd  w = some res) : XG g d (hP g d w) [(0, .ref (d.ad (31)))] [] 0 := by
  refine x_iconst C dX4_oldestToEnd_0 ?_
  refine x_istore_n (lv' := [(1, iV (1)), (0, .ref (d.ad (31)))]) C dX4_oldestToEnd_1 (by decide) rfl ?_
  refine XG.sub [1, 0] rfl ?_
  exact L_X4_oldestToEnd_2 C hdm hA hR0 hce hR _ _ _ hq
set_option maxRecDepth 100000 in
set_option maxHeartbeats 4000000 in
theorem c_X4_oldestToEnd (l : Launch) (G : Gd) {dm na : Nat} {ad : Nat → Nat} (hdm : dm = 0)  {w w' : Wd}   (hq : p_X4_oldestToEnd  w = some w') : mV l yX4_oldestToEnd cX4_oldestToEnd 3 none (rmv 0 0 0 0) G dm na ad [.ref (ad (31))] w w' := by
  refine met_V [(0, .ref (ad (31)))] (by decide) (Nat.le_of_ble_eq_true rfl) rfl rfl (fun g d C S hR => ?_)
  obtain ⟨rfl, hR0, rfl, rfl, rfl, hA⟩ := S
  exact L_X4_oldestToEnd (d := (na, ad, 0, 0)) C hdm hA hR0 ⟨Nat.zero_le _, Nat.zero_le _⟩ hR   w hq
set_option maxRecDepth 100000 in
set_option maxHeartbeats 4000000 in
theorem L_X5_copy_16 {g : Cx} {d : Dl} (C : CX g cX5_copy 4 none RX5) (hdm : g.dm = 0) (hA : ∀ q : Nat, g.s.heap.size ≤ q → g.A q) (hR0 : g.R = rmv 1 21 0 0) (hce : d.ce ≤ g.R.cells ∧ d.so ≤ g.R.slots) {res : Wd} (hR : rtV g d cX5_copy res) {o0 : Nat} {o1 : Nat} (h0 : isK d.na g.dm 6 o0) (h1 : isK d.na g.dm 6 o1) : ∀ (n : Nat) (x2 : Int) (x3 : Int) (w : Wd), p_X5_copy_16 o0 o1 n x2 x3 w = some res → XG g d (hP g d w) [(0, .ref (d.ad (o0))), (1, .ref (d.ad (o1))), (2, iV (x2)), (3, iV (x3))] [] 16 := by
  intro n
  induction n with
  | zero => intro x2 x3 w  hq; exact nomatch (show none = some _ from hq)
  | succ n ih =>
    intro x2 x3 w  hq
    refine x_iload_n C 3 dX5_copy_16 rfl ?_
    refine x_iload_n C 2 dX5_copy_17 rfl ?_
    refine x_icmp_ge (tgt := 39) C dX5_copy_18 (by decide) hq (fun hq => ?_) (fun hq => ?_)
    · exact hR _ _ _ hq dX5_copy_39
    · refine x_aload_n C 0 dX5_copy_21 rfl ?_
      refine x_getr (K := 6) (k := 0) (o2 := o0 + 1) C h0 (by decide) cl_X5 (by decide) ⟨rfl, rfl, rfl⟩ fl_X5_7 rfl dX5_copy_22 ?_
      refine x_iload_n C 3 dX5_copy_25 rfl ?_
      refine x_aload_n C 1 dX5_copy_26 rfl ?_
      refine x_getr (K := 6) (k := 0) (o2 := o1 + 1) C h1 (by decide) cl_X5 (by decide) ⟨rfl, rfl, rfl⟩ fl_X5_7 rfl dX5_copy_27 ?_
      refine x_iload_n C 3 dX5_copy_30 rfl ?_
      refine inb_2 hq (fun hi hq => ?_)
      refine x_iald C (ik6 h1) hi dX5_copy_31 ?_
      refine inb_2 hq (fun hi hq => ?_)
      refine x_iast C (ik6 h0) hi dX5_copy_32 ?_
      refine x_iinc (lv' := [(3, iV (x3 + 1)), (0, .ref (d.ad (o0))), (1, .ref (d.ad (o1))), (2, iV (x2))]) C 3 dX5_copy_33 rfl (by decide) rfl ?_
      refine x_goto (tgt := 16) C dX5_copy_36 (by decide) ?_
      refine XG.sub [1, 2, 3, 0] rfl ?_
      exact ih _ _ _ hq
set_option maxRecDepth 100000 in
set_option maxHeartbeats 4000000 in
theorem L_X5_copy {g : Cx} {d : Dl} (C : CX g cX5_copy 4 none RX5) (hdm : g.dm = 0) (hA : ∀ q : Nat, g.s.heap.size ≤ q → g.A q) (hR0 : g.R = rmv 1 21 0 0) (hce : d.ce ≤ g.R.cells ∧ d.so ≤ g.R.slots) {res : Wd} (hR : rtV g d cX5_copy res) {o0 : Nat} {o1 : Nat} (h0 : isK d.na g.dm 6 o0) (h1 : isK d.na g.dm 6 o1)  (w : Wd) (hq : p_X5_copy o0 o1 w = some res) : XG g d (hP g d w) [(0, .ref (d.ad (o0))), (1, .ref (d.ad (o1)))] [] 0 := by
  refine x_aload_n C 0 dX5_copy_0 rfl ?_
  refine x_getr (K := 6) (k := 0) (o2 := o0 + 1) C h0 (by decide) cl_X5 (by decide) ⟨rfl, rfl, rfl⟩ fl_X5_7 rfl dX5_copy_1 ?_
  refine x_alen C (ik6 h0) dX5_copy_4 ?_
  refine x_aload_n C 1 dX5_copy_5 rfl ?_
  refine x_getr (K := 6) (k := 0) (o2 := o1 + 1) C h1 (by decide) cl_X5 (by decide) ⟨rfl, rfl, rfl⟩ fl_X5_7 rfl dX5_copy_6 ?_
  refine x_alen C (ik6 h1) dX5_copy_9 ?_
  refine x_min C hR0 lk_X5_13 jm_min_s jm_i jm_min_c ⟨Nat.le_of_ble_eq_true rfl, Nat.le_of_ble_eq_true rfl⟩ hce dX5_copy_10 ?_
  refine x_istore_n (lv' := [(2, iV (mn32 ((ln (o0 + 1) : Nat) : Int) ((ln (o1 + 1) : Nat) : Int))), (0, .ref (d.ad (o0))), (1, .ref (d.ad (o1)))]) C dX5_copy_13 (by decide) rfl ?_
  refine x_iconst C dX5_copy_14 ?_
  refine x_istore_n (lv' := [(3, iV (0)), (2, iV (mn32 ((ln (o0 + 1) : Nat) : Int) ((ln (o1 + 1) : Nat) : Int))), (0, .ref (d.ad (o0))), (1, .ref (d.ad (o1)))]) C dX5_copy_15 (by decide) rfl ?_
  refine XG.sub [2, 3, 1, 0] rfl ?_
  exact L_X5_copy_16 C hdm hA hR0 hce hR h0 h1 _ _ _ _ hq
set_option maxRecDepth 100000 in
set_option maxHeartbeats 4000000 in
theorem c_X5_copy (l : Launch) (G : Gd) {dm na : Nat} {ad : Nat → Nat} (hdm : dm = 0) {o0 : Nat} {o1 : Nat} {w w' : Wd}  (h0 : isK na dm 6 o0) (h1 : isK na dm 6 o1) (hq : p_X5_copy o0 o1 w = some w') : mV l yX5_copy cX5_copy 4 none (rmv 1 21 0 0) G dm na ad [.ref (ad (o0)), .ref (ad (o1))] w w' := by
  refine met_V [(0, .ref (ad (o0))), (1, .ref (ad (o1)))] (by decide) (Nat.le_of_ble_eq_true rfl) rfl rfl (fun g d C S hR => ?_)
  obtain ⟨rfl, hR0, rfl, rfl, rfl, hA⟩ := S
  exact L_X5_copy (d := (na, ad, 0, 0)) C hdm hA hR0 ⟨Nat.zero_le _, Nat.zero_le _⟩ hR h0 h1  w hq
set_option maxRecDepth 100000 in
set_option maxHeartbeats 4000000 in
theorem L_X1_copy {g : Cx} {d : Dl} (C : CX g cX1_copy 2 none RX1) (hdm : g.dm = 0) (hA : ∀ q : Nat, g.s.heap.size ≤ q → g.A q) (hR0 : g.R = rmv 0 0 0 0) (hce : d.ce ≤ g.R.cells ∧ d.so ≤ g.R.slots) {res : Wd} (hR : rtV g d cX1_copy res) {o0 : Nat} {o1 : Nat} (h0 : isK d.na g.dm 2 o0) (h1 : isK d.na g.dm 2 o1)  (w : Wd) (hq : p_X1_copy o0 o1 w = some res) : XG g d (hP g d w) [(0, .ref (d.ad (o0))), (1, .ref (d.ad (o1)))] [] 0 := by
  refine x_aload_n C 0 dX1_copy_0 rfl ?_
  refine x_aload_n C 1 dX1_copy_1 rfl ?_
  refine x_get (K := 2) (k := 0) C h1 (by decide) cl_X1 (by decide) ⟨rfl, rfl, rfl⟩ fl_X1_9 dX1_copy_2 ?_
  refine x_put (K := 2) (k := 0) C h0 (by decide) cl_X1 (by decide) ⟨rfl, rfl, rfl, rfl⟩ fl_X1_9 ⟨rfl, rfl⟩ dX1_copy_5 ?_
  refine x_aload_n C 0 dX1_copy_8 rfl ?_
  refine x_aload_n C 1 dX1_copy_9 rfl ?_
  refine x_get (K := 2) (k := 1) C h1 (by decide) cl_X1 (by decide) ⟨rfl, rfl, rfl⟩ fl_X1_15 dX1_copy_10 ?_
  refine x_put (K := 2) (k := 1) C h0 (by decide) cl_X1 (by decide) ⟨rfl, rfl, rfl, rfl⟩ fl_X1_15 ⟨rfl, rfl⟩ dX1_copy_13 ?_
  refine nmW hq (fun w1 ew1 hq => ?_)
  rw [← ew1]
  refine x_aload_n C 0 dX1_copy_16 rfl ?_
  refine x_aload_n C 1 dX1_copy_17 rfl ?_
  refine x_get (K := 2) (k := 2) C h1 (by decide) cl_X1 (by decide) ⟨rfl, rfl, rfl⟩ fl_X1_18 dX1_copy_18 ?_
  refine x_put (K := 2) (k := 2) C h0 (by decide) cl_X1 (by decide) ⟨rfl, rfl, rfl, rfl⟩ fl_X1_18 ⟨rfl, rfl⟩ dX1_copy_21 ?_
  refine x_aload_n C 0 dX1_copy_24 rfl ?_
  refine x_aload_n C 1 dX1_copy_25 rfl ?_
  refine x_get (K := 2) (k := 3) C h1 (by decide) cl_X1 (by decide) ⟨rfl, rfl, rfl⟩ fl_X1_21 dX1_copy_26 ?_
  refine x_put (K := 2) (k := 3) C h0 (by decide) cl_X1 (by decide) ⟨rfl, rfl, rfl, rfl⟩ fl_X1_21 ⟨rfl, rfl⟩ dX1_copy_29 ?_
  refine nmW hq (fun w2 ew2 hq => ?_)
  rw [← ew2]
  refine x_aload_n C 0 dX1_copy_32 rfl ?_
  refine x_aload_n C 1 dX1_copy_33 rfl ?_
  refine x_get (K := 2) (k := 4) C h1 (by decide) cl_X1 (by decide) ⟨rfl, rfl, rfl⟩ fl_X1_24 dX1_copy_34 ?_
  refine x_put (K := 2) (k := 4) C h0 (by decide) cl_X1 (by decide) ⟨rfl, rfl, rfl, rfl⟩ fl_X1_24 ⟨rfl, rfl⟩ dX1_copy_37 ?_
  exact hR _ _ _ hq dX1_copy_40
set_option maxRecDepth 100000 in
set_option maxHeartbeats 4000000 in
theorem c_X1_copy (l : Launch) (G : Gd) {dm na : Nat} {ad : Nat → Nat} (hdm : dm = 0) {o0 : Nat} {o1 : Nat} {w w' : Wd}  (h0 : isK na dm 2 o0) (h1 : isK na dm 2 o1) (hq : p_X1_copy o0 o1 w = some w') : mV l yX1_copy cX1_copy 2 none (rmv 0 0 0 0) G dm na ad [.ref (ad (o0)), .ref (ad (o1))] w w' := by
  refine met_V [(0, .ref (ad (o0))), (1, .ref (ad (o1)))] (by decide) (Nat.le_of_ble_eq_true rfl) rfl rfl (fun g d C S hR => ?_)
  obtain ⟨rfl, hR0, rfl, rfl, rfl, hA⟩ := S
  exact L_X1_copy (d := (na, ad, 0, 0)) C hdm hA hR0 ⟨Nat.zero_le _, Nat.zero_le _⟩ hR h0 h1  w hq
set_option maxRecDepth 100000 in
set_option maxHeartbeats 4000000 in
theorem L_X6_copy {g : Cx} {d : Dl} (C : CX g cX6_copy 2 none RX6) (hdm : g.dm = 0) (hA : ∀ q : Nat, g.s.heap.size ≤ q → g.A q) (hR0 : g.R = rmv 2 44 0 0) (hce : d.ce ≤ g.R.cells ∧ d.so ≤ g.R.slots) {res : Wd} (hR : rtV g d cX6_copy res) {o0 : Nat} {o1 : Nat} (h0 : isK d.na g.dm 7 o0) (h1 : isK d.na g.dm 7 o1)  (w : Wd) (hq : p_X6_copy o0 o1 w = some res) : XG g d (hP g d w) [(0, .ref (d.ad (o0))), (1, .ref (d.ad (o1)))] [] 0 := by
  refine x_aload_n C 0 dX6_copy_0 rfl ?_
  refine x_aload_n C 1 dX6_copy_1 rfl ?_
  refine x_get (K := 7) (k := 0) C h1 (by decide) cl_X6 (by decide) ⟨rfl, rfl, rfl⟩ fl_X6_9 dX6_copy_2 ?_
  refine x_put (K := 7) (k := 0) C h0 (by decide) cl_X6 (by decide) ⟨rfl, rfl, rfl, rfl⟩ fl_X6_9 ⟨rfl, rfl⟩ dX6_copy_5 ?_
  refine x_aload_n C 0 dX6_copy_8 rfl ?_
  refine x_aload_n C 1 dX6_copy_9 rfl ?_
  refine x_get (K := 7) (k := 1) C h1 (by decide) cl_X6 (by decide) ⟨rfl, rfl, rfl⟩ fl_X6_15 dX6_copy_10 ?_
  refine x_put (K := 7) (k := 1) C h0 (by decide) cl_X6 (by decide) ⟨rfl, rfl, rfl, rfl⟩ fl_X6_15 ⟨rfl, rfl⟩ dX6_copy_13 ?_
  refine nmW hq (fun w1 ew1 hq => ?_)
  rw [← ew1]
  refine x_aload_n C 0 dX6_copy_16 rfl ?_
  refine x_aload_n C 1 dX6_copy_17 rfl ?_
  refine x_get (K := 7) (k := 2) C h1 (by decide) cl_X6 (by decide) ⟨rfl, rfl, rfl⟩ fl_X6_18 dX6_copy_18 ?_
  refine x_put (K := 7) (k := 2) C h0 (by decide) cl_X6 (by decide) ⟨rfl, rfl, rfl, rfl⟩ fl_X6_18 ⟨rfl, rfl⟩ dX6_copy_21 ?_
  refine x_aload_n C 0 dX6_copy_24 rfl ?_
  refine x_getr (K := 7) (k := 3) (o2 := o0 + 1) C h0 (by decide) cl_X6 (by decide) ⟨rfl, rfl, rfl⟩ fl_X6_26 rfl dX6_copy_25 ?_
  refine x_aload_n C 1 dX6_copy_28 rfl ?_
  refine x_getr (K := 7) (k := 3) (o2 := o1 + 1) C h1 (by decide) cl_X6 (by decide) ⟨rfl, rfl, rfl⟩ fl_X6_26 rfl dX6_copy_29 ?_
  refine x_callVv (K := 6) (rm := rmv 1 21 0 0) (As := [.ref (d.ad (o1 + 1))]) (rest := []) C hA hR0 mf_X5_copy lk_X6_74 rfl (ik7 h0).1 (by decide) ⟨rfl, rfl⟩ ⟨Nat.le_of_ble_eq_true rfl, Nat.le_of_ble_eq_true rfl⟩ rfl rfl (Nat.le_of_ble_eq_true rfl) hce dX6_copy_32 hq (fun _ h => c_X5_copy g.l g.G hdm (ik7 h0).1 (ik7 h1).1 h) (fun w2 _ hq => ?_)
  refine x_aload_n C 0 dX6_copy_35 rfl ?_
  refine x_aload_n C 1 dX6_copy_36 rfl ?_
  refine x_get (K := 7) (k := 4) C h1 (by decide) cl_X6 (by decide) ⟨rfl, rfl, rfl⟩ fl_X6_30 dX6_copy_37 ?_
  refine x_put (K := 7) (k := 4) C h0 (by decide) cl_X6 (by decide) ⟨rfl, rfl, rfl, rfl⟩ fl_X6_30 ⟨rfl, rfl⟩ dX6_copy_40 ?_
  refine x_aload_n C 0 dX6_copy_43 rfl ?_
  refine x_getr (K := 7) (k := 5) (o2 := o0 + 3) C h0 (by decide) cl_X6 (by decide) ⟨rfl, rfl, rfl⟩ fl_X6_33 rfl dX6_copy_44 ?_
  refine x_aload_n C 1 dX6_copy_47 rfl ?_
  refine x_getr (K := 7) (k := 5) (o2 := o1 + 3) C h1 (by decide) cl_X6 (by decide) ⟨rfl, rfl, rfl⟩ fl_X6_33 rfl dX6_copy_48 ?_
  refine x_callVv (K := 6) (rm := rmv 1 21 0 0) (As := [.ref (d.ad (o1 + 3))]) (rest := []) C hA hR0 mf_X5_copy lk_X6_74 rfl (ik7 h0).2.1 (by decide) ⟨rfl, rfl⟩ ⟨Nat.le_of_ble_eq_true rfl, Nat.le_of_ble_eq_true rfl⟩ rfl rfl (Nat.le_of_ble_eq_true rfl) hce dX6_copy_51 hq (fun _ h => c_X5_copy g.l g.G hdm (ik7 h0).2.1 (ik7 h1).2.1 h) (fun w3 _ hq => ?_)
  refine x_aload_n C 0 dX6_copy_54 rfl ?_
  refine x_getr (K := 7) (k := 6) (o2 := o0 + 5) C h0 (by decide) cl_X6 (by decide) ⟨rfl, rfl, rfl⟩ fl_X6_36 rfl dX6_copy_55 ?_
  refine x_aload_n C 1 dX6_copy_58 rfl ?_
  refine x_getr (K := 7) (k := 6) (o2 := o1 + 5) C h1 (by decide) cl_X6 (by decide) ⟨rfl, rfl, rfl⟩ fl_X6_36 rfl dX6_copy_59 ?_
  refine x_callVv (K := 6) (rm := rmv 1 21 0 0) (As := [.ref (d.ad (o1 + 5))]) (rest := []) C hA hR0 mf_X5_copy lk_X6_74 rfl (ik7 h0).2.2.1 (by decide) ⟨rfl, rfl⟩ ⟨Nat.le_of_ble_eq_true rfl, Nat.le_of_ble_eq_true rfl⟩ rfl rfl (Nat.le_of_ble_eq_true rfl) hce dX6_copy_62 hq (fun _ h => c_X5_copy g.l g.G hdm (ik7 h0).2.2.1 (ik7 h1).2.2.1 h) (fun w4 _ hq => ?_)
  refine x_aload_n C 0 dX6_copy_65 rfl ?_
  refine x_aload_n C 1 dX6_copy_66 rfl ?_
  refine x_get (K := 7) (k := 7) C h1 (by decide) cl_X6 (by decide) ⟨rfl, rfl, rfl⟩ fl_X6_39 dX6_copy_67 ?_
  refine x_put (K := 7) (k := 7) C h0 (by decide) cl_X6 (by decide) ⟨rfl, rfl, rfl, rfl⟩ fl_X6_39 ⟨rfl, rfl⟩ dX6_copy_70 ?_
  refine x_aload_n C 0 dX6_copy_73 rfl ?_
  refine x_getr (K := 7) (k := 8) (o2 := o0 + 7) C h0 (by decide) cl_X6 (by decide) ⟨rfl, rfl, rfl⟩ fl_X6_42 rfl dX6_copy_74 ?_
  refine x_aload_n C 1 dX6_copy_77 rfl ?_
  refine x_getr (K := 7) (k := 8) (o2 := o1 + 7) C h1 (by decide) cl_X6 (by decide) ⟨rfl, rfl, rfl⟩ fl_X6_42 rfl dX6_copy_78 ?_
  refine x_callVv (K := 6) (rm := rmv 1 21 0 0) (As := [.ref (d.ad (o1 + 7))]) (rest := []) C hA hR0 mf_X5_copy lk_X6_74 rfl (ik7 h0).2.2.2.1 (by decide) ⟨rfl, rfl⟩ ⟨Nat.le_of_ble_eq_true rfl, Nat.le_of_ble_eq_true rfl⟩ rfl rfl (Nat.le_of_ble_eq_true rfl) hce dX6_copy_81 hq (fun _ h => c_X5_copy g.l g.G hdm (ik7 h0).2.2.2.1 (ik7 h1).2.2.2.1 h) (fun w5 _ hq => ?_)
  refine x_aload_n C 0 dX6_copy_84 rfl ?_
  refine x_getr (K := 7) (k := 9) (o2 := o0 + 9) C h0 (by decide) cl_X6 (by decide) ⟨rfl, rfl, rfl⟩ fl_X6_45 rfl dX6_copy_85 ?_
  refine x_aload_n C 1 dX6_copy_88 rfl ?_
  refine x_getr (K := 7) (k := 9) (o2 := o1 + 9) C h1 (by decide) cl_X6 (by decide) ⟨rfl, rfl, rfl⟩ fl_X6_45 rfl dX6_copy_89 ?_
  refine x_callVv (K := 6) (rm := rmv 1 21 0 0) (As := [.ref (d.ad (o1 + 9))]) (rest := []) C hA hR0 mf_X5_copy lk_X6_74 rfl (ik7 h0).2.2.2.2.1 (by decide) ⟨rfl, rfl⟩ ⟨Nat.le_of_ble_eq_true rfl, Nat.le_of_ble_eq_true rfl⟩ rfl rfl (Nat.le_of_ble_eq_true rfl) hce dX6_copy_92 hq (fun _ h => c_X5_copy g.l g.G hdm (ik7 h0).2.2.2.2.1 (ik7 h1).2.2.2.2.1 h) (fun w6 _ hq => ?_)
  refine x_aload_n C 0 dX6_copy_95 rfl ?_
  refine x_getr (K := 7) (k := 10) (o2 := o0 + 11) C h0 (by decide) cl_X6 (by decide) ⟨rfl, rfl, rfl⟩ fl_X6_51 rfl dX6_copy_96 ?_
  refine x_aload_n C 1 dX6_copy_99 rfl ?_
  refine x_getr (K := 7) (k := 10) (o2 := o1 + 11) C h1 (by decide) cl_X6 (by decide) ⟨rfl, rfl, rfl⟩ fl_X6_51 rfl dX6_copy_100 ?_
  refine x_callVv (K := 2) (rm := rmv 0 0 0 0) (As := [.ref (d.ad (o1 + 11))]) (rest := []) C hA hR0 mf_X1_copy lk_X6_78 rfl (ik7 h0).2.2.2.2.2 (by decide) ⟨rfl, rfl⟩ ⟨Nat.le_of_ble_eq_true rfl, Nat.le_of_ble_eq_true rfl⟩ rfl rfl (Nat.le_of_ble_eq_true rfl) hce dX6_copy_103 hq (fun _ h => c_X1_copy g.l g.G hdm (ik7 h0).2.2.2.2.2 (ik7 h1).2.2.2.2.2 h) (fun w7 _ hq => ?_)
  refine x_aload_n C 0 dX6_copy_106 rfl ?_
  refine x_aload_n C 1 dX6_copy_107 rfl ?_
  refine x_get (K := 7) (k := 11) C h1 (by decide) cl_X6 (by decide) ⟨rfl, rfl, rfl⟩ fl_X6_55 dX6_copy_108 ?_
  refine x_put (K := 7) (k := 11) C h0 (by decide) cl_X6 (by decide) ⟨rfl, rfl, rfl, rfl⟩ fl_X6_55 ⟨rfl, rfl⟩ dX6_copy_111 ?_
  exact hR _ _ _ hq dX6_copy_114
set_option maxRecDepth 100000 in
set_option maxHeartbeats 4000000 in
theorem c_X6_copy (l : Launch) (G : Gd) {dm na : Nat} {ad : Nat → Nat} (hdm : dm = 0) {o0 : Nat} {o1 : Nat} {w w' : Wd}  (h0 : isK na dm 7 o0) (h1 : isK na dm 7 o1) (hq : p_X6_copy o0 o1 w = some w') : mV l yX6_copy cX6_copy 2 none (rmv 2 44 0 0) G dm na ad [.ref (ad (o0)), .ref (ad (o1))] w w' := by
  refine met_V [(0, .ref (ad (o0))), (1, .ref (ad (o1)))] (by decide) (Nat.le_of_ble_eq_true rfl) rfl rfl (fun g d C S hR => ?_)
  obtain ⟨rfl, hR0, rfl, rfl, rfl, hA⟩ := S
  exact L_X6_copy (d := (na, ad, 0, 0)) C hdm hA hR0 ⟨Nat.zero_le _, Nat.zero_le _⟩ hR h0 h1  w hq
set_option maxRecDepth 100000 in
set_option maxHeartbeats 4000000 in
theorem L_X4_remember_78 {g : Cx} {d : Dl} (C : CX g cX4_remember 3 none RX4) (hdm : g.dm = 0) (hA : ∀ q : Nat, g.s.heap.size ≤ q → g.A q) (hR0 : g.R = rmv 3 65 12 834) (hce : d.ce + 0 ≤ 12 ∧ d.so + 0 ≤ 834) {na0 : Nat} {ad0 : Nat → Nat} {res : Rz} (hT : thC g na0 ad0 12 834 res) (hR : RGV g na0 ad0 cX4_remember 12 834 res) (hag : AG na0 ad0 d) {o1 : Nat} (h1 : isK d.na g.dm 7 o1) (q2 : Nat) (w : Wd) (f2 : isK d.na g.dm 7 q2) (hq : p_X4_remember_78 o1 q2 d.na w = some res) : XG g d (hP g d w) [(0, .ref (d.ad (31))), (1, .ref (d.ad (o1))), (2, .ref (d.ad (q2)))] [] 78 := by
  refine x_aload_n C 2 dX4_remember_78 rfl ?_
  refine x_aload_n C 1 dX4_remember_79 rfl ?_
  refine x_callVv (K := 7) (rm := rmv 2 44 0 0) (As := [.ref (d.ad (o1))]) (rest := []) C hA hR0 mf_X6_copy lk_X4_25 rfl f2 (by decide) ⟨rfl, rfl⟩ ⟨Nat.le_of_ble_eq_true rfl, Nat.le_of_ble_eq_true rfl⟩ rfl rfl (Nat.le_of_ble_eq_true rfl) (gce hR0 hce) dX4_remember_80 hq (fun _ h => c_X6_copy g.l g.G hdm f2 h1 h) (fun w1 _ hq => ?_)
  refine x_aload_n C 0 dX4_remember_83 rfl ?_
  refine x_dup C rfl dX4_remember_84 ?_
  refine x_get (K := 5) (k := 1) C (isK_lit hdm rfl rfl) (by decide) cl_X4 (by decide) ⟨rfl, rfl, rfl⟩ fl_X4_17 dX4_remember_85 ?_
  refine x_iconst C dX4_remember_88 ?_
  refine x_iadd C dX4_remember_89 ?_
  refine x_put (K := 5) (k := 1) C (isK_lit hdm rfl rfl) (by decide) cl_X4 (by decide) ⟨rfl, rfl, rfl, rfl⟩ fl_X4_17 ⟨rfl, rfl⟩ dX4_remember_90 ?_
  exact hR.1 _ _ _ _ hag (gcd hce) hq dX4_remember_93
set_option maxRecDepth 100000 in
set_option maxHeartbeats 4000000 in
theorem L_X4_remember_27 {g : Cx} {d : Dl} (C : CX g cX4_remember 3 none RX4) (hdm : g.dm = 0) (hA : ∀ q : Nat, g.s.heap.size ≤ q → g.A q) (hR0 : g.R = rmv 3 65 12 834) (hce : d.ce + 12 ≤ 12 ∧ d.so + 834 ≤ 834) {na0 : Nat} {ad0 : Nat → Nat} {res : Rz} (hT : thC g na0 ad0 12 834 res) (hR : RGV g na0 ad0 cX4_remember 12 834 res) (hag : AG na0 ad0 d) {o1 : Nat} (h1 : isK d.na g.dm 7 o1)  (w : Wd) (hq : p_X4_remember_27 o1 d.na w = some res) : XG g d (hP g d w) [(0, .ref (d.ad (31))), (1, .ref (d.ad (o1)))] [] 27 := by
  refine x_aload_n C 0 dX4_remember_27 rfl ?_
  refine x_get (K := 5) (k := 1) C (isK_lit hdm rfl rfl) (by decide) cl_X4 (by decide) ⟨rfl, rfl, rfl⟩ fl_X4_17 dX4_remember_28 ?_
  refine x_if_lt (tgt := 93) C dX4_remember_31 (by decide) hq (fun hq => ?_) (fun hq => ?_)
  · exact hR.1 _ _ _ _ hag (gcd hce) hq dX4_remember_93
  · refine x_aload_n C 0 dX4_remember_34 rfl ?_
    refine x_get (K := 5) (k := 1) C (isK_lit hdm rfl rfl) (by decide) cl_X4 (by decide) ⟨rfl, rfl, rfl⟩ fl_X4_17 dX4_remember_35 ?_
    refine x_aload_n C 0 dX4_remember_38 rfl ?_
    refine x_getr (K := 5) (k := 0) (o2 := 32) C (isK_lit hdm rfl rfl) (by decide) cl_X4 (by decide) ⟨rfl, rfl, rfl⟩ fl_X4_11 rfl dX4_remember_39 ?_
    refine x_alenR C (isK_lit hdm rfl rfl) dX4_remember_42 ?_
    refine x_icmp_ge (tgt := 93) C dX4_remember_43 (by decide) hq (fun hq => ?_) (fun hq => ?_)
    · exact hR.1 _ _ _ _ hag (gcd hce) hq dX4_remember_93
    · refine x_aload_n C 0 dX4_remember_46 rfl ?_
      refine x_getr (K := 5) (k := 0) (o2 := 32) C (isK_lit hdm rfl rfl) (by decide) cl_X4 (by decide) ⟨rfl, rfl, rfl⟩ fl_X4_11 rfl dX4_remember_47 ?_
      refine x_aload_n C 0 dX4_remember_50 rfl ?_
      refine x_get (K := 5) (k := 1) C (isK_lit hdm rfl rfl) (by decide) cl_X4 (by decide) ⟨rfl, rfl, rfl⟩ fl_X4_17 dX4_remember_51 ?_
      refine inb_2 hq (fun hi hq => ?_)
      refine x_aald C hdm (isK_lit hdm rfl rfl) hi dX4_remember_54 (fun q1 => ?_)
      refine x_storeV (lv' := [(2, rV d.ad (gP w 32 (gF w 31 1))), (0, .ref (d.ad (31))), (1, .ref (d.ad (o1)))]) C ⟨_, rfl⟩ dX4_remember_55 (by decide) rfl ?_
      refine x_loadV C 0 dX4_remember_56 rfl ?_
      refine x_ifnonnull (tgt := 78) C q1 dX4_remember_57 (by decide) hq (fun z2 z3 hq => ?_) (fun hq => ?_)
      · try rw [rVn z2]
        refine XG.sub [1, 2, 0] rfl ?_
        have hce : d.ce + 0 ≤ 12 ∧ d.so + 0 ≤ 834 := ⟨by omega, by omega⟩
        exact L_X4_remember_78 C hdm hA hR0 hce hT hR hag h1 _ _ z3 hq
      · refine x_newS_X4 C hdm hA hR0 (gcc hR0 hce (by decide) (by decide)).1 ⟨Nat.le_of_ble_eq_true rfl, Nat.le_of_ble_eq_true rfl⟩ (Nat.le_of_ble_eq_true rfl) dX4_remember_60 dX4_remember_63 dX4_remember_64 (fun d4 g5 hn hc1 hc2 => ?_)
        try rw [agr g5 (K := 5) (isK_lit hdm rfl rfl) (by decide)]
        try rw [agr g5 (K := 7) h1 (by decide)]
        have k6 : isK d4.na g.dm 7 (sl (d.na + 2)) := newK hdm hn
        rw [← hn] at hq
        have hag := hag.trans g5
        have hce : d4.ce + 0 ≤ 12 ∧ d4.so + 0 ≤ 834 := ⟨by omega, by omega⟩
        have h1 := g5.isK (by decide) h1
        refine x_astore_n (lv' := [(2, .ref (d4.ad (sl (d.na + 2)))), (0, .ref (d4.ad (31))), (1, .ref (d4.ad (o1)))]) C dX4_remember_67 (by decide) rfl ?_
        refine x_aload_n C 1 dX4_remember_68 rfl ?_
        refine x_getr (K := 5) (k := 0) (o2 := 32) C (isK_lit hdm rfl rfl) (by decide) cl_X4 (by decide) ⟨rfl, rfl, rfl⟩ fl_X4_11 rfl dX4_remember_69 ?_
        refine x_aload_n C 1 dX4_remember_72 rfl ?_
        refine x_get (K := 5) (k := 1) C (isK_lit hdm rfl rfl) (by decide) cl_X4 (by decide) ⟨rfl, rfl, rfl⟩ fl_X4_17 dX4_remember_73 ?_
        refine x_aload_n C 0 dX4_remember_76 rfl ?_
        refine inb_2 hq (fun hi hq => ?_)
        refine x_aastR C hdm (isK_lit hdm rfl rfl) hi k6 dX4_remember_77 ?_
        refine XG.sub [1, 2, 0] rfl ?_
        exact L_X4_remember_78 C hdm hA hR0 hce hT hR hag h1 _ _ k6 hq
set_option maxRecDepth 100000 in
set_option maxHeartbeats 4000000 in
theorem L_X4_remember {g : Cx} {d : Dl} (C : CX g cX4_remember 3 none RX4) (hdm : g.dm = 0) (hA : ∀ q : Nat, g.s.heap.size ≤ q → g.A q) (hR0 : g.R = rmv 3 65 12 834) (hce : d.ce + 12 ≤ 12 ∧ d.so + 834 ≤ 834) {na0 : Nat} {ad0 : Nat → Nat} {res : Rz} (hT : thC g na0 ad0 12 834 res) (hR : RGV g na0 ad0 cX4_remember 12 834 res) (hag : AG na0 ad0 d) {o1 : Nat} (h1 : isK d.na g.dm 7 o1)  (w : Wd) (hq : p_X4_remember o1 d.na w = some res) : XG g d (hP g d w) [(0, .ref (d.ad (31))), (1, .ref (d.ad (o1)))] [] 0 := by
  refine x_aload_n C 0 dX4_remember_0 rfl ?_
  refine x_get (K := 5) (k := 1) C (isK_lit hdm rfl rfl) (by decide) cl_X4 (by decide) ⟨rfl, rfl, rfl⟩ fl_X4_17 dX4_remember_1 ?_
  refine x_aload_n C 0 dX4_remember_4 rfl ?_
  refine x_getr (K := 5) (k := 0) (o2 := 32) C (isK_lit hdm rfl rfl) (by decide) cl_X4 (by decide) ⟨rfl, rfl, rfl⟩ fl_X4_11 rfl dX4_remember_5 ?_
  refine x_alenR C (isK_lit hdm rfl rfl) dX4_remember_8 ?_
  refine x_icmp_lt (tgt := 27) C dX4_remember_9 (by decide) hq (fun hq => ?_) (fun hq => ?_)
  · exact L_X4_remember_27 C hdm hA hR0 hce hT hR hag h1 _ hq
  · refine x_aload_n C 0 dX4_remember_12 rfl ?_
    refine x_callVv (K := 5) (rm := rmv 0 0 0 0) (As := []) (rest := []) C hA hR0 mf_X4_oldestToEnd lk_X4_21 rfl (isK_lit hdm rfl rfl) (by decide) ⟨rfl, rfl⟩ ⟨Nat.le_of_ble_eq_true rfl, Nat.le_of_ble_eq_true rfl⟩ rfl rfl (Nat.le_of_ble_eq_true rfl) (gce hR0 hce) dX4_remember_13 hq (fun _ h => c_X4_oldestToEnd g.l g.G hdm  h) (fun w1 _ hq => ?_)
    refine x_aload_n C 0 dX4_remember_16 rfl ?_
    refine x_aload_n C 0 dX4_remember_17 rfl ?_
    refine x_getr (K := 5) (k := 0) (o2 := 32) C (isK_lit hdm rfl rfl) (by decide) cl_X4 (by decide) ⟨rfl, rfl, rfl⟩ fl_X4_11 rfl dX4_remember_18 ?_
    refine x_alenR C (isK_lit hdm rfl rfl) dX4_remember_21 ?_
    refine x_iconst C dX4_remember_22 ?_
    refine x_isub C dX4_remember_23 ?_
    refine x_put (K := 5) (k := 1) C (isK_lit hdm rfl rfl) (by decide) cl_X4 (by decide) ⟨rfl, rfl, rfl, rfl⟩ fl_X4_17 ⟨rfl, rfl⟩ dX4_remember_24 ?_
    exact L_X4_remember_27 C hdm hA hR0 hce hT hR hag h1 _ hq
set_option maxRecDepth 100000 in
set_option maxHeartbeats 4000000 in
theorem c_X4_remember (l : Launch) (G : Gd) (hfl : l.stackTraces = false) {dm na : Nat} {ad : Nat → Nat} (hdm : dm = 0) {o1 : Nat} {w : Wd} {res : Rz} (h1 : isK na dm 7 o1) (hq : p_X4_remember o1 na w = some res) : mGV l yX4_remember cX4_remember 3 none (rmv 3 65 12 834) G dm na ad [.ref (ad (31)), .ref (ad (o1))] w res 12 834 := by
  refine met_GV hfl [(0, .ref (ad (31))), (1, .ref (ad (o1)))] (by decide) (Nat.le_of_ble_eq_true rfl) rfl rfl (fun g d C S hT hR => ?_)
  obtain ⟨rfl, hR0, rfl, rfl, rfl, hA⟩ := S
  exact L_X4_remember (d := (na, ad, 0, 0)) C hdm hA hR0 ⟨Nat.le_of_ble_eq_true rfl, Nat.le_of_ble_eq_true rfl⟩ hT hR (AG.rf (na, ad, 0, 0)) h1  w hq
set_option maxRecDepth 100000 in
set_option maxHeartbeats 4000000 in
theorem L_X2_cells {g : Cx} {d : Dl} (C : CX g cX2_cells 2 (some .int) RX2) (hdm : g.dm = 0) (hA : ∀ q : Nat, g.s.heap.size ≤ q → g.A q) (hR0 : g.R = rmv 0 0 0 0) (hce : d.ce ≤ g.R.cells ∧ d.so ≤ g.R.slots) {res : Int × Wd} (hR : rtI g d cX2_cells .int res) (x0 : Int) (x1 : Int) (w : Wd) (hq : p_X2_cells x0 x1 w = some res) : XG g d (hP g d w) [(0, iV (x0)), (1, iV (x1))] [] 0 := by
  refine x_iconst C dX2_cells_0 ?_
  refine x_iload_n C 1 dX2_cells_1 rfl ?_
  refine x_ishl C dX2_cells_2 ?_
  refine x_iconst C dX2_cells_3 ?_
  refine x_isub C dX2_cells_4 ?_
  refine x_iload_n C 0 dX2_cells_5 rfl ?_
  refine x_ishl C dX2_cells_6 ?_
  exact hR _ _ _ _ hq rfl dX2_cells_7
set_option maxRecDepth 100000 in
set_option maxHeartbeats 4000000 in
theorem c_X2_cells (l : Launch) (G : Gd) {dm na : Nat} {ad : Nat → Nat} (hdm : dm = 0) {x0 : Int} {x1 : Int} {w w' : Wd} {r : Int}  (hq : p_X2_cells x0 x1 w = some (r, w')) : mI l yX2_cells cX2_cells 2 (some .int) (rmv 0 0 0 0) G dm na ad [iV (x0), iV (x1)] w r w' := by
  refine met_I [(0, iV (x0)), (1, iV (x1))] (by decide) (Nat.le_of_ble_eq_true rfl) rfl .int rfl (fun g d C S hR => ?_)
  obtain ⟨rfl, hR0, rfl, rfl, rfl, hA⟩ := S
  exact L_X2_cells (d := (na, ad, 0, 0)) C hdm hA hR0 ⟨Nat.zero_le _, Nat.zero_le _⟩ hR  _ _ w hq
set_option maxRecDepth 100000 in
set_option maxHeartbeats 4000000 in
theorem L_X2_layWord_64 {g : Cx} {d : Dl} (C : CX g cX2_layWord 7 (some .boolean) RX2) (hdm : g.dm = 0) (hA : ∀ q : Nat, g.s.heap.size ≤ q → g.A q) (hR0 : g.R = rmv 1 22 0 0) (hce : d.ce ≤ g.R.cells ∧ d.so ≤ g.R.slots) {res : Int × Wd} (hR : rtI g d cX2_layWord .boolean res) {o0 : Nat} {o1 : Nat} (h0 : isK d.na g.dm 3 o0) (h1 : isK d.na g.dm 7 o1) (x2 : Int) (x3 : Int) (x5 : Int) (x6 : Int) (w : Wd) (hq : p_X2_layWord_64 o0 o1 x2 x3 x5 x6 w = some res) : XG g d (hP g d w) [(0, .ref (d.ad (o0))), (2, iV (x2)), (3, iV (x3)), (5, iV (x5)), (6, iV (x6))] [] 64 := by
  refine x_aload_n C 0 dX2_layWord_64 rfl ?_
  refine x_getr (K := 3) (k := 0) (o2 := o0 + 1) C h0 (by decide) cl_X2 (by decide) ⟨rfl, rfl, rfl⟩ fl_X2_14 rfl dX2_layWord_65 ?_
  refine x_iload_n C 1 dX2_layWord_68 rfl ?_
  refine x_iload C 3 dX2_layWord_69 rfl ?_
  refine x_callVv (K := 6) (rm := rmv 0 0 0 0) (As := [iV (x2), iV (x5)]) (rest := []) C hA hR0 mf_X5_put lk_X2_71 rfl (ik3 h0).1 (by decide) ⟨rfl, rfl⟩ ⟨Nat.le_of_ble_eq_true rfl, Nat.le_of_ble_eq_true rfl⟩ rfl rfl (Nat.le_of_ble_eq_true rfl) hce dX2_layWord_71 hq (fun _ h => c_X5_put g.l g.G hdm (ik3 h0).1 h) (fun w1 _ hq => ?_)
  refine x_aload_n C 0 dX2_layWord_74 rfl ?_
  refine x_getr (K := 3) (k := 1) (o2 := o0 + 3) C h0 (by decide) cl_X2 (by decide) ⟨rfl, rfl, rfl⟩ fl_X2_20 rfl dX2_layWord_75 ?_
  refine x_iload_n C 1 dX2_layWord_78 rfl ?_
  refine x_iload C 4 dX2_layWord_79 rfl ?_
  refine x_callVv (K := 6) (rm := rmv 0 0 0 0) (As := [iV (x2), iV (x6)]) (rest := []) C hA hR0 mf_X5_put lk_X2_71 rfl (ik3 h0).2.1 (by decide) ⟨rfl, rfl⟩ ⟨Nat.le_of_ble_eq_true rfl, Nat.le_of_ble_eq_true rfl⟩ rfl rfl (Nat.le_of_ble_eq_true rfl) hce dX2_layWord_81 hq (fun _ h => c_X5_put g.l g.G hdm (ik3 h0).2.1 h) (fun w2 _ hq => ?_)
  refine x_aload_n C 0 dX2_layWord_84 rfl ?_
  refine x_iload_n C 1 dX2_layWord_85 rfl ?_
  refine x_iconst C dX2_layWord_86 ?_
  refine x_iadd C dX2_layWord_87 ?_
  refine x_put (K := 3) (k := 4) C h0 (by decide) cl_X2 (by decide) ⟨rfl, rfl, rfl, rfl⟩ fl_X2_29 ⟨rfl, rfl⟩ dX2_layWord_88 ?_
  refine x_aload_n C 0 dX2_layWord_91 rfl ?_
  refine x_iload C 3 dX2_layWord_92 rfl ?_
  refine x_put (K := 3) (k := 6) C h0 (by decide) cl_X2 (by decide) ⟨rfl, rfl, rfl, rfl⟩ fl_X2_36 ⟨rfl, rfl⟩ dX2_layWord_94 ?_
  refine nmW hq (fun w3 ew3 hq => ?_)
  rw [← ew3]
  refine x_aload_n C 0 dX2_layWord_97 rfl ?_
  refine x_iload C 4 dX2_layWord_98 rfl ?_
  refine x_iload_n C 2 dX2_layWord_100 rfl ?_
  refine x_iadd C dX2_layWord_101 ?_
  refine x_iconst C dX2_layWord_102 ?_
  refine x_iadd C dX2_layWord_103 ?_
  refine x_put (K := 3) (k := 7) C h0 (by decide) cl_X2 (by decide) ⟨rfl, rfl, rfl, rfl⟩ fl_X2_39 ⟨rfl, rfl⟩ dX2_layWord_104 ?_
  refine x_iconst C dX2_layWord_107 ?_
  exact hR _ _ _ _ hq (by decide +kernel) dX2_layWord_108
set_option maxRecDepth 100000 in
set_option maxHeartbeats 4000000 in
theorem L_X2_layWord_115 {g : Cx} {d : Dl} (C : CX g cX2_layWord 7 (some .boolean) RX2) (hdm : g.dm = 0) (hA : ∀ q : Nat, g.s.heap.size ≤ q → g.A q) (hR0 : g.R = rmv 1 22 0 0) (hce : d.ce ≤ g.R.cells ∧ d.so ≤ g.R.slots) {res : Int × Wd} (hR : rtI g d cX2_layWord .boolean res) {o0 : Nat} {o1 : Nat} (h0 : isK d.na g.dm 3 o0) (h1 : isK d.na g.dm 7 o1) {k21 : Int → Int → Int → Int → Wd → Option (Int × Wd)} (hk21 : ∀ (x2 : Int) (x3 : Int) (x4 : Int) (x5 : Int) (w : Wd), k21 x2 x3 x4 x5 w = some res → XG g d (hP g d w) [(0, .ref (d.ad (o0))), (1, .ref (d.ad (o1))), (2, iV (x2)), (3, iV (x3)), (4, iV (x4)), (5, iV (x5))] [] 21) (x2 : Int) (x3 : Int) (x5 : Int) (w : Wd) (hq : p_X2_layWord_115 o0 o1 k21 x2 x3 x5 w = some res) : XG g d (hP g d w) [(0, .ref (d.ad (o0))), (1, .ref (d.ad (o1))), (2, iV (x2)), (3, iV (x3)), (5, iV (x5))] [] 115 := by
  refine x_iconst C dX2_layWord_115 ?_
  refine x_istore (lv' := [(4, iV (0)), (0, .ref (d.ad (o0))), (1, .ref (d.ad (o1))), (2, iV (x2)), (3, iV (x3)), (5, iV (x5))]) C dX2_layWord_116 (by decide) rfl ?_
  refine x_iinc (lv' := [(5, iV (x5 + 1)), (4, iV (0)), (0, .ref (d.ad (o0))), (1, .ref (d.ad (o1))), (2, iV (x2)), (3, iV (x3))]) C 5 dX2_layWord_118 rfl (by decide) rfl ?_
  refine x_goto (tgt := 21) C dX2_layWord_121 (by decide) ?_
  refine XG.sub [2, 3, 4, 5, 1, 0] rfl ?_
  exact hk21 _ _ _ _ _ hq
set_option maxRecDepth 100000 in
set_option maxHeartbeats 4000000 in
theorem L_X2_layWord_34 {g : Cx} {d : Dl} (C : CX g cX2_layWord 7 (some .boolean) RX2) (hdm : g.dm = 0) (hA : ∀ q : Nat, g.s.heap.size ≤ q → g.A q) (hR0 : g.R = rmv 1 22 0 0) (hce : d.ce ≤ g.R.cells ∧ d.so ≤ g.R.slots) {res : Int × Wd} (hR : rtI g d cX2_layWord .boolean res) {o0 : Nat} {o1 : Nat} (h0 : isK d.na g.dm 3 o0) (h1 : isK d.na g.dm 7 o1) {k21 : Int → Int → Int → Int → Wd → Option (Int × Wd)} (hk21 : ∀ (x2 : Int) (x3 : Int) (x4 : Int) (x5 : Int) (w : Wd), k21 x2 x3 x4 x5 w = some res → XG g d (hP g d w) [(0, .ref (d.ad (o0))), (1, .ref (d.ad (o1))), (2, iV (x2)), (3, iV (x3)), (4, iV (x4)), (5, iV (x5))] [] 21) : ∀ (n : Nat) (x2 : Int) (x3 : Int) (x5 : Int) (x6 : Int) (w : Wd), p_X2_layWord_34 o0 o1 k21 n x2 x3 x5 x6 w = some res → XG g d (hP g d w) [(0, .ref (d.ad (o0))), (1, .ref (d.ad (o1))), (2, iV (x2)), (3, iV (x3)), (5, iV (x5)), (6, iV (x6))] [] 34 := by
  intro n
  induction n with
  | zero => intro x2 x3 x5 x6 w  hq; exact nomatch (show none = some _ from hq)
  | succ n ih =>
    intro x2 x3 x5 x6 w  hq
    refine x_iload C 5 dX2_layWord_34 rfl ?_
    refine x_iload_n C 3 dX2_layWord_36 rfl ?_
    refine x_iadd C dX2_layWord_37 ?_
    refine x_aload_n C 1 dX2_layWord_38 rfl ?_
    refine x_get (K := 7) (k := 0) C h1 (by decide) cl_X6 (by decide) ⟨rfl, rfl, rfl⟩ fl_X2_85 dX2_layWord_39 ?_
    refine x_icmp_gt (tgt := 115) C dX2_layWord_42 (by decide) hq (fun hq => ?_) (fun hq => ?_)
    · refine XG.sub [0, 1, 2, 3, 4] rfl ?_
      exact L_X2_layWord_115 C hdm hA hR0 hce hR h0 h1 hk21 _ _ _ _ hq
    · refine x_aload_n C 1 dX2_layWord_45 rfl ?_
      refine x_getr (K := 7) (k := 3) (o2 := o1 + 1) C h1 (by decide) cl_X6 (by decide) ⟨rfl, rfl, rfl⟩ fl_X2_88 rfl dX2_layWord_46 ?_
      refine x_iload C 4 dX2_layWord_49 rfl ?_
      refine x_callVi (K := 6) (rm := rmv 0 0 0 0) (As := [iV (x5)]) (rest := []) C hA hR0 mf_X5_at lk_X2_50 rfl (ik7 h1).1 (by decide) ⟨rfl, rfl⟩ ⟨Nat.le_of_ble_eq_true rfl, Nat.le_of_ble_eq_true rfl⟩ rfl rfl (Nat.le_of_ble_eq_true rfl) hce dX2_layWord_51 hq (fun _ _ h => c_X5_at g.l g.G hdm (ik7 h1).1 h) (fun r2 w1 _ hq => ?_)
      refine x_iload C 5 dX2_layWord_54 rfl ?_
      refine x_iload_n C 3 dX2_layWord_56 rfl ?_
      refine x_callSi (rm := rmv 0 0 0 0) (As := [iV (x6), iV (x3)]) (rest := [iV (r2)]) C hA hR0 mf_X2_cells lk_X2_91 ⟨rfl, rfl⟩ ⟨Nat.le_of_ble_eq_true rfl, Nat.le_of_ble_eq_true rfl⟩ rfl rfl (Nat.le_of_ble_eq_true rfl) hce dX2_layWord_57 hq (fun _ _ h => c_X2_cells g.l g.G hdm  h) (fun r4 w3 _ hq => ?_)
      refine x_iand C dX2_layWord_60 ?_
      refine x_if_ne (tgt := 109) C dX2_layWord_61 (by decide) hq (fun hq => ?_) (fun hq => ?_)
      · refine x_iinc (lv' := [(6, iV (x6 + 1)), (0, .ref (d.ad (o0))), (1, .ref (d.ad (o1))), (2, iV (x2)), (3, iV (x3)), (5, iV (x5))]) C 5 dX2_layWord_109 rfl (by decide) rfl ?_
        refine x_goto (tgt := 34) C dX2_layWord_112 (by decide) ?_
        refine XG.sub [1, 2, 3, 4, 5, 0] rfl ?_
        exact ih _ _ _ _ _ hq
      · refine XG.sub [0, 2, 3, 4, 5] rfl ?_
        exact L_X2_layWord_64 C hdm hA hR0 hce hR h0 h1 _ _ _ _ _ hq
set_option maxRecDepth 100000 in
set_option maxHeartbeats 4000000 in
theorem L_X2_layWord_21 {g : Cx} {d : Dl} (C : CX g cX2_layWord 7 (some .boolean) RX2) (hdm : g.dm = 0) (hA : ∀ q : Nat, g.s.heap.size ≤ q → g.A q) (hR0 : g.R = rmv 1 22 0 0) (hce : d.ce ≤ g.R.cells ∧ d.so ≤ g.R.slots) {res : Int × Wd} (hR : rtI g d cX2_layWord .boolean res) {o0 : Nat} {o1 : Nat} (h0 : isK d.na g.dm 3 o0) (h1 : isK d.na g.dm 7 o1) : ∀ (n : Nat) (x2 : Int) (x3 : Int) (x4 : Int) (x5 : Int) (w : Wd), p_X2_layWord_21 o0 o1 n x2 x3 x4 x5 w = some res → XG g d (hP g d w) [(0, .ref (d.ad (o0))), (1, .ref (d.ad (o1))), (2, iV (x2)), (3, iV (x3)), (4, iV (x4)), (5, iV (x5))] [] 21 := by
  intro n
  induction n with
  | zero => intro x2 x3 x4 x5 w  hq; exact nomatch (show none = some _ from hq)
  | succ n ih =>
    intro x2 x3 x4 x5 w  hq
    refine x_iload C 5 dX2_layWord_21 rfl ?_
    refine x_aload_n C 1 dX2_layWord_23 rfl ?_
    refine x_get (K := 7) (k := 1) C h1 (by decide) cl_X6 (by decide) ⟨rfl, rfl, rfl⟩ fl_X2_82 dX2_layWord_24 ?_
    refine x_icmp_ge (tgt := 124) C dX2_layWord_27 (by decide) hq (fun hq => ?_) (fun hq => ?_)
    · refine x_iconst C dX2_layWord_124 ?_
      exact hR _ _ _ _ hq (by decide +kernel) dX2_layWord_125
    · refine x_iload C 4 dX2_layWord_30 rfl ?_
      refine x_istore (lv' := [(6, iV (x4)), (0, .ref (d.ad (o0))), (1, .ref (d.ad (o1))), (2, iV (x2)), (3, iV (x3)), (4, iV (x4)), (5, iV (x5))]) C dX2_layWord_32 (by decide) rfl ?_
      refine XG.sub [1, 2, 3, 4, 6, 0] rfl ?_
      exact L_X2_layWord_34 C hdm hA hR0 hce hR h0 h1 ih _ _ _ _ _ _ hq
set_option maxRecDepth 100000 in
set_option maxHeartbeats 4000000 in
theorem L_X2_layWord {g : Cx} {d : Dl} (C : CX g cX2_layWord 7 (some .boolean) RX2) (hdm : g.dm = 0) (hA : ∀ q : Nat, g.s.heap.size ≤ q → g.A q) (hR0 : g.R = rmv 1 22 0 0) (hce : d.ce ≤ g.R.cells ∧ d.so ≤ g.R.slots) {res : Int × Wd} (hR : rtI g d cX2_layWord .boolean res) {o0 : Nat} {o1 : Nat} (h0 : isK d.na g.dm 3 o0) (h1 : isK d.na g.dm 7 o1) (x2 : Int) (w : Wd) (hq : p_X2_layWord o0 o1 x2 w = some res) : XG g d (hP g d w) [(0, .ref (d.ad (o0))), (1, .ref (d.ad (o1))), (2, iV (x2))] [] 0 := by
  refine x_aload_n C 1 dX2_layWord_0 rfl ?_
  refine x_getr (K := 7) (k := 8) (o2 := o1 + 7) C h1 (by decide) cl_X6 (by decide) ⟨rfl, rfl, rfl⟩ fl_X2_79 rfl dX2_layWord_1 ?_
  refine x_iload_n C 2 dX2_layWord_4 rfl ?_
  refine x_callVi (K := 6) (rm := rmv 0 0 0 0) (As := [iV (x2)]) (rest := []) C hA hR0 mf_X5_at lk_X2_50 rfl (ik7 h1).2.2.2.1 (by decide) ⟨rfl, rfl⟩ ⟨Nat.le_of_ble_eq_true rfl, Nat.le_of_ble_eq_true rfl⟩ rfl rfl (Nat.le_of_ble_eq_true rfl) hce dX2_layWord_5 hq (fun _ _ h => c_X5_at g.l g.G hdm (ik7 h1).2.2.2.1 h) (fun r2 w1 _ hq => ?_)
  refine x_istore_n (lv' := [(3, iV (r2)), (0, .ref (d.ad (o0))), (1, .ref (d.ad (o1))), (2, iV (x2))]) C dX2_layWord_8 (by decide) rfl ?_
  refine x_aload_n C 1 dX2_layWord_9 rfl ?_
  refine x_get (K := 3) (k := 7) C h0 (by decide) cl_X2 (by decide) ⟨rfl, rfl, rfl⟩ fl_X2_39 dX2_layWord_10 ?_
  refine x_istore (lv' := [(4, iV (gF w1 o0 7)), (3, iV (r2)), (0, .ref (d.ad (o0))), (1, .ref (d.ad (o1))), (2, iV (x2))]) C dX2_layWord_13 (by decide) rfl ?_
  refine x_aload_n C 2 dX2_layWord_15 rfl ?_
  refine x_get (K := 3) (k := 6) C h0 (by decide) cl_X2 (by decide) ⟨rfl, rfl, rfl⟩ fl_X2_36 dX2_layWord_16 ?_
  refine x_istore (lv' := [(5, iV (gF w1 o0 6)), (4, iV (gF w1 o0 7)), (3, iV (r2)), (0, .ref (d.ad (o0))), (1, .ref (d.ad (o1))), (2, iV (x2))]) C dX2_layWord_19 (by decide) rfl ?_
  refine XG.sub [3, 4, 5, 2, 1, 0] rfl ?_
  exact L_X2_layWord_21 C hdm hA hR0 hce hR h0 h1 _ _ _ _ _ _ hq
set_option maxRecDepth 100000 in
set_option maxHeartbeats 4000000 in
theorem c_X2_layWord (l : Launch) (G : Gd) {dm na : Nat} {ad : Nat → Nat} (hdm : dm = 0) {o0 : Nat} {o1 : Nat} {x2 : Int} {w w' : Wd} {r : Int} (h0 : isK na dm 3 o0) (h1 : isK na dm 7 o1) (hq : p_X2_layWord o0 o1 x2 w = some (r, w')) : mI l yX2_layWord cX2_layWord 7 (some .boolean) (rmv 1 22 0 0) G dm na ad [.ref (ad (o0)), .ref (ad (o1)), iV (x2)] w r w' := by
  refine met_I [(0, .ref (ad (o0))), (1, .ref (ad (o1))), (2, iV (x2))] (by decide) (Nat.le_of_ble_eq_true rfl) rfl .boolean rfl (fun g d C S hR => ?_)
  obtain ⟨rfl, hR0, rfl, rfl, rfl, hA⟩ := S
  exact L_X2_layWord (d := (na, ad, 0, 0)) C hdm hA hR0 ⟨Nat.zero_le _, Nat.zero_le _⟩ hR h0 h1 _ w hq
set_option maxRecDepth 100000 in
set_option maxHeartbeats 4000000 in
theorem L_X2_layWords_8 {g : Cx} {d : Dl} (C : CX g cX2_layWords 5 none RX2) (hdm : g.dm = 0) (hA : ∀ q : Nat, g.s.heap.size ≤ q → g.A q) (hR0 : g.R = rmv 2 48 0 0) (hce : d.ce ≤ g.R.cells ∧ d.so ≤ g.R.slots) {res : Wd} (hR : rtV g d cX2_layWords res) {o0 : Nat} {o1 : Nat} (h0 : isK d.na g.dm 3 o0) (h1 : isK d.na g.dm 7 o1) : ∀ (n : Nat) (x2 : Int) (x3 : Int) (x4 : Int) (w : Wd), p_X2_layWords_8 o0 o1 n x2 x3 x4 w = some res → XG g d (hP g d w) [(0, .ref (d.ad (o0))), (1, .ref (d.ad (o1))), (2, iV (x2)), (3, iV (x3)), (4, iV (x4))] [] 8 := by
  intro n
  induction n with
  | zero => intro x2 x3 x4 w  hq; exact nomatch (show none = some _ from hq)
  | succ n ih =>
    intro x2 x3 x4 w  hq
    refine x_iload C 4 dX2_layWords_8 rfl ?_
    refine x_iload_n C 2 dX2_layWords_10 rfl ?_
    refine x_icmp_ge (tgt := 32) C dX2_layWords_11 (by decide) hq (fun hq => ?_) (fun hq => ?_)
    · exact hR _ _ _ hq dX2_layWords_32
    · refine x_iload_n C 3 dX2_layWords_14 rfl ?_
      refine x_if_eq (tgt := 32) C dX2_layWords_15 (by decide) hq (fun hq => ?_) (fun hq => ?_)
      · exact hR _ _ _ hq dX2_layWords_32
      · refine x_aload_n C 0 dX2_layWords_18 rfl ?_
        refine x_aload_n C 1 dX2_layWords_19 rfl ?_
        refine x_iload C 4 dX2_layWords_20 rfl ?_
        refine x_callVi (K := 3) (rm := rmv 1 22 0 0) (As := [.ref (d.ad (o1)), iV (x4)]) (rest := []) C hA hR0 mf_X2_layWord lk_X2_75 rfl h0 (by decide) ⟨rfl, rfl⟩ ⟨Nat.le_of_ble_eq_true rfl, Nat.le_of_ble_eq_true rfl⟩ rfl rfl (Nat.le_of_ble_eq_true rfl) hce dX2_layWords_22 hq (fun _ _ h => c_X2_layWord g.l g.G hdm h0 h1 h) (fun r2 w1 _ hq => ?_)
        refine x_istore_n (lv' := [(3, iV (r2)), (0, .ref (d.ad (o0))), (1, .ref (d.ad (o1))), (2, iV (x2)), (4, iV (x4))]) C dX2_layWords_25 (by decide) rfl ?_
        refine x_iinc (lv' := [(4, iV (x4 + 1)), (3, iV (r2)), (0, .ref (d.ad (o0))), (1, .ref (d.ad (o1))), (2, iV (x2))]) C 4 dX2_layWords_26 rfl (by decide) rfl ?_
        refine x_goto (tgt := 8) C dX2_layWords_29 (by decide) ?_
        refine XG.sub [2, 3, 4, 1, 0] rfl ?_
        exact ih _ _ _ _ hq
set_option maxRecDepth 100000 in
set_option maxHeartbeats 4000000 in
theorem L_X2_layWords {g : Cx} {d : Dl} (C : CX g cX2_layWords 5 none RX2) (hdm : g.dm = 0) (hA : ∀ q : Nat, g.s.heap.size ≤ q → g.A q) (hR0 : g.R = rmv 2 48 0 0) (hce : d.ce ≤ g.R.cells ∧ d.so ≤ g.R.slots) {res : Wd} (hR : rtV g d cX2_layWords res) {o0 : Nat} {o1 : Nat} (h0 : isK d.na g.dm 3 o0) (h1 : isK d.na g.dm 7 o1) (x2 : Int) (w : Wd) (hq : p_X2_layWords o0 o1 x2 w = some res) : XG g d (hP g d w) [(0, .ref (d.ad (o0))), (1, .ref (d.ad (o1))), (2, iV (x2))] [] 0 := by
  refine x_iconst C dX2_layWords_0 ?_
  refine x_istore_n (lv' := [(3, iV (1)), (0, .ref (d.ad (o0))), (1, .ref (d.ad (o1))), (2, iV (x2))]) C dX2_layWords_1 (by decide) rfl ?_
  refine x_aload_n C 1 dX2_layWords_2 rfl ?_
  refine x_get (K := 3) (k := 4) C h0 (by decide) cl_X2 (by decide) ⟨rfl, rfl, rfl⟩ fl_X2_29 dX2_layWords_3 ?_
  refine x_istore (lv' := [(4, iV (gF w o0 4)), (3, iV (1)), (0, .ref (d.ad (o0))), (1, .ref (d.ad (o1))), (2, iV (x2))]) C dX2_layWords_6 (by decide) rfl ?_
  refine XG.sub [2, 3, 4, 1, 0] rfl ?_
  exact L_X2_layWords_8 C hdm hA hR0 hce hR h0 h1 _ _ _ _ _ hq
set_option maxRecDepth 100000 in
set_option maxHeartbeats 4000000 in
theorem c_X2_layWords (l : Launch) (G : Gd) {dm na : Nat} {ad : Nat → Nat} (hdm : dm = 0) {o0 : Nat} {o1 : Nat} {x2 : Int} {w w' : Wd}  (h0 : isK na dm 3 o0) (h1 : isK na dm 7 o1) (hq : p_X2_layWords o0 o1 x2 w = some w') : mV l yX2_layWords cX2_layWords 5 none (rmv 2 48 0 0) G dm na ad [.ref (ad (o0)), .ref (ad (o1)), iV (x2)] w w' := by
  refine met_V [(0, .ref (ad (o0))), (1, .ref (ad (o1))), (2, iV (x2))] (by decide) (Nat.le_of_ble_eq_true rfl) rfl rfl (fun g d C S hR => ?_)
  obtain ⟨rfl, hR0, rfl, rfl, rfl, hA⟩ := S
  exact L_X2_layWords (d := (na, ad, 0, 0)) C hdm hA hR0 ⟨Nat.zero_le _, Nat.zero_le _⟩ hR h0 h1 _ w hq
set_option maxRecDepth 100000 in
set_option maxHeartbeats 4000000 in
theorem L_X2_centreRow_121 {g : Cx} {d : Dl} (C : CX g cX2_centreRow 9 none RX2) (hdm : g.dm = 0) (hA : ∀ q : Nat, g.s.heap.size ≤ q → g.A q) (hR0 : g.R = rmv 1 22 0 0) (hce : d.ce ≤ g.R.cells ∧ d.so ≤ g.R.slots) {res : Wd} (hR : rtV g d cX2_centreRow res) {o0 : Nat} {o1 : Nat} (h0 : isK d.na g.dm 3 o0) (h1 : isK d.na g.dm 7 o1) : ∀ (n : Nat) (x3 : Int) (x7 : Int) (x8 : Int) (w : Wd), p_X2_centreRow_121 o0 o1 n x3 x7 x8 w = some res → XG g d (hP g d w) [(0, .ref (d.ad (o0))), (3, iV (x3)), (7, iV (x7)), (8, iV (x8))] [] 121 := by
  intro n
  induction n with
  | zero => intro x3 x7 x8 w  hq; exact nomatch (show none = some _ from hq)
  | succ n ih =>
    intro x3 x7 x8 w  hq
    refine x_iload C 3 dX2_centreRow_121 rfl ?_
    refine x_iload_n C 1 dX2_centreRow_123 rfl ?_
    refine x_icmp_ge (tgt := 154) C dX2_centreRow_124 (by decide) hq (fun hq => ?_) (fun hq => ?_)
    · exact hR _ _ _ hq dX2_centreRow_154
    · refine x_aload_n C 0 dX2_centreRow_127 rfl ?_
      refine x_getr (K := 3) (k := 1) (o2 := o0 + 3) C h0 (by decide) cl_X2 (by decide) ⟨rfl, rfl, rfl⟩ fl_X2_20 rfl dX2_centreRow_128 ?_
      refine x_iload C 3 dX2_centreRow_131 rfl ?_
      refine x_aload_n C 0 dX2_centreRow_133 rfl ?_
      refine x_getr (K := 3) (k := 1) (o2 := o0 + 3) C h0 (by decide) cl_X2 (by decide) ⟨rfl, rfl, rfl⟩ fl_X2_20 rfl dX2_centreRow_134 ?_
      refine x_iload C 3 dX2_centreRow_137 rfl ?_
      refine x_callVi (K := 6) (rm := rmv 0 0 0 0) (As := [iV (x8)]) (rest := [iV (x8), .ref (d.ad (o0 + 3))]) C hA hR0 mf_X5_at lk_X2_50 rfl (ik3 h0).2.1 (by decide) ⟨rfl, rfl⟩ ⟨Nat.le_of_ble_eq_true rfl, Nat.le_of_ble_eq_true rfl⟩ rfl rfl (Nat.le_of_ble_eq_true rfl) hce dX2_centreRow_139 hq (fun _ _ h => c_X5_at g.l g.G hdm (ik3 h0).2.1 h) (fun r2 w1 _ hq => ?_)
      refine x_iload C 2 dX2_centreRow_142 rfl ?_
      refine x_iadd C dX2_centreRow_144 ?_
      refine x_callVv (K := 6) (rm := rmv 0 0 0 0) (As := [iV (x8), iV (r2 + x7)]) (rest := []) C hA hR0 mf_X5_put lk_X2_71 rfl (ik3 h0).2.1 (by decide) ⟨rfl, rfl⟩ ⟨Nat.le_of_ble_eq_true rfl, Nat.le_of_ble_eq_true rfl⟩ rfl rfl (Nat.le_of_ble_eq_true rfl) hce dX2_centreRow_145 hq (fun _ h => c_X5_put g.l g.G hdm (ik3 h0).2.1 h) (fun w3 _ hq => ?_)
      refine x_iinc (lv' := [(8, iV (x8 + 1)), (0, .ref (d.ad (o0))), (3, iV (x3)), (7, iV (x7))]) C 3 dX2_centreRow_148 rfl (by decide) rfl ?_
      refine x_goto (tgt := 121) C dX2_centreRow_151 (by decide) ?_
      refine XG.sub [1, 2, 3, 0] rfl ?_
      exact ih _ _ _ _ hq
set_option maxRecDepth 100000 in
set_option maxHeartbeats 4000000 in
theorem L_X2_centreRow_118 {g : Cx} {d : Dl} (C : CX g cX2_centreRow 9 none RX2) (hdm : g.dm = 0) (hA : ∀ q : Nat, g.s.heap.size ≤ q → g.A q) (hR0 : g.R = rmv 1 22 0 0) (hce : d.ce ≤ g.R.cells ∧ d.so ≤ g.R.slots) {res : Wd} (hR : rtV g d cX2_centreRow res) {o0 : Nat} {o1 : Nat} (h0 : isK d.na g.dm 3 o0) (h1 : isK d.na g.dm 7 o1) (x2 : Int) (x3 : Int) (x7 : Int) (w : Wd) (hq : p_X2_centreRow_118 o0 o1 x2 x3 x7 w = some res) : XG g d (hP g d w) [(0, .ref (d.ad (o0))), (2, iV (x2)), (3, iV (x3)), (7, iV (x7))] [] 118 := by
  refine x_iload_n C 1 dX2_centreRow_118 rfl ?_
  refine x_istore (lv' := [(8, iV (x2)), (0, .ref (d.ad (o0))), (2, iV (x2)), (3, iV (x3)), (7, iV (x7))]) C dX2_centreRow_119 (by decide) rfl ?_
  refine XG.sub [1, 3, 4, 0] rfl ?_
  exact L_X2_centreRow_121 C hdm hA hR0 hce hR h0 h1 _ _ _ _ _ hq
set_option maxRecDepth 100000 in
set_option maxHeartbeats 4000000 in
theorem L_X2_centreRow_96 {g : Cx} {d : Dl} (C : CX g cX2_centreRow 9 none RX2) (hdm : g.dm = 0) (hA : ∀ q : Nat, g.s.heap.size ≤ q → g.A q) (hR0 : g.R = rmv 1 22 0 0) (hce : d.ce ≤ g.R.cells ∧ d.so ≤ g.R.slots) {res : Wd} (hR : rtV g d cX2_centreRow res) {o0 : Nat} {o1 : Nat} (h0 : isK d.na g.dm 3 o0) (h1 : isK d.na g.dm 7 o1) : ∀ (n : Nat) (x2 : Int) (x3 : Int) (x4 : Int) (x6 : Int) (x7 : Int) (w : Wd), p_X2_centreRow_96 o0 o1 n x2 x3 x4 x6 x7 w = some res → XG g d (hP g d w) [(0, .ref (d.ad (o0))), (2, iV (x2)), (3, iV (x3)), (4, iV (x4)), (6, iV (x6)), (7, iV (x7))] [] 96 := by
  intro n
  induction n with
  | zero => intro x2 x3 x4 x6 x7 w  hq; exact nomatch (show none = some _ from hq)
  | succ n ih =>
    intro x2 x3 x4 x6 x7 w  hq
    refine x_iload C 5 dX2_centreRow_96 rfl ?_
    refine x_if_le (tgt := 118) C dX2_centreRow_98 (by decide) hq (fun hq => ?_) (fun hq => ?_)
    · refine XG.sub [0, 1, 2, 5] rfl ?_
      exact L_X2_centreRow_118 C hdm hA hR0 hce hR h0 h1 _ _ _ _ hq
    · refine x_iload C 4 dX2_centreRow_101 rfl ?_
      refine x_iload C 3 dX2_centreRow_103 rfl ?_
      refine x_iload C 5 dX2_centreRow_105 rfl ?_
      refine x_ishl C dX2_centreRow_107 ?_
      refine x_iand C dX2_centreRow_108 ?_
      refine x_if_eq (tgt := 118) C dX2_centreRow_109 (by decide) hq (fun hq => ?_) (fun hq => ?_)
      · refine XG.sub [0, 1, 2, 5] rfl ?_
        exact L_X2_centreRow_118 C hdm hA hR0 hce hR h0 h1 _ _ _ _ hq
      · refine x_iinc (lv' := [(7, iV (x7 + (-1))), (0, .ref (d.ad (o0))), (2, iV (x2)), (3, iV (x3)), (4, iV (x4)), (6, iV (x6))]) C 5 dX2_centreRow_112 rfl (by decide) rfl ?_
        refine x_goto (tgt := 96) C dX2_centreRow_115 (by decide) ?_
        refine XG.sub [1, 2, 3, 4, 5, 0] rfl ?_
        exact ih _ _ _ _ _ _ hq
set_option maxRecDepth 100000 in
set_option maxHeartbeats 4000000 in
theorem L_X2_centreRow_68 {g : Cx} {d : Dl} (C : CX g cX2_centreRow 9 none RX2) (hdm : g.dm = 0) (hA : ∀ q : Nat, g.s.heap.size ≤ q → g.A q) (hR0 : g.R = rmv 1 22 0 0) (hce : d.ce ≤ g.R.cells ∧ d.so ≤ g.R.slots) {res : Wd} (hR : rtV g d cX2_centreRow res) {o0 : Nat} {o1 : Nat} (h0 : isK d.na g.dm 3 o0) (h1 : isK d.na g.dm 7 o1) (x2 : Int) (x3 : Int) (x4 : Int) (x5 : Int) (w : Wd) (hq : p_X2_centreRow_68 o0 o1 x2 x3 x4 x5 w = some res) : XG g d (hP g d w) [(0, .ref (d.ad (o0))), (1, .ref (d.ad (o1))), (2, iV (x2)), (3, iV (x3)), (4, iV (x4)), (5, iV (x5))] [] 68 := by
  refine x_aload_n C 1 dX2_centreRow_68 rfl ?_
  refine x_getr (K := 7) (k := 3) (o2 := o1 + 1) C h1 (by decide) cl_X6 (by decide) ⟨rfl, rfl, rfl⟩ fl_X2_88 rfl dX2_centreRow_69 ?_
  refine x_aload_n C 0 dX2_centreRow_72 rfl ?_
  refine x_getr (K := 3) (k := 0) (o2 := o0 + 1) C h0 (by decide) cl_X2 (by decide) ⟨rfl, rfl, rfl⟩ fl_X2_14 rfl dX2_centreRow_73 ?_
  refine x_iload_n C 2 dX2_centreRow_76 rfl ?_
  refine x_callVi (K := 6) (rm := rmv 0 0 0 0) (As := [iV (x2)]) (rest := [.ref (d.ad (o1 + 1))]) C hA hR0 mf_X5_at lk_X2_50 rfl (ik3 h0).1 (by decide) ⟨rfl, rfl⟩ ⟨Nat.le_of_ble_eq_true rfl, Nat.le_of_ble_eq_true rfl⟩ rfl rfl (Nat.le_of_ble_eq_true rfl) hce dX2_centreRow_77 hq (fun _ _ h => c_X5_at g.l g.G hdm (ik3 h0).1 h) (fun r2 w1 _ hq => ?_)
  refine x_callVi (K := 6) (rm := rmv 0 0 0 0) (As := [iV (r2)]) (rest := []) C hA hR0 mf_X5_at lk_X2_50 rfl (ik7 h1).1 (by decide) ⟨rfl, rfl⟩ ⟨Nat.le_of_ble_eq_true rfl, Nat.le_of_ble_eq_true rfl⟩ rfl rfl (Nat.le_of_ble_eq_true rfl) hce dX2_centreRow_80 hq (fun _ _ h => c_X5_at g.l g.G hdm (ik7 h1).1 h) (fun r4 w3 _ hq => ?_)
  refine x_istore (lv' := [(6, iV (r4)), (0, .ref (d.ad (o0))), (1, .ref (d.ad (o1))), (2, iV (x2)), (3, iV (x3)), (4, iV (x4)), (5, iV (x5))]) C dX2_centreRow_83 (by decide) rfl ?_
  refine x_aload_n C 2 dX2_centreRow_85 rfl ?_
  refine x_get (K := 7) (k := 0) C h1 (by decide) cl_X6 (by decide) ⟨rfl, rfl, rfl⟩ fl_X2_85 dX2_centreRow_86 ?_
  refine x_iload C 6 dX2_centreRow_89 rfl ?_
  refine x_isub C dX2_centreRow_91 ?_
  refine x_iconst C dX2_centreRow_92 ?_
  refine x_idiv C (by decide +kernel) dX2_centreRow_93 ?_
  refine x_istore (lv' := [(7, iV (dv32 ((gF w3 o1 0) - x5) 2)), (6, iV (r4)), (0, .ref (d.ad (o0))), (1, .ref (d.ad (o1))), (2, iV (x2)), (3, iV (x3)), (4, iV (x4)), (5, iV (x5))]) C dX2_centreRow_94 (by decide) rfl ?_
  refine XG.sub [2, 4, 5, 6, 1, 0] rfl ?_
  exact L_X2_centreRow_96 C hdm hA hR0 hce hR h0 h1 _ _ _ _ _ _ _ hq
set_option maxRecDepth 100000 in
set_option maxHeartbeats 4000000 in
theorem L_X2_centreRow_9 {g : Cx} {d : Dl} (C : CX g cX2_centreRow 9 none RX2) (hdm : g.dm = 0) (hA : ∀ q : Nat, g.s.heap.size ≤ q → g.A q) (hR0 : g.R = rmv 1 22 0 0) (hce : d.ce ≤ g.R.cells ∧ d.so ≤ g.R.slots) {res : Wd} (hR : rtV g d cX2_centreRow res) {o0 : Nat} {o1 : Nat} (h0 : isK d.na g.dm 3 o0) (h1 : isK d.na g.dm 7 o1) : ∀ (n : Nat) (x2 : Int) (x3 : Int) (x4 : Int) (x5 : Int) (x6 : Int) (w : Wd), p_X2_centreRow_9 o0 o1 n x2 x3 x4 x5 x6 w = some res → XG g d (hP g d w) [(0, .ref (d.ad (o0))), (1, .ref (d.ad (o1))), (2, iV (x2)), (3, iV (x3)), (4, iV (x4)), (5, iV (x5)), (6, iV (x6))] [] 9 := by
  intro n
  induction n with
  | zero => intro x2 x3 x4 x5 x6 w  hq; exact nomatch (show none = some _ from hq)
  | succ n ih =>
    intro x2 x3 x4 x5 x6 w  hq
    refine x_iload C 6 dX2_centreRow_9 rfl ?_
    refine x_iload_n C 3 dX2_centreRow_11 rfl ?_
    refine x_icmp_ge (tgt := 68) C dX2_centreRow_12 (by decide) hq (fun hq => ?_) (fun hq => ?_)
    · refine XG.sub [0, 1, 2, 3, 4, 5] rfl ?_
      exact L_X2_centreRow_68 C hdm hA hR0 hce hR h0 h1 _ _ _ _ _ hq
    · refine x_iload C 4 dX2_centreRow_15 rfl ?_
      refine x_aload_n C 0 dX2_centreRow_17 rfl ?_
      refine x_getr (K := 3) (k := 1) (o2 := o0 + 3) C h0 (by decide) cl_X2 (by decide) ⟨rfl, rfl, rfl⟩ fl_X2_20 rfl dX2_centreRow_18 ?_
      refine x_iload C 6 dX2_centreRow_21 rfl ?_
      refine x_callVi (K := 6) (rm := rmv 0 0 0 0) (As := [iV (x6)]) (rest := [iV (x4)]) C hA hR0 mf_X5_at lk_X2_50 rfl (ik3 h0).2.1 (by decide) ⟨rfl, rfl⟩ ⟨Nat.le_of_ble_eq_true rfl, Nat.le_of_ble_eq_true rfl⟩ rfl rfl (Nat.le_of_ble_eq_true rfl) hce dX2_centreRow_23 hq (fun _ _ h => c_X5_at g.l g.G hdm (ik3 h0).2.1 h) (fun r2 w1 _ hq => ?_)
      refine x_aload_n C 1 dX2_centreRow_26 rfl ?_
      refine x_getr (K := 7) (k := 8) (o2 := o1 + 7) C h1 (by decide) cl_X6 (by decide) ⟨rfl, rfl, rfl⟩ fl_X2_79 rfl dX2_centreRow_27 ?_
      refine x_iload C 6 dX2_centreRow_30 rfl ?_
      refine x_callVi (K := 6) (rm := rmv 0 0 0 0) (As := [iV (x6)]) (rest := [iV (r2), iV (x4)]) C hA hR0 mf_X5_at lk_X2_50 rfl (ik7 h1).2.2.2.1 (by decide) ⟨rfl, rfl⟩ ⟨Nat.le_of_ble_eq_true rfl, Nat.le_of_ble_eq_true rfl⟩ rfl rfl (Nat.le_of_ble_eq_true rfl) hce dX2_centreRow_32 hq (fun _ _ h => c_X5_at g.l g.G hdm (ik7 h1).2.2.2.1 h) (fun r4 w3 _ hq => ?_)
      refine x_callSi (rm := rmv 0 0 0 0) (As := [iV (r2), iV (r4)]) (rest := [iV (x4)]) C hA hR0 mf_X2_cells lk_X2_91 ⟨rfl, rfl⟩ ⟨Nat.le_of_ble_eq_true rfl, Nat.le_of_ble_eq_true rfl⟩ rfl rfl (Nat.le_of_ble_eq_true rfl) hce dX2_centreRow_35 hq (fun _ _ h => c_X2_cells g.l g.G hdm  h) (fun r6 w5 _ hq => ?_)
      refine x_ior C dX2_centreRow_38 ?_
      refine x_istore (lv' := [(4, iV (or32 x4 r6)), (0, .ref (d.ad (o0))), (1, .ref (d.ad (o1))), (2, iV (x2)), (3, iV (x3)), (5, iV (x5)), (6, iV (x6))]) C dX2_centreRow_39 (by decide) rfl ?_
      refine x_aload_n C 1 dX2_centreRow_41 rfl ?_
      refine x_getr (K := 3) (k := 1) (o2 := o0 + 3) C h0 (by decide) cl_X2 (by decide) ⟨rfl, rfl, rfl⟩ fl_X2_20 rfl dX2_centreRow_42 ?_
      refine x_iload C 6 dX2_centreRow_45 rfl ?_
      refine x_callVi (K := 6) (rm := rmv 0 0 0 0) (As := [iV (x6)]) (rest := []) C hA hR0 mf_X5_at lk_X2_50 rfl (ik3 h0).2.1 (by decide) ⟨rfl, rfl⟩ ⟨Nat.le_of_ble_eq_true rfl, Nat.le_of_ble_eq_true rfl⟩ rfl rfl (Nat.le_of_ble_eq_true rfl) hce dX2_centreRow_47 hq (fun _ _ h => c_X5_at g.l g.G hdm (ik3 h0).2.1 h) (fun r8 w7 _ hq => ?_)
      refine x_aload_n C 2 dX2_centreRow_50 rfl ?_
      refine x_getr (K := 7) (k := 8) (o2 := o1 + 7) C h1 (by decide) cl_X6 (by decide) ⟨rfl, rfl, rfl⟩ fl_X2_79 rfl dX2_centreRow_51 ?_
      refine x_iload C 6 dX2_centreRow_54 rfl ?_
      refine x_callVi (K := 6) (rm := rmv 0 0 0 0) (As := [iV (x6)]) (rest := [iV (r8)]) C hA hR0 mf_X5_at lk_X2_50 rfl (ik7 h1).2.2.2.1 (by decide) ⟨rfl, rfl⟩ ⟨Nat.le_of_ble_eq_true rfl, Nat.le_of_ble_eq_true rfl⟩ rfl rfl (Nat.le_of_ble_eq_true rfl) hce dX2_centreRow_56 hq (fun _ _ h => c_X5_at g.l g.G hdm (ik7 h1).2.2.2.1 h) (fun r10 w9 _ hq => ?_)
      refine x_iadd C dX2_centreRow_59 ?_
      refine x_istore (lv' := [(5, iV (r8 + r10)), (4, iV (or32 x4 r6)), (0, .ref (d.ad (o0))), (1, .ref (d.ad (o1))), (2, iV (x2)), (3, iV (x3)), (6, iV (x6))]) C dX2_centreRow_60 (by decide) rfl ?_
      refine x_iinc (lv' := [(6, iV (x6 + 1)), (5, iV (r8 + r10)), (4, iV (or32 x4 r6)), (0, .ref (d.ad (o0))), (1, .ref (d.ad (o1))), (2, iV (x2)), (3, iV (x3))]) C 6 dX2_centreRow_62 rfl (by decide) rfl ?_
      refine x_goto (tgt := 9) C dX2_centreRow_65 (by decide) ?_
      refine XG.sub [3, 4, 5, 6, 2, 1, 0] rfl ?_
      exact ih _ _ _ _ _ _ hq
set_option maxRecDepth 100000 in
set_option maxHeartbeats 4000000 in
theorem L_X2_centreRow {g : Cx} {d : Dl} (C : CX g cX2_centreRow 9 none RX2) (hdm : g.dm = 0) (hA : ∀ q : Nat, g.s.heap.size ≤ q → g.A q) (hR0 : g.R = rmv 1 22 0 0) (hce : d.ce ≤ g.R.cells ∧ d.so ≤ g.R.slots) {res : Wd} (hR : rtV g d cX2_centreRow res) {o0 : Nat} {o1 : Nat} (h0 : isK d.na g.dm 3 o0) (h1 : isK d.na g.dm 7 o1) (x2 : Int) (x3 : Int) (w : Wd) (hq : p_X2_centreRow o0 o1 x2 x3 w = some res) : XG g d (hP g d w) [(0, .ref (d.ad (o0))), (1, .ref (d.ad (o1))), (2, iV (x2)), (3, iV (x3))] [] 0 := by
  refine x_iconst C dX2_centreRow_0 ?_
  refine x_istore (lv' := [(4, iV (0)), (0, .ref (d.ad (o0))), (1, .ref (d.ad (o1))), (2, iV (x2)), (3, iV (x3))]) C dX2_centreRow_1 (by decide) rfl ?_
  refine x_iconst C dX2_centreRow_3 ?_
  refine x_istore (lv' := [(5, iV (0)), (4, iV (0)), (0, .ref (d.ad (o0))), (1, .ref (d.ad (o1))), (2, iV (x2)), (3, iV (x3))]) C dX2_centreRow_4 (by decide) rfl ?_
  refine x_iload_n C 4 dX2_centreRow_6 rfl ?_
  refine x_istore (lv' := [(6, iV (x2)), (5, iV (0)), (4, iV (0)), (0, .ref (d.ad (o0))), (1, .ref (d.ad (o1))), (2, iV (x2)), (3, iV (x3))]) C dX2_centreRow_7 (by decide) rfl ?_
  refine XG.sub [3, 4, 5, 6, 2, 1, 0] rfl ?_
  exact L_X2_centreRow_9 C hdm hA hR0 hce hR h0 h1 _ _ _ _ _ _ _ hq
set_option maxRecDepth 100000 in
set_option maxHeartbeats 4000000 in
theorem c_X2_centreRow (l : Launch) (G : Gd) {dm na : Nat} {ad : Nat → Nat} (hdm : dm = 0) {o0 : Nat} {o1 : Nat} {x2 : Int} {x3 : Int} {w w' : Wd}  (h0 : isK na dm 3 o0) (h1 : isK na dm 7 o1) (hq : p_X2_centreRow o0 o1 x2 x3 w = some w') : mV l yX2_centreRow cX2_centreRow 9 none (rmv 1 22 0 0) G dm na ad [.ref (ad (o0)), .ref (ad (o1)), iV (x2), iV (x3)] w w' := by
  refine met_V [(0, .ref (ad (o0))), (1, .ref (ad (o1))), (2, iV (x2)), (3, iV (x3))] (by decide) (Nat.le_of_ble_eq_true rfl) rfl rfl (fun g d C S hR => ?_)
  obtain ⟨rfl, hR0, rfl, rfl, rfl, hA⟩ := S
  exact L_X2_centreRow (d := (na, ad, 0, 0)) C hdm hA hR0 ⟨Nat.zero_le _, Nat.zero_le _⟩ hR h0 h1 _ _ w hq
set_option maxRecDepth 100000 in
set_option maxHeartbeats 4000000 in
theorem L_X2_centre_54 {g : Cx} {d : Dl} (C : CX g cX2_centre 6 none RX2) (hdm : g.dm = 0) (hA : ∀ q : Nat, g.s.heap.size ≤ q → g.A q) (hR0 : g.R = rmv 2 50 0 0) (hce : d.ce ≤ g.R.cells ∧ d.so ≤ g.R.slots) {res : Wd} (hR : rtV g d cX2_centre res) {o0 : Nat} {o1 : Nat} (h0 : isK d.na g.dm 3 o0) (h1 : isK d.na g.dm 7 o1) {k8 : Int → Int → Int → Wd → Option (Wd)} (hk8 : ∀ (x3 : Int) (x4 : Int) (x5 : Int) (w : Wd), k8 x3 x4 x5 w = some res → XG g d (hP g d w) [(0, .ref (d.ad (o0))), (1, .ref (d.ad (o1))), (3, iV (x3)), (4, iV (x4)), (5, iV (x5))] [] 8) (x3 : Int) (x4 : Int) (x5 : Int) (w : Wd) (hq : p_X2_centre_54 o0 o1 k8 x3 x4 x5 w = some res) : XG g d (hP g d w) [(0, .ref (d.ad (o0))), (1, .ref (d.ad (o1))), (3, iV (x3)), (4, iV (x4)), (5, iV (x5))] [] 54 := by
  refine x_iinc (lv' := [(5, iV (x5 + 1)), (0, .ref (d.ad (o0))), (1, .ref (d.ad (o1))), (3, iV (x3)), (4, iV (x4))]) C 4 dX2_centre_54 rfl (by decide) rfl ?_
  refine x_goto (tgt := 8) C dX2_centre_57 (by decide) ?_
  refine XG.sub [1, 2, 3, 4, 0] rfl ?_
  exact hk8 _ _ _ _ hq
set_option maxRecDepth 100000 in
set_option maxHeartbeats 4000000 in
theorem L_X2_centre_41 {g : Cx} {d : Dl} (C : CX g cX2_centre 6 none RX2) (hdm : g.dm = 0) (hA : ∀ q : Nat, g.s.heap.size ≤ q → g.A q) (hR0 : g.R = rmv 2 50 0 0) (hce : d.ce ≤ g.R.cells ∧ d.so ≤ g.R.slots) {res : Wd} (hR : rtV g d cX2_centre res) {o0 : Nat} {o1 : Nat} (h0 : isK d.na g.dm 3 o0) (h1 : isK d.na g.dm 7 o1) {k8 : Int → Int → Int → Wd → Option (Wd)} (hk8 : ∀ (x3 : Int) (x4 : Int) (x5 : Int) (w : Wd), k8 x3 x4 x5 w = some res → XG g d (hP g d w) [(0, .ref (d.ad (o0))), (1, .ref (d.ad (o1))), (3, iV (x3)), (4, iV (x4)), (5, iV (x5))] [] 8) (x3 : Int) (x4 : Int) (x5 : Int) (w : Wd) (hq : p_X2_centre_41 o0 o1 k8 x3 x4 x5 w = some res) : XG g d (hP g d w) [(0, .ref (d.ad (o0))), (1, .ref (d.ad (o1))), (3, iV (x3)), (4, iV (x4)), (5, iV (x5))] [] 41 := by
  refine x_aload_n C 0 dX2_centre_41 rfl ?_
  refine x_aload_n C 1 dX2_centre_42 rfl ?_
  refine x_iload C 3 dX2_centre_43 rfl ?_
  refine x_iload C 4 dX2_centre_45 rfl ?_
  refine x_callVv (K := 3) (rm := rmv 1 22 0 0) (As := [.ref (d.ad (o1)), iV (x4), iV (x5)]) (rest := []) C hA hR0 mf_X2_centreRow lk_X2_95 rfl h0 (by decide) ⟨rfl, rfl⟩ ⟨Nat.le_of_ble_eq_true rfl, Nat.le_of_ble_eq_true rfl⟩ rfl rfl (Nat.le_of_ble_eq_true rfl) hce dX2_centre_47 hq (fun _ h => c_X2_centreRow g.l g.G hdm h0 h1 h) (fun w1 _ hq => ?_)
  refine x_iload C 4 dX2_centre_50 rfl ?_
  refine x_istore (lv' := [(4, iV (x5)), (0, .ref (d.ad (o0))), (1, .ref (d.ad (o1))), (3, iV (x3)), (5, iV (x5))]) C dX2_centre_52 (by decide) rfl ?_
  refine XG.sub [1, 2, 3, 0, 4] rfl ?_
  exact L_X2_centre_54 C hdm hA hR0 hce hR h0 h1 hk8 _ _ _ _ hq
set_option maxRecDepth 100000 in
set_option maxHeartbeats 4000000 in
theorem L_X2_centre_8 {g : Cx} {d : Dl} (C : CX g cX2_centre 6 none RX2) (hdm : g.dm = 0) (hA : ∀ q : Nat, g.s.heap.size ≤ q → g.A q) (hR0 : g.R = rmv 2 50 0 0) (hce : d.ce ≤ g.R.cells ∧ d.so ≤ g.R.slots) {res : Wd} (hR : rtV g d cX2_centre res) {o0 : Nat} {o1 : Nat} (h0 : isK d.na g.dm 3 o0) (h1 : isK d.na g.dm 7 o1) : ∀ (n : Nat) (x3 : Int) (x4 : Int) (x5 : Int) (w : Wd), p_X2_centre_8 o0 o1 n x3 x4 x5 w = some res → XG g d (hP g d w) [(0, .ref (d.ad (o0))), (1, .ref (d.ad (o1))), (3, iV (x3)), (4, iV (x4)), (5, iV (x5))] [] 8 := by
  intro n
  induction n with
  | zero => intro x3 x4 x5 w  hq; exact nomatch (show none = some _ from hq)
  | succ n ih =>
    intro x3 x4 x5 w  hq
    refine x_iload C 4 dX2_centre_8 rfl ?_
    refine x_iload_n C 2 dX2_centre_10 rfl ?_
    refine x_icmp_gt (tgt := 60) C dX2_centre_11 (by decide) hq (fun hq => ?_) (fun hq => ?_)
    · exact hR _ _ _ hq dX2_centre_60
    · refine x_iload C 4 dX2_centre_14 rfl ?_
      refine x_iload_n C 2 dX2_centre_16 rfl ?_
      refine x_icmp_eq (tgt := 41) C dX2_centre_17 (by decide) hq (fun hq => ?_) (fun hq => ?_)
      · exact L_X2_centre_41 C hdm hA hR0 hce hR h0 h1 ih _ _ _ _ hq
      · refine x_aload_n C 0 dX2_centre_20 rfl ?_
        refine x_getr (K := 3) (k := 0) (o2 := o0 + 1) C h0 (by decide) cl_X2 (by decide) ⟨rfl, rfl, rfl⟩ fl_X2_14 rfl dX2_centre_21 ?_
        refine x_iload C 4 dX2_centre_24 rfl ?_
        refine x_callVi (K := 6) (rm := rmv 0 0 0 0) (As := [iV (x5)]) (rest := []) C hA hR0 mf_X5_at lk_X2_50 rfl (ik3 h0).1 (by decide) ⟨rfl, rfl⟩ ⟨Nat.le_of_ble_eq_true rfl, Nat.le_of_ble_eq_true rfl⟩ rfl rfl (Nat.le_of_ble_eq_true rfl) hce dX2_centre_26 hq (fun _ _ h => c_X5_at g.l g.G hdm (ik3 h0).1 h) (fun r2 w1 _ hq => ?_)
        refine x_aload_n C 0 dX2_centre_29 rfl ?_
        refine x_getr (K := 3) (k := 0) (o2 := o0 + 1) C h0 (by decide) cl_X2 (by decide) ⟨rfl, rfl, rfl⟩ fl_X2_14 rfl dX2_centre_30 ?_
        refine x_iload C 3 dX2_centre_33 rfl ?_
        refine x_callVi (K := 6) (rm := rmv 0 0 0 0) (As := [iV (x4)]) (rest := [iV (r2)]) C hA hR0 mf_X5_at lk_X2_50 rfl (ik3 h0).1 (by decide) ⟨rfl, rfl⟩ ⟨Nat.le_of_ble_eq_true rfl, Nat.le_of_ble_eq_true rfl⟩ rfl rfl (Nat.le_of_ble_eq_true rfl) hce dX2_centre_35 hq (fun _ _ h => c_X5_at g.l g.G hdm (ik3 h0).1 h) (fun r4 w3 _ hq => ?_)
        refine x_icmp_eq (tgt := 54) C dX2_centre_38 (by decide) hq (fun hq => ?_) (fun hq => ?_)
        · exact L_X2_centre_54 C hdm hA hR0 hce hR h0 h1 ih _ _ _ _ hq
        · exact L_X2_centre_41 C hdm hA hR0 hce hR h0 h1 ih _ _ _ _ hq
set_option maxRecDepth 100000 in
set_option maxHeartbeats 4000000 in
theorem L_X2_centre {g : Cx} {d : Dl} (C : CX g cX2_centre 6 none RX2) (hdm : g.dm = 0) (hA : ∀ q : Nat, g.s.heap.size ≤ q → g.A q) (hR0 : g.R = rmv 2 50 0 0) (hce : d.ce ≤ g.R.cells ∧ d.so ≤ g.R.slots) {res : Wd} (hR : rtV g d cX2_centre res) {o0 : Nat} {o1 : Nat} (h0 : isK d.na g.dm 3 o0) (h1 : isK d.na g.dm 7 o1) (x2 : Int) (x3 : Int) (w : Wd) (hq : p_X2_centre o0 o1 x2 x3 w = some res) : XG g d (hP g d w) [(0, .ref (d.ad (o0))), (1, .ref (d.ad (o1))), (2, iV (x2)), (3, iV (x3))] [] 0 := by
  refine x_iload_n C 2 dX2_centre_0 rfl ?_
  refine x_istore (lv' := [(4, iV (x2)), (0, .ref (d.ad (o0))), (1, .ref (d.ad (o1))), (2, iV (x2)), (3, iV (x3))]) C dX2_centre_1 (by decide) rfl ?_
  refine x_iload_n C 3 dX2_centre_3 rfl ?_
  refine x_iconst C dX2_centre_4 ?_
  refine x_iadd C dX2_centre_5 ?_
  refine x_istore (lv' := [(5, iV (x2 + 1)), (4, iV (x2)), (0, .ref (d.ad (o0))), (1, .ref (d.ad (o1))), (2, iV (x2)), (3, iV (x3))]) C dX2_centre_6 (by decide) rfl ?_
  refine XG.sub [2, 3, 5, 1, 0] rfl ?_
  exact L_X2_centre_8 C hdm hA hR0 hce hR h0 h1 _ _ _ _ _ hq
set_option maxRecDepth 100000 in
set_option maxHeartbeats 4000000 in
theorem c_X2_centre (l : Launch) (G : Gd) {dm na : Nat} {ad : Nat → Nat} (hdm : dm = 0) {o0 : Nat} {o1 : Nat} {x2 : Int} {x3 : Int} {w w' : Wd}  (h0 : isK na dm 3 o0) (h1 : isK na dm 7 o1) (hq : p_X2_centre o0 o1 x2 x3 w = some w') : mV l yX2_centre cX2_centre 6 none (rmv 2 50 0 0) G dm na ad [.ref (ad (o0)), .ref (ad (o1)), iV (x2), iV (x3)] w w' := by
  refine met_V [(0, .ref (ad (o0))), (1, .ref (ad (o1))), (2, iV (x2)), (3, iV (x3))] (by decide) (Nat.le_of_ble_eq_true rfl) rfl rfl (fun g d C S hR => ?_)
  obtain ⟨rfl, hR0, rfl, rfl, rfl, hA⟩ := S
  exact L_X2_centre (d := (na, ad, 0, 0)) C hdm hA hR0 ⟨Nat.zero_le _, Nat.zero_le _⟩ hR h0 h1 _ _ w hq
set_option maxRecDepth 100000 in
set_option maxHeartbeats 4000000 in
theorem L_X2_lay_83 {g : Cx} {d : Dl} (C : CX g cX2_lay 5 none RX2) (hdm : g.dm = 0) (hA : ∀ q : Nat, g.s.heap.size ≤ q → g.A q) (hR0 : g.R = rmv 3 75 0 0) (hce : d.ce ≤ g.R.cells ∧ d.so ≤ g.R.slots) {res : Wd} (hR : rtV g d cX2_lay res) {o0 : Nat} {o1 : Nat} (h0 : isK d.na g.dm 3 o0) (h1 : isK d.na g.dm 7 o1) {k19 : Int → Int → Wd → Option (Wd)} (hk19 : ∀ (x2 : Int) (x3 : Int) (w : Wd), k19 x2 x3 w = some res → XG g d (hP g d w) [(0, .ref (d.ad (o0))), (1, .ref (d.ad (o1))), (2, iV (x2)), (3, iV (x3))] [] 19) (x2 : Int) (x3 : Int) (w : Wd) (hq : p_X2_lay_83 o0 o1 k19 x2 x3 w = some res) : XG g d (hP g d w) [(0, .ref (d.ad (o0))), (1, .ref (d.ad (o1))), (2, iV (x2)), (3, iV (x3))] [] 83 := by
  refine x_aload_n C 0 dX2_lay_83 rfl ?_
  refine x_dup C rfl dX2_lay_84 ?_
  refine x_get (K := 3) (k := 6) C h0 (by decide) cl_X2 (by decide) ⟨rfl, rfl, rfl⟩ fl_X2_36 dX2_lay_85 ?_
  refine x_aload_n C 1 dX2_lay_88 rfl ?_
  refine x_get (K := 7) (k := 2) C h1 (by decide) cl_X6 (by decide) ⟨rfl, rfl, rfl⟩ fl_X2_65 dX2_lay_89 ?_
  refine x_iconst C dX2_lay_92 ?_
  refine x_iadd C dX2_lay_93 ?_
  refine x_iadd C dX2_lay_94 ?_
  refine x_put (K := 3) (k := 6) C h0 (by decide) cl_X2 (by decide) ⟨rfl, rfl, rfl, rfl⟩ fl_X2_36 ⟨rfl, rfl⟩ dX2_lay_95 ?_
  refine x_aload_n C 0 dX2_lay_98 rfl ?_
  refine x_iconst C dX2_lay_99 ?_
  refine x_put (K := 3) (k := 7) C h0 (by decide) cl_X2 (by decide) ⟨rfl, rfl, rfl, rfl⟩ fl_X2_39 ⟨rfl, rfl⟩ dX2_lay_100 ?_
  refine nmW hq (fun w1 ew1 hq => ?_)
  rw [← ew1]
  refine x_iinc (lv' := [(3, iV (x3 + 1)), (0, .ref (d.ad (o0))), (1, .ref (d.ad (o1))), (2, iV (x2))]) C 3 dX2_lay_103 rfl (by decide) rfl ?_
  refine x_goto (tgt := 19) C dX2_lay_106 (by decide) ?_
  refine XG.sub [1, 2, 3, 0] rfl ?_
  exact hk19 _ _ _ hq
set_option maxRecDepth 100000 in
set_option maxHeartbeats 4000000 in
theorem L_X2_lay_114 {g : Cx} {d : Dl} (C : CX g cX2_lay 5 none RX2) (hdm : g.dm = 0) (hA : ∀ q : Nat, g.s.heap.size ≤ q → g.A q) (hR0 : g.R = rmv 3 75 0 0) (hce : d.ce ≤ g.R.cells ∧ d.so ≤ g.R.slots) {res : Wd} (hR : rtV g d cX2_lay res) {o0 : Nat} {o1 : Nat} (h0 : isK d.na g.dm 3 o0) (h1 : isK d.na g.dm 7 o1) : ∀ (n : Nat) (x3 : Int) (w : Wd), p_X2_lay_114 o0 o1 n x3 w = some res → XG g d (hP g d w) [(0, .ref (d.ad (o0))), (1, .ref (d.ad (o1))), (3, iV (x3))] [] 114 := by
  intro n
  induction n with
  | zero => intro x3 w  hq; exact nomatch (show none = some _ from hq)
  | succ n ih =>
    intro x3 w  hq
    refine x_iload_n C 2 dX2_lay_114 rfl ?_
    refine x_aload_n C 1 dX2_lay_115 rfl ?_
    refine x_get (K := 7) (k := 7) C h1 (by decide) cl_X6 (by decide) ⟨rfl, rfl, rfl⟩ fl_X2_68 dX2_lay_116 ?_
    refine x_icmp_ge (tgt := 146) C dX2_lay_119 (by decide) hq (fun hq => ?_) (fun hq => ?_)
    · exact hR _ _ _ hq dX2_lay_146
    · refine x_aload_n C 0 dX2_lay_122 rfl ?_
      refine x_getr (K := 3) (k := 0) (o2 := o0 + 1) C h0 (by decide) cl_X2 (by decide) ⟨rfl, rfl, rfl⟩ fl_X2_14 rfl dX2_lay_123 ?_
      refine x_iload_n C 2 dX2_lay_126 rfl ?_
      refine x_iconst C dX2_lay_127 ?_
      refine x_callVv (K := 6) (rm := rmv 0 0 0 0) (As := [iV (x3), iV (-1)]) (rest := []) C hA hR0 mf_X5_put lk_X2_71 rfl (ik3 h0).1 (by decide) ⟨rfl, rfl⟩ ⟨Nat.le_of_ble_eq_true rfl, Nat.le_of_ble_eq_true rfl⟩ rfl rfl (Nat.le_of_ble_eq_true rfl) hce dX2_lay_128 hq (fun _ h => c_X5_put g.l g.G hdm (ik3 h0).1 h) (fun w1 _ hq => ?_)
      refine x_aload_n C 0 dX2_lay_131 rfl ?_
      refine x_getr (K := 3) (k := 1) (o2 := o0 + 3) C h0 (by decide) cl_X2 (by decide) ⟨rfl, rfl, rfl⟩ fl_X2_20 rfl dX2_lay_132 ?_
      refine x_iload_n C 2 dX2_lay_135 rfl ?_
      refine x_iconst C dX2_lay_136 ?_
      refine x_callVv (K := 6) (rm := rmv 0 0 0 0) (As := [iV (x3), iV (-1)]) (rest := []) C hA hR0 mf_X5_put lk_X2_71 rfl (ik3 h0).2.1 (by decide) ⟨rfl, rfl⟩ ⟨Nat.le_of_ble_eq_true rfl, Nat.le_of_ble_eq_true rfl⟩ rfl rfl (Nat.le_of_ble_eq_true rfl) hce dX2_lay_137 hq (fun _ h => c_X5_put g.l g.G hdm (ik3 h0).2.1 h) (fun w2 _ hq => ?_)
      refine x_iinc (lv' := [(3, iV (x3 + 1)), (0, .ref (d.ad (o0))), (1, .ref (d.ad (o1)))]) C 2 dX2_lay_140 rfl (by decide) rfl ?_
      refine x_goto (tgt := 114) C dX2_lay_143 (by decide) ?_
      refine XG.sub [1, 2, 0] rfl ?_
      exact ih _ _ hq
set_option maxRecDepth 100000 in
set_option maxHeartbeats 4000000 in
theorem L_X2_lay_109 {g : Cx} {d : Dl} (C : CX g cX2_lay 5 none RX2) (hdm : g.dm = 0) (hA : ∀ q : Nat, g.s.heap.size ≤ q → g.A q) (hR0 : g.R = rmv 3 75 0 0) (hce : d.ce ≤ g.R.cells ∧ d.so ≤ g.R.slots) {res : Wd} (hR : rtV g d cX2_lay res) {o0 : Nat} {o1 : Nat} (h0 : isK d.na g.dm 3 o0) (h1 : isK d.na g.dm 7 o1)  (w : Wd) (hq : p_X2_lay_109 o0 o1 w = some res) : XG g d (hP g d w) [(0, .ref (d.ad (o0))), (1, .ref (d.ad (o1)))] [] 109 := by
  refine x_aload_n C 0 dX2_lay_109 rfl ?_
  refine x_get (K := 3) (k := 4) C h0 (by decide) cl_X2 (by decide) ⟨rfl, rfl, rfl⟩ fl_X2_29 dX2_lay_110 ?_
  refine x_istore_n (lv' := [(3, iV (gF w o0 4)), (0, .ref (d.ad (o0))), (1, .ref (d.ad (o1)))]) C dX2_lay_113 (by decide) rfl ?_
  refine XG.sub [1, 2, 0] rfl ?_
  exact L_X2_lay_114 C hdm hA hR0 hce hR h0 h1 _ _ _ hq
set_option maxRecDepth 100000 in
set_option maxHeartbeats 4000000 in
theorem L_X2_lay_19 {g : Cx} {d : Dl} (C : CX g cX2_lay 5 none RX2) (hdm : g.dm = 0) (hA : ∀ q : Nat, g.s.heap.size ≤ q → g.A q) (hR0 : g.R = rmv 3 75 0 0) (hce : d.ce ≤ g.R.cells ∧ d.so ≤ g.R.slots) {res : Wd} (hR : rtV g d cX2_lay res) {o0 : Nat} {o1 : Nat} (h0 : isK d.na g.dm 3 o0) (h1 : isK d.na g.dm 7 o1) : ∀ (n : Nat) (x2 : Int) (x3 : Int) (w : Wd), p_X2_lay_19 o0 o1 n x2 x3 w = some res → XG g d (hP g d w) [(0, .ref (d.ad (o0))), (1, .ref (d.ad (o1))), (2, iV (x2)), (3, iV (x3))] [] 19 := by
  intro n
  induction n with
  | zero => intro x2 x3 w  hq; exact nomatch (show none = some _ from hq)
  | succ n ih =>
    intro x2 x3 w  hq
    refine x_iload_n C 3 dX2_lay_19 rfl ?_
    refine x_aload_n C 1 dX2_lay_20 rfl ?_
    refine x_get (K := 7) (k := 4) C h1 (by decide) cl_X6 (by decide) ⟨rfl, rfl, rfl⟩ fl_X2_42 dX2_lay_21 ?_
    refine x_icmp_ge (tgt := 109) C dX2_lay_24 (by decide) hq (fun hq => ?_) (fun hq => ?_)
    · refine XG.sub [0, 1] rfl ?_
      exact L_X2_lay_109 C hdm hA hR0 hce hR h0 h1 _ hq
    · refine x_aload_n C 0 dX2_lay_27 rfl ?_
      refine x_get (K := 3) (k := 4) C h0 (by decide) cl_X2 (by decide) ⟨rfl, rfl, rfl⟩ fl_X2_29 dX2_lay_28 ?_
      refine x_iload_n C 2 dX2_lay_31 rfl ?_
      refine x_icmp_ne (tgt := 109) C dX2_lay_32 (by decide) hq (fun hq => ?_) (fun hq => ?_)
      · refine XG.sub [0, 1] rfl ?_
        exact L_X2_lay_109 C hdm hA hR0 hce hR h0 h1 _ hq
      · refine x_iload_n C 2 dX2_lay_35 rfl ?_
        refine x_istore (lv' := [(4, iV (x2)), (0, .ref (d.ad (o0))), (1, .ref (d.ad (o1))), (2, iV (x2)), (3, iV (x3))]) C dX2_lay_36 (by decide) rfl ?_
        refine x_iload C 0 dX2_lay_38 rfl ?_
        refine x_aload_n C 2 dX2_lay_40 rfl ?_
        refine x_getr (K := 7) (k := 6) (o2 := o1 + 5) C h1 (by decide) cl_X6 (by decide) ⟨rfl, rfl, rfl⟩ fl_X2_47 rfl dX2_lay_41 ?_
        refine x_iload_n C 4 dX2_lay_44 rfl ?_
        refine x_callVi (K := 6) (rm := rmv 0 0 0 0) (As := [iV (x3)]) (rest := [iV (x2)]) C hA hR0 mf_X5_at lk_X2_50 rfl (ik7 h1).2.2.1 (by decide) ⟨rfl, rfl⟩ ⟨Nat.le_of_ble_eq_true rfl, Nat.le_of_ble_eq_true rfl⟩ rfl rfl (Nat.le_of_ble_eq_true rfl) hce dX2_lay_45 hq (fun _ _ h => c_X5_at g.l g.G hdm (ik7 h1).2.2.1 h) (fun r2 w1 _ hq => ?_)
        refine x_iadd C dX2_lay_48 ?_
        refine x_istore_n (lv' := [(2, iV (x2 + r2)), (4, iV (x2)), (0, .ref (d.ad (o0))), (1, .ref (d.ad (o1))), (3, iV (x3))]) C dX2_lay_49 (by decide) rfl ?_
        refine x_aload_n C 2 dX2_lay_50 rfl ?_
        refine x_aload_n C 3 dX2_lay_51 rfl ?_
        refine x_iload_n C 0 dX2_lay_52 rfl ?_
        refine x_callVv (K := 3) (rm := rmv 2 48 0 0) (As := [.ref (d.ad (o1)), iV (x2 + r2)]) (rest := []) C hA hR0 mf_X2_layWords lk_X2_54 rfl h0 (by decide) ⟨rfl, rfl⟩ ⟨Nat.le_of_ble_eq_true rfl, Nat.le_of_ble_eq_true rfl⟩ rfl rfl (Nat.le_of_ble_eq_true rfl) hce dX2_lay_53 hq (fun _ h => c_X2_layWords g.l g.G hdm h0 h1 h) (fun w3 _ hq => ?_)
        refine x_aload_n C 2 dX2_lay_56 rfl ?_
        refine x_get (K := 3) (k := 4) C h0 (by decide) cl_X2 (by decide) ⟨rfl, rfl, rfl⟩ fl_X2_29 dX2_lay_57 ?_
        refine x_iload_n C 0 dX2_lay_60 rfl ?_
        refine x_icmp_ne (tgt := 83) C dX2_lay_61 (by decide) hq (fun hq => ?_) (fun hq => ?_)
        · refine XG.sub [2, 3, 0, 4] rfl ?_
          exact L_X2_lay_83 C hdm hA hR0 hce hR h0 h1 ih _ _ _ hq
        · refine x_aload_n C 3 dX2_lay_64 rfl ?_
          refine x_getr (K := 7) (k := 5) (o2 := o1 + 3) C h1 (by decide) cl_X6 (by decide) ⟨rfl, rfl, rfl⟩ fl_X2_58 rfl dX2_lay_65 ?_
          refine x_iload_n C 4 dX2_lay_68 rfl ?_
          refine x_callVi (K := 6) (rm := rmv 0 0 0 0) (As := [iV (x3)]) (rest := []) C hA hR0 mf_X5_at lk_X2_50 rfl (ik7 h1).2.1 (by decide) ⟨rfl, rfl⟩ ⟨Nat.le_of_ble_eq_true rfl, Nat.le_of_ble_eq_true rfl⟩ rfl rfl (Nat.le_of_ble_eq_true rfl) hce dX2_lay_69 hq (fun _ _ h => c_X5_at g.l g.G hdm (ik7 h1).2.1 h) (fun r5 w4 _ hq => ?_)
          refine x_if_ne (tgt := 83) C dX2_lay_72 (by decide) hq (fun hq => ?_) (fun hq => ?_)
          · refine XG.sub [2, 3, 0, 4] rfl ?_
            exact L_X2_lay_83 C hdm hA hR0 hce hR h0 h1 ih _ _ _ hq
          · refine x_aload_n C 2 dX2_lay_75 rfl ?_
            refine x_aload_n C 3 dX2_lay_76 rfl ?_
            refine x_iload C 1 dX2_lay_77 rfl ?_
            refine x_iload_n C 0 dX2_lay_79 rfl ?_
            refine x_callVv (K := 3) (rm := rmv 2 50 0 0) (As := [.ref (d.ad (o1)), iV (x2), iV (x2 + r2)]) (rest := []) C hA hR0 mf_X2_centre lk_X2_61 rfl h0 (by decide) ⟨rfl, rfl⟩ ⟨Nat.le_of_ble_eq_true rfl, Nat.le_of_ble_eq_true rfl⟩ rfl rfl (Nat.le_of_ble_eq_true rfl) hce dX2_lay_80 hq (fun _ h => c_X2_centre g.l g.G hdm h0 h1 h) (fun w6 _ hq => ?_)
            refine XG.sub [2, 3, 0, 4] rfl ?_
            exact L_X2_lay_83 C hdm hA hR0 hce hR h0 h1 ih _ _ _ hq
set_option maxRecDepth 100000 in
set_option maxHeartbeats 4000000 in
theorem L_X2_lay {g : Cx} {d : Dl} (C : CX g cX2_lay 5 none RX2) (hdm : g.dm = 0) (hA : ∀ q : Nat, g.s.heap.size ≤ q → g.A q) (hR0 : g.R = rmv 3 75 0 0) (hce : d.ce ≤ g.R.cells ∧ d.so ≤ g.R.slots) {res : Wd} (hR : rtV g d cX2_lay res) {o0 : Nat} {o1 : Nat} (h0 : isK d.na g.dm 3 o0) (h1 : isK d.na g.dm 7 o1)  (w : Wd) (hq : p_X2_lay o0 o1 w = some res) : XG g d (hP g d w) [(0, .ref (d.ad (o0))), (1, .ref (d.ad (o1)))] [] 0 := by
  refine x_aload_n C 0 dX2_lay_0 rfl ?_
  refine x_iconst C dX2_lay_1 ?_
  refine x_put (K := 3) (k := 4) C h0 (by decide) cl_X2 (by decide) ⟨rfl, rfl, rfl, rfl⟩ fl_X2_29 ⟨rfl, rfl⟩ dX2_lay_2 ?_
  refine x_aload_n C 0 dX2_lay_5 rfl ?_
  refine x_iconst C dX2_lay_6 ?_
  refine x_put (K := 3) (k := 6) C h0 (by decide) cl_X2 (by decide) ⟨rfl, rfl, rfl, rfl⟩ fl_X2_36 ⟨rfl, rfl⟩ dX2_lay_7 ?_
  refine nmW hq (fun w1 ew1 hq => ?_)
  rw [← ew1]
  refine x_aload_n C 0 dX2_lay_10 rfl ?_
  refine x_iconst C dX2_lay_11 ?_
  refine x_put (K := 3) (k := 7) C h0 (by decide) cl_X2 (by decide) ⟨rfl, rfl, rfl, rfl⟩ fl_X2_39 ⟨rfl, rfl⟩ dX2_lay_12 ?_
  refine x_iconst C dX2_lay_15 ?_
  refine x_istore_n (lv' := [(2, iV (0)), (0, .ref (d.ad (o0))), (1, .ref (d.ad (o1)))]) C dX2_lay_16 (by decide) rfl ?_
  refine x_iconst C dX2_lay_17 ?_
  refine x_istore_n (lv' := [(3, iV (0)), (2, iV (0)), (0, .ref (d.ad (o0))), (1, .ref (d.ad (o1)))]) C dX2_lay_18 (by decide) rfl ?_
  refine XG.sub [2, 3, 1, 0] rfl ?_
  exact L_X2_lay_19 C hdm hA hR0 hce hR h0 h1 _ _ _ _ hq
set_option maxRecDepth 100000 in
set_option maxHeartbeats 4000000 in
theorem c_X2_lay (l : Launch) (G : Gd) {dm na : Nat} {ad : Nat → Nat} (hdm : dm = 0) {o0 : Nat} {o1 : Nat} {w w' : Wd}  (h0 : isK na dm 3 o0) (h1 : isK na dm 7 o1) (hq : p_X2_lay o0 o1 w = some w') : mV l yX2_lay cX2_lay 5 none (rmv 3 75 0 0) G dm na ad [.ref (ad (o0)), .ref (ad (o1))] w w' := by
  refine met_V [(0, .ref (ad (o0))), (1, .ref (ad (o1)))] (by decide) (Nat.le_of_ble_eq_true rfl) rfl rfl (fun g d C S hR => ?_)
  obtain ⟨rfl, hR0, rfl, rfl, rfl, hA⟩ := S
  exact L_X2_lay (d := (na, ad, 0, 0)) C hdm hA hR0 ⟨Nat.zero_le _, Nat.zero_le _⟩ hR h0 h1  w hq
set_option maxRecDepth 100000 in
set_option maxHeartbeats 4000000 in
theorem L_X6_byteOf {g : Cx} {d : Dl} (C : CX g cX6_byteOf 3 (some .int) RX6) (hdm : g.dm = 0) (hA : ∀ q : Nat, g.s.heap.size ≤ q → g.A q) (hR0 : g.R = rmv 1 21 0 0) (hce : d.ce ≤ g.R.cells ∧ d.so ≤ g.R.slots) {res : Int × Wd} (hR : rtI g d cX6_byteOf .int res) {o0 : Nat} (h0 : isK d.na g.dm 7 o0) (x1 : Int) (x2 : Int) (w : Wd) (hq : p_X6_byteOf o0 x1 x2 w = some res) : XG g d (hP g d w) [(0, .ref (d.ad (o0))), (1, iV (x1)), (2, iV (x2))] [] 0 := by
  refine x_aload_n C 0 dX6_byteOf_0 rfl ?_
  refine x_getr (K := 7) (k := 9) (o2 := o0 + 9) C h0 (by decide) cl_X6 (by decide) ⟨rfl, rfl, rfl⟩ fl_X6_45 rfl dX6_byteOf_1 ?_
  refine x_iload_n C 1 dX6_byteOf_4 rfl ?_
  refine x_bipush (v := 12) C dX6_byteOf_5 (by decide +kernel) ?_
  refine x_imul C dX6_byteOf_7 ?_
  refine x_iload_n C 2 dX6_byteOf_8 rfl ?_
  refine x_iadd C dX6_byteOf_9 ?_
  refine x_callVi (K := 6) (rm := rmv 0 0 0 0) (As := [iV ((x1 * 12) + x2)]) (rest := []) C hA hR0 mf_X5_at lk_X6_81 rfl (ik7 h0).2.2.2.2.1 (by decide) ⟨rfl, rfl⟩ ⟨Nat.le_of_ble_eq_true rfl, Nat.le_of_ble_eq_true rfl⟩ rfl rfl (Nat.le_of_ble_eq_true rfl) hce dX6_byteOf_10 hq (fun _ _ h => c_X5_at g.l g.G hdm (ik7 h0).2.2.2.2.1 h) (fun r2 w1 _ hq => ?_)
  exact hR _ _ _ _ hq rfl dX6_byteOf_13
set_option maxRecDepth 100000 in
set_option maxHeartbeats 4000000 in
theorem c_X6_byteOf (l : Launch) (G : Gd) {dm na : Nat} {ad : Nat → Nat} (hdm : dm = 0) {o0 : Nat} {x1 : Int} {x2 : Int} {w w' : Wd} {r : Int} (h0 : isK na dm 7 o0) (hq : p_X6_byteOf o0 x1 x2 w = some (r, w')) : mI l yX6_byteOf cX6_byteOf 3 (some .int) (rmv 1 21 0 0) G dm na ad [.ref (ad (o0)), iV (x1), iV (x2)] w r w' := by
  refine met_I [(0, .ref (ad (o0))), (1, iV (x1)), (2, iV (x2))] (by decide) (Nat.le_of_ble_eq_true rfl) rfl .int rfl (fun g d C S hR => ?_)
  obtain ⟨rfl, hR0, rfl, rfl, rfl, hA⟩ := S
  exact L_X6_byteOf (d := (na, ad, 0, 0)) C hdm hA hR0 ⟨Nat.zero_le _, Nat.zero_le _⟩ hR h0 _ _ w hq
set_option maxRecDepth 100000 in
set_option maxHeartbeats 4000000 in
theorem L_X6_touched {g : Cx} {d : Dl} (C : CX g cX6_touched 5 (some .boolean) RX6) (hdm : g.dm = 0) (hA : ∀ q : Nat, g.s.heap.size ≤ q → g.A q) (hR0 : g.R = rmv 1 21 0 0) (hce : d.ce ≤ g.R.cells ∧ d.so ≤ g.R.slots) {res : Int × Wd} (hR : rtI g d cX6_touched .boolean res) {o0 : Nat} (h0 : isK d.na g.dm 7 o0) (x1 : Int) (x2 : Int) (w : Wd) (hq : p_X6_touched o0 x1 x2 w = some res) : XG g d (hP g d w) [(0, .ref (d.ad (o0))), (1, iV (x1)), (2, iV (x2))] [] 0 := by
  refine x_aload_n C 0 dX6_touched_0 rfl ?_
  refine x_getr (K := 7) (k := 3) (o2 := o0 + 1) C h0 (by decide) cl_X6 (by decide) ⟨rfl, rfl, rfl⟩ fl_X6_26 rfl dX6_touched_1 ?_
  refine x_iload_n C 2 dX6_touched_4 rfl ?_
  refine x_callVi (K := 6) (rm := rmv 0 0 0 0) (As := [iV (x2)]) (rest := []) C hA hR0 mf_X5_at lk_X6_81 rfl (ik7 h0).1 (by decide) ⟨rfl, rfl⟩ ⟨Nat.le_of_ble_eq_true rfl, Nat.le_of_ble_eq_true rfl⟩ rfl rfl (Nat.le_of_ble_eq_true rfl) hce dX6_touched_5 hq (fun _ _ h => c_X5_at g.l g.G hdm (ik7 h0).1 h) (fun r2 w1 _ hq => ?_)
  refine x_istore_n (lv' := [(3, iV (r2)), (0, .ref (d.ad (o0))), (1, iV (x1)), (2, iV (x2))]) C dX6_touched_8 (by decide) rfl ?_
  refine x_iload_n C 0 dX6_touched_9 rfl ?_
  refine x_iconst C dX6_touched_10 ?_
  refine x_ishl C dX6_touched_11 ?_
  refine x_iload_n C 0 dX6_touched_12 rfl ?_
  refine x_iconst C dX6_touched_13 ?_
  refine x_ishr C dX6_touched_14 ?_
  refine x_ior C dX6_touched_15 ?_
  refine x_aload_n C 1 dX6_touched_16 rfl ?_
  refine x_getr (K := 7) (k := 3) (o2 := o0 + 1) C h0 (by decide) cl_X6 (by decide) ⟨rfl, rfl, rfl⟩ fl_X6_26 rfl dX6_touched_17 ?_
  refine x_iload_n C 3 dX6_touched_20 rfl ?_
  refine x_iconst C dX6_touched_21 ?_
  refine x_isub C dX6_touched_22 ?_
  refine x_callVi (K := 6) (rm := rmv 0 0 0 0) (As := [iV (x2 - 1)]) (rest := [iV (or32 (sl32 r2 1) (sr32 r2 1))]) C hA hR0 mf_X5_at lk_X6_81 rfl (ik7 h0).1 (by decide) ⟨rfl, rfl⟩ ⟨Nat.le_of_ble_eq_true rfl, Nat.le_of_ble_eq_true rfl⟩ rfl rfl (Nat.le_of_ble_eq_true rfl) hce dX6_touched_23 hq (fun _ _ h => c_X5_at g.l g.G hdm (ik7 h0).1 h) (fun r4 w3 _ hq => ?_)
  refine x_ior C dX6_touched_26 ?_
  refine x_aload_n C 1 dX6_touched_27 rfl ?_
  refine x_getr (K := 7) (k := 3) (o2 := o0 + 1) C h0 (by decide) cl_X6 (by decide) ⟨rfl, rfl, rfl⟩ fl_X6_26 rfl dX6_touched_28 ?_
  refine x_iload_n C 3 dX6_touched_31 rfl ?_
  refine x_iconst C dX6_touched_32 ?_
  refine x_iadd C dX6_touched_33 ?_
  refine x_callVi (K := 6) (rm := rmv 0 0 0 0) (As := [iV (x2 + 1)]) (rest := [iV (or32 (or32 (sl32 r2 1) (sr32 r2 1)) r4)]) C hA hR0 mf_X5_at lk_X6_81 rfl (ik7 h0).1 (by decide) ⟨rfl, rfl⟩ ⟨Nat.le_of_ble_eq_true rfl, Nat.le_of_ble_eq_true rfl⟩ rfl rfl (Nat.le_of_ble_eq_true rfl) hce dX6_touched_34 hq (fun _ _ h => c_X5_at g.l g.G hdm (ik7 h0).1 h) (fun r6 w5 _ hq => ?_)
  refine x_ior C dX6_touched_37 ?_
  refine x_istore (lv' := [(4, iV (or32 (or32 (or32 (sl32 r2 1) (sr32 r2 1)) r4) r6)), (3, iV (r2)), (0, .ref (d.ad (o0))), (1, iV (x1)), (2, iV (x2))]) C dX6_touched_38 (by decide) rfl ?_
  refine x_iload C 0 dX6_touched_40 rfl ?_
  refine x_iload_n C 3 dX6_touched_42 rfl ?_
  refine x_ishr C dX6_touched_43 ?_
  refine x_iconst C dX6_touched_44 ?_
  refine x_iand C dX6_touched_45 ?_
  refine x_iconst C dX6_touched_46 ?_
  refine x_icmp_ne (tgt := 54) C dX6_touched_47 (by decide) hq (fun hq => ?_) (fun hq => ?_)
  · refine x_iconst C dX6_touched_54 ?_
    exact hR _ _ _ _ hq (by decide +kernel) dX6_touched_55
  · refine x_iconst C dX6_touched_50 ?_
    refine x_goto (tgt := 55) C dX6_touched_51 (by decide) ?_
    exact hR _ _ _ _ hq (by decide +kernel) dX6_touched_55
set_option maxRecDepth 100000 in
set_option maxHeartbeats 4000000 in
theorem c_X6_touched (l : Launch) (G : Gd) {dm na : Nat} {ad : Nat → Nat} (hdm : dm = 0) {o0 : Nat} {x1 : Int} {x2 : Int} {w w' : Wd} {r : Int} (h0 : isK na dm 7 o0) (hq : p_X6_touched o0 x1 x2 w = some (r, w')) : mI l yX6_touched cX6_touched 5 (some .boolean) (rmv 1 21 0 0) G dm na ad [.ref (ad (o0)), iV (x1), iV (x2)] w r w' := by
  refine met_I [(0, .ref (ad (o0))), (1, iV (x1)), (2, iV (x2))] (by decide) (Nat.le_of_ble_eq_true rfl) rfl .boolean rfl (fun g d C S hR => ?_)
  obtain ⟨rfl, hR0, rfl, rfl, rfl, hA⟩ := S
  exact L_X6_touched (d := (na, ad, 0, 0)) C hdm hA hR0 ⟨Nat.zero_le _, Nat.zero_le _⟩ hR h0 _ _ w hq
set_option maxRecDepth 100000 in
set_option maxHeartbeats 4000000 in
theorem L_X6_strokesOn_46 {g : Cx} {d : Dl} (C : CX g cX6_strokesOn 6 (some .int) RX6) (hdm : g.dm = 0) (hA : ∀ q : Nat, g.s.heap.size ≤ q → g.A q) (hR0 : g.R = rmv 2 45 0 0) (hce : d.ce ≤ g.R.cells ∧ d.so ≤ g.R.slots) {res : Int × Wd} (hR : rtI g d cX6_strokesOn .int res) {o0 : Nat} (h0 : isK d.na g.dm 7 o0) (x2 : Int) (x3 : Int) (s0 : Int) (w : Wd) (hq : p_X6_strokesOn_46 o0 x2 x3 s0 w = some res) : XG g d (hP g d w) [(0, .ref (d.ad (o0))), (2, iV (x2)), (3, iV (x3))] [iV (s0)] 46 := by
  refine x_istore (lv' := [(5, iV (s0)), (0, .ref (d.ad (o0))), (2, iV (x2)), (3, iV (x3))]) C dX6_strokesOn_46 (by decide) rfl ?_
  refine x_aload_n C 1 dX6_strokesOn_48 rfl ?_
  refine x_iload_n C 2 dX6_strokesOn_49 rfl ?_
  refine x_iload_n C 3 dX6_strokesOn_50 rfl ?_
  refine x_callVi (K := 7) (rm := rmv 1 21 0 0) (As := [iV (x2), iV (x3)]) (rest := []) C hA hR0 mf_X6_touched lk_X6_115 rfl h0 (by decide) ⟨rfl, rfl⟩ ⟨Nat.le_of_ble_eq_true rfl, Nat.le_of_ble_eq_true rfl⟩ rfl rfl (Nat.le_of_ble_eq_true rfl) hce dX6_strokesOn_51 hq (fun _ _ h => c_X6_touched g.l g.G hdm h0 h) (fun r2 w1 _ hq => ?_)
  refine x_if_eq (tgt := 64) C dX6_strokesOn_54 (by decide) hq (fun hq => ?_) (fun hq => ?_)
  · refine x_iload C 0 dX6_strokesOn_64 rfl ?_
    exact hR _ _ _ _ hq rfl dX6_strokesOn_66
  · refine x_iconst C dX6_strokesOn_57 ?_
    refine x_iload C 0 dX6_strokesOn_58 rfl ?_
    refine x_imul C dX6_strokesOn_60 ?_
    refine x_goto (tgt := 66) C dX6_strokesOn_61 (by decide) ?_
    exact hR _ _ _ _ hq rfl dX6_strokesOn_66
set_option maxRecDepth 100000 in
set_option maxHeartbeats 4000000 in
theorem L_X6_strokesOn_17 {g : Cx} {d : Dl} (C : CX g cX6_strokesOn 6 (some .int) RX6) (hdm : g.dm = 0) (hA : ∀ q : Nat, g.s.heap.size ≤ q → g.A q) (hR0 : g.R = rmv 2 45 0 0) (hce : d.ce ≤ g.R.cells ∧ d.so ≤ g.R.slots) {res : Int × Wd} (hR : rtI g d cX6_strokesOn .int res) {o0 : Nat} (h0 : isK d.na g.dm 7 o0) (x1 : Int) (x2 : Int) (x3 : Int) (s0 : Int) (w : Wd) (hq : p_X6_strokesOn_17 o0 x1 x2 x3 s0 w = some res) : XG g d (hP g d w) [(0, .ref (d.ad (o0))), (1, iV (x1)), (2, iV (x2)), (3, iV (x3))] [iV (s0)] 17 := by
  refine x_istore (lv' := [(4, iV (s0)), (0, .ref (d.ad (o0))), (1, iV (x1)), (2, iV (x2)), (3, iV (x3))]) C dX6_strokesOn_17 (by decide) rfl ?_
  refine x_iload C 0 dX6_strokesOn_19 rfl ?_
  refine x_if_eq (tgt := 35) C dX6_strokesOn_21 (by decide) hq (fun hq => ?_) (fun hq => ?_)
  · refine x_iconst C dX6_strokesOn_35 ?_
    refine x_bipush (v := 7) C dX6_strokesOn_36 (by decide +kernel) ?_
    refine x_iload_n C 2 dX6_strokesOn_38 rfl ?_
    refine x_bipush (v := 97) C dX6_strokesOn_39 (by decide +kernel) ?_
    refine x_isub C dX6_strokesOn_41 ?_
    refine x_imul C dX6_strokesOn_42 ?_
    refine x_iconst C dX6_strokesOn_43 ?_
    refine x_irem C (by decide +kernel) dX6_strokesOn_44 ?_
    refine x_iadd C dX6_strokesOn_45 ?_
    refine XG.sub [1, 3, 4] rfl ?_
    exact L_X6_strokesOn_46 C hdm hA hR0 hce hR h0 _ _ _ _ hq
  · refine x_iconst C dX6_strokesOn_24 ?_
    refine x_iload_n C 2 dX6_strokesOn_25 rfl ?_
    refine x_bipush (v := 48) C dX6_strokesOn_26 (by decide +kernel) ?_
    refine x_isub C dX6_strokesOn_28 ?_
    refine x_iconst C dX6_strokesOn_29 ?_
    refine x_irem C (by decide +kernel) dX6_strokesOn_30 ?_
    refine x_iadd C dX6_strokesOn_31 ?_
    refine x_goto (tgt := 46) C dX6_strokesOn_32 (by decide) ?_
    refine XG.sub [1, 3, 4] rfl ?_
    exact L_X6_strokesOn_46 C hdm hA hR0 hce hR h0 _ _ _ _ hq
set_option maxRecDepth 100000 in
set_option maxHeartbeats 4000000 in
theorem L_X6_strokesOn_16 {g : Cx} {d : Dl} (C : CX g cX6_strokesOn 6 (some .int) RX6) (hdm : g.dm = 0) (hA : ∀ q : Nat, g.s.heap.size ≤ q → g.A q) (hR0 : g.R = rmv 2 45 0 0) (hce : d.ce ≤ g.R.cells ∧ d.so ≤ g.R.slots) {res : Int × Wd} (hR : rtI g d cX6_strokesOn .int res) {o0 : Nat} (h0 : isK d.na g.dm 7 o0) (x1 : Int) (x2 : Int) (x3 : Int) (w : Wd) (hq : p_X6_strokesOn_16 o0 x1 x2 x3 w = some res) : XG g d (hP g d w) [(0, .ref (d.ad (o0))), (1, iV (x1)), (2, iV (x2)), (3, iV (x3))] [] 16 := by
  refine x_iconst C dX6_strokesOn_16 ?_
  exact L_X6_strokesOn_17 C hdm hA hR0 hce hR h0 _ _ _ _ _ hq
set_option maxRecDepth 100000 in
set_option maxHeartbeats 4000000 in
theorem L_X6_strokesOn {g : Cx} {d : Dl} (C : CX g cX6_strokesOn 6 (some .int) RX6) (hdm : g.dm = 0) (hA : ∀ q : Nat, g.s.heap.size ≤ q → g.A q) (hR0 : g.R = rmv 2 45 0 0) (hce : d.ce ≤ g.R.cells ∧ d.so ≤ g.R.slots) {res : Int × Wd} (hR : rtI g d cX6_strokesOn .int res) {o0 : Nat} (h0 : isK d.na g.dm 7 o0) (x1 : Int) (x2 : Int) (x3 : Int) (w : Wd) (hq : p_X6_strokesOn o0 x1 x2 x3 w = some res) : XG g d (hP g d w) [(0, .ref (d.ad (o0))), (1, iV (x1)), (2, iV (x2)), (3, iV (x3))] [] 0 := by
  refine x_iload_n C 1 dX6_strokesOn_0 rfl ?_
  refine x_bipush (v := 48) C dX6_strokesOn_1 (by decide +kernel) ?_
  refine x_icmp_lt (tgt := 16) C dX6_strokesOn_3 (by decide) hq (fun hq => ?_) (fun hq => ?_)
  · exact L_X6_strokesOn_16 C hdm hA hR0 hce hR h0 _ _ _ _ hq
  · refine x_iload_n C 1 dX6_strokesOn_6 rfl ?_
    refine x_bipush (v := 57) C dX6_strokesOn_7 (by decide +kernel) ?_
    refine x_icmp_gt (tgt := 16) C dX6_strokesOn_9 (by decide) hq (fun hq => ?_) (fun hq => ?_)
    · exact L_X6_strokesOn_16 C hdm hA hR0 hce hR h0 _ _ _ _ hq
    · refine x_iconst C dX6_strokesOn_12 ?_
      refine x_goto (tgt := 17) C dX6_strokesOn_13 (by decide) ?_
      exact L_X6_strokesOn_17 C hdm hA hR0 hce hR h0 _ _ _ _ _ hq
set_option maxRecDepth 100000 in
set_option maxHeartbeats 4000000 in
theorem c_X6_strokesOn (l : Launch) (G : Gd) {dm na : Nat} {ad : Nat → Nat} (hdm : dm = 0) {o0 : Nat} {x1 : Int} {x2 : Int} {x3 : Int} {w w' : Wd} {r : Int} (h0 : isK na dm 7 o0) (hq : p_X6_strokesOn o0 x1 x2 x3 w = some (r, w')) : mI l yX6_strokesOn cX6_strokesOn 6 (some .int) (rmv 2 45 0 0) G dm na ad [.ref (ad (o0)), iV (x1), iV (x2), iV (x3)] w r w' := by
  refine met_I [(0, .ref (ad (o0))), (1, iV (x1)), (2, iV (x2)), (3, iV (x3))] (by decide) (Nat.le_of_ble_eq_true rfl) rfl .int rfl (fun g d C S hR => ?_)
  obtain ⟨rfl, hR0, rfl, rfl, rfl, hA⟩ := S
  exact L_X6_strokesOn (d := (na, ad, 0, 0)) C hdm hA hR0 ⟨Nat.zero_le _, Nat.zero_le _⟩ hR h0 _ _ _ w hq
set_option maxRecDepth 100000 in
set_option maxHeartbeats 4000000 in
theorem L_X2_listLetters_119 {g : Cx} {d : Dl} (C : CX g cX2_listLetters 6 none RX2) (hdm : g.dm = 0) (hA : ∀ q : Nat, g.s.heap.size ≤ q → g.A q) (hR0 : g.R = rmv 3 70 0 0) (hce : d.ce ≤ g.R.cells ∧ d.so ≤ g.R.slots) {res : Wd} (hR : rtV g d cX2_listLetters res) {o0 : Nat} {o1 : Nat} (h0 : isK d.na g.dm 3 o0) (h1 : isK d.na g.dm 7 o1) {k7 : Int → Wd → Option (Wd)} (hk7 : ∀ (x2 : Int) (w : Wd), k7 x2 w = some res → XG g d (hP g d w) [(0, .ref (d.ad (o0))), (1, .ref (d.ad (o1))), (2, iV (x2))] [] 7) (x2 : Int) (w : Wd) (hq : p_X2_listLetters_119 o0 o1 k7 x2 w = some res) : XG g d (hP g d w) [(0, .ref (d.ad (o0))), (1, .ref (d.ad (o1))), (2, iV (x2))] [] 119 := by
  refine x_iinc (lv' := [(2, iV (x2 + 1)), (0, .ref (d.ad (o0))), (1, .ref (d.ad (o1)))]) C 2 dX2_listLetters_119 rfl (by decide) rfl ?_
  refine x_goto (tgt := 7) C dX2_listLetters_122 (by decide) ?_
  refine XG.sub [1, 2, 0] rfl ?_
  exact hk7 _ _ hq
set_option maxRecDepth 100000 in
set_option maxHeartbeats 4000000 in
theorem L_X2_listLetters_27 {g : Cx} {d : Dl} (C : CX g cX2_listLetters 6 none RX2) (hdm : g.dm = 0) (hA : ∀ q : Nat, g.s.heap.size ≤ q → g.A q) (hR0 : g.R = rmv 3 70 0 0) (hce : d.ce ≤ g.R.cells ∧ d.so ≤ g.R.slots) {res : Wd} (hR : rtV g d cX2_listLetters res) {o0 : Nat} {o1 : Nat} (h0 : isK d.na g.dm 3 o0) (h1 : isK d.na g.dm 7 o1) {k7 : Int → Wd → Option (Wd)} (hk7 : ∀ (x2 : Int) (w : Wd), k7 x2 w = some res → XG g d (hP g d w) [(0, .ref (d.ad (o0))), (1, .ref (d.ad (o1))), (2, iV (x2))] [] 7) : ∀ (n : Nat) (x2 : Int) (x3 : Int) (x4 : Int) (w : Wd), p_X2_listLetters_27 o0 o1 k7 n x2 x3 x4 w = some res → XG g d (hP g d w) [(0, .ref (d.ad (o0))), (1, .ref (d.ad (o1))), (2, iV (x2)), (3, iV (x3)), (4, iV (x4))] [] 27 := by
  intro n
  induction n with
  | zero => intro x2 x3 x4 w  hq; exact nomatch (show none = some _ from hq)
  | succ n ih =>
    intro x2 x3 x4 w  hq
    refine x_iload C 4 dX2_listLetters_27 rfl ?_
    refine x_iload_n C 3 dX2_listLetters_29 rfl ?_
    refine x_icmp_ge (tgt := 119) C dX2_listLetters_30 (by decide) hq (fun hq => ?_) (fun hq => ?_)
    · refine XG.sub [0, 1, 2] rfl ?_
      exact L_X2_listLetters_119 C hdm hA hR0 hce hR h0 h1 hk7 _ _ hq
    · refine x_aload_n C 0 dX2_listLetters_33 rfl ?_
      refine x_getr (K := 3) (k := 1) (o2 := o0 + 3) C h0 (by decide) cl_X2 (by decide) ⟨rfl, rfl, rfl⟩ fl_X2_20 rfl dX2_listLetters_34 ?_
      refine x_iload_n C 2 dX2_listLetters_37 rfl ?_
      refine x_callVi (K := 6) (rm := rmv 0 0 0 0) (As := [iV (x2)]) (rest := []) C hA hR0 mf_X5_at lk_X2_50 rfl (ik3 h0).2.1 (by decide) ⟨rfl, rfl⟩ ⟨Nat.le_of_ble_eq_true rfl, Nat.le_of_ble_eq_true rfl⟩ rfl rfl (Nat.le_of_ble_eq_true rfl) hce dX2_listLetters_38 hq (fun _ _ h => c_X5_at g.l g.G hdm (ik3 h0).2.1 h) (fun r2 w1 _ hq => ?_)
      refine x_iload C 4 dX2_listLetters_41 rfl ?_
      refine x_iadd C dX2_listLetters_43 ?_
      refine x_istore (lv' := [(5, iV (r2 + x4)), (0, .ref (d.ad (o0))), (1, .ref (d.ad (o1))), (2, iV (x2)), (3, iV (x3)), (4, iV (x4))]) C dX2_listLetters_44 (by decide) rfl ?_
      refine x_aload_n C 1 dX2_listLetters_46 rfl ?_
      refine x_getr (K := 3) (k := 2) (o2 := o0 + 5) C h0 (by decide) cl_X2 (by decide) ⟨rfl, rfl, rfl⟩ fl_X2_23 rfl dX2_listLetters_47 ?_
      refine x_aload_n C 1 dX2_listLetters_50 rfl ?_
      refine x_get (K := 3) (k := 5) C h0 (by decide) cl_X2 (by decide) ⟨rfl, rfl, rfl⟩ fl_X2_33 dX2_listLetters_51 ?_
      refine x_bipush (v := 100) C dX2_listLetters_54 (by decide +kernel) ?_
      refine x_aload_n C 1 dX2_listLetters_56 rfl ?_
      refine x_getr (K := 3) (k := 0) (o2 := o0 + 1) C h0 (by decide) cl_X2 (by decide) ⟨rfl, rfl, rfl⟩ fl_X2_14 rfl dX2_listLetters_57 ?_
      refine x_iload_n C 3 dX2_listLetters_60 rfl ?_
      refine x_callVi (K := 6) (rm := rmv 0 0 0 0) (As := [iV (x2)]) (rest := [iV (100), iV (gF w1 o0 5), .ref (d.ad (o0 + 5))]) C hA hR0 mf_X5_at lk_X2_50 rfl (ik3 h0).1 (by decide) ⟨rfl, rfl⟩ ⟨Nat.le_of_ble_eq_true rfl, Nat.le_of_ble_eq_true rfl⟩ rfl rfl (Nat.le_of_ble_eq_true rfl) hce dX2_listLetters_61 hq (fun _ _ h => c_X5_at g.l g.G hdm (ik3 h0).1 h) (fun r4 w3 _ hq => ?_)
      refine x_imul C dX2_listLetters_64 ?_
      refine x_iload C 0 dX2_listLetters_65 rfl ?_
      refine x_iadd C dX2_listLetters_67 ?_
      refine x_callVv (K := 6) (rm := rmv 0 0 0 0) (As := [iV (gF w1 o0 5), iV ((100 * r4) + (r2 + x4))]) (rest := []) C hA hR0 mf_X5_put lk_X2_71 rfl (ik3 h0).2.2.1 (by decide) ⟨rfl, rfl⟩ ⟨Nat.le_of_ble_eq_true rfl, Nat.le_of_ble_eq_true rfl⟩ rfl rfl (Nat.le_of_ble_eq_true rfl) hce dX2_listLetters_68 hq (fun _ h => c_X5_put g.l g.G hdm (ik3 h0).2.2.1 h) (fun w5 _ hq => ?_)
      refine x_aload_n C 1 dX2_listLetters_71 rfl ?_
      refine x_getr (K := 3) (k := 3) (o2 := o0 + 7) C h0 (by decide) cl_X2 (by decide) ⟨rfl, rfl, rfl⟩ fl_X2_26 rfl dX2_listLetters_72 ?_
      refine x_aload_n C 1 dX2_listLetters_75 rfl ?_
      refine x_get (K := 3) (k := 5) C h0 (by decide) cl_X2 (by decide) ⟨rfl, rfl, rfl⟩ fl_X2_33 dX2_listLetters_76 ?_
      refine x_aload_n C 2 dX2_listLetters_79 rfl ?_
      refine x_aload_n C 2 dX2_listLetters_80 rfl ?_
      refine x_iload_n C 3 dX2_listLetters_81 rfl ?_
      refine x_iload C 5 dX2_listLetters_82 rfl ?_
      refine x_callVi (K := 7) (rm := rmv 1 21 0 0) (As := [iV (x2), iV (x4)]) (rest := [.ref (d.ad (o1)), iV (gF w5 o0 5), .ref (d.ad (o0 + 7))]) C hA hR0 mf_X6_byteOf lk_X2_98 rfl h1 (by decide) ⟨rfl, rfl⟩ ⟨Nat.le_of_ble_eq_true rfl, Nat.le_of_ble_eq_true rfl⟩ rfl rfl (Nat.le_of_ble_eq_true rfl) hce dX2_listLetters_84 hq (fun _ _ h => c_X6_byteOf g.l g.G hdm h1 h) (fun r7 w6 _ hq => ?_)
      refine x_iload C 0 dX2_listLetters_87 rfl ?_
      refine x_aload_n C 1 dX2_listLetters_89 rfl ?_
      refine x_getr (K := 3) (k := 0) (o2 := o0 + 1) C h0 (by decide) cl_X2 (by decide) ⟨rfl, rfl, rfl⟩ fl_X2_14 rfl dX2_listLetters_90 ?_
      refine x_iload_n C 3 dX2_listLetters_93 rfl ?_
      refine x_callVi (K := 6) (rm := rmv 0 0 0 0) (As := [iV (x2)]) (rest := [iV (r2 + x4), iV (r7), .ref (d.ad (o1)), iV (gF w5 o0 5), .ref (d.ad (o0 + 7))]) C hA hR0 mf_X5_at lk_X2_50 rfl (ik3 h0).1 (by decide) ⟨rfl, rfl⟩ ⟨Nat.le_of_ble_eq_true rfl, Nat.le_of_ble_eq_true rfl⟩ rfl rfl (Nat.le_of_ble_eq_true rfl) hce dX2_listLetters_94 hq (fun _ _ h => c_X5_at g.l g.G hdm (ik3 h0).1 h) (fun r9 w8 _ hq => ?_)
      refine x_callVi (K := 7) (rm := rmv 2 45 0 0) (As := [iV (r7), iV (r2 + x4), iV (r9)]) (rest := [iV (gF w5 o0 5), .ref (d.ad (o0 + 7))]) C hA hR0 mf_X6_strokesOn lk_X2_101 rfl h1 (by decide) ⟨rfl, rfl⟩ ⟨Nat.le_of_ble_eq_true rfl, Nat.le_of_ble_eq_true rfl⟩ rfl rfl (Nat.le_of_ble_eq_true rfl) hce dX2_listLetters_97 hq (fun _ _ h => c_X6_strokesOn g.l g.G hdm h1 h) (fun r11 w10 _ hq => ?_)
      refine x_callVv (K := 6) (rm := rmv 0 0 0 0) (As := [iV (gF w5 o0 5), iV (r11)]) (rest := []) C hA hR0 mf_X5_put lk_X2_71 rfl (ik3 h0).2.2.2 (by decide) ⟨rfl, rfl⟩ ⟨Nat.le_of_ble_eq_true rfl, Nat.le_of_ble_eq_true rfl⟩ rfl rfl (Nat.le_of_ble_eq_true rfl) hce dX2_listLetters_100 hq (fun _ h => c_X5_put g.l g.G hdm (ik3 h0).2.2.2 h) (fun w12 _ hq => ?_)
      refine x_aload_n C 1 dX2_listLetters_103 rfl ?_
      refine x_dup C rfl dX2_listLetters_104 ?_
      refine x_get (K := 3) (k := 5) C h0 (by decide) cl_X2 (by decide) ⟨rfl, rfl, rfl⟩ fl_X2_33 dX2_listLetters_105 ?_
      refine x_iconst C dX2_listLetters_108 ?_
      refine x_iadd C dX2_listLetters_109 ?_
      refine x_put (K := 3) (k := 5) C h0 (by decide) cl_X2 (by decide) ⟨rfl, rfl, rfl, rfl⟩ fl_X2_33 ⟨rfl, rfl⟩ dX2_listLetters_110 ?_
      refine x_iinc (lv' := [(4, iV (x4 + 1)), (5, iV (r2 + x4)), (0, .ref (d.ad (o0))), (1, .ref (d.ad (o1))), (2, iV (x2)), (3, iV (x3))]) C 5 dX2_listLetters_113 rfl (by decide) rfl ?_
      refine x_goto (tgt := 27) C dX2_listLetters_116 (by decide) ?_
      refine XG.sub [2, 3, 4, 5, 0] rfl ?_
      exact ih _ _ _ _ hq
set_option maxRecDepth 100000 in
set_option maxHeartbeats 4000000 in
theorem L_X2_listLetters_7 {g : Cx} {d : Dl} (C : CX g cX2_listLetters 6 none RX2) (hdm : g.dm = 0) (hA : ∀ q : Nat, g.s.heap.size ≤ q → g.A q) (hR0 : g.R = rmv 3 70 0 0) (hce : d.ce ≤ g.R.cells ∧ d.so ≤ g.R.slots) {res : Wd} (hR : rtV g d cX2_listLetters res) {o0 : Nat} {o1 : Nat} (h0 : isK d.na g.dm 3 o0) (h1 : isK d.na g.dm 7 o1) : ∀ (n : Nat) (x2 : Int) (w : Wd), p_X2_listLetters_7 o0 o1 n x2 w = some res → XG g d (hP g d w) [(0, .ref (d.ad (o0))), (1, .ref (d.ad (o1))), (2, iV (x2))] [] 7 := by
  intro n
  induction n with
  | zero => intro x2 w  hq; exact nomatch (show none = some _ from hq)
  | succ n ih =>
    intro x2 w  hq
    refine x_iload_n C 2 dX2_listLetters_7 rfl ?_
    refine x_aload_n C 0 dX2_listLetters_8 rfl ?_
    refine x_get (K := 3) (k := 4) C h0 (by decide) cl_X2 (by decide) ⟨rfl, rfl, rfl⟩ fl_X2_29 dX2_listLetters_9 ?_
    refine x_icmp_ge (tgt := 125) C dX2_listLetters_12 (by decide) hq (fun hq => ?_) (fun hq => ?_)
    · exact hR _ _ _ hq dX2_listLetters_125
    · refine x_aload_n C 1 dX2_listLetters_15 rfl ?_
      refine x_getr (K := 7) (k := 8) (o2 := o1 + 7) C h1 (by decide) cl_X6 (by decide) ⟨rfl, rfl, rfl⟩ fl_X2_79 rfl dX2_listLetters_16 ?_
      refine x_iload_n C 2 dX2_listLetters_19 rfl ?_
      refine x_callVi (K := 6) (rm := rmv 0 0 0 0) (As := [iV (x2)]) (rest := []) C hA hR0 mf_X5_at lk_X2_50 rfl (ik7 h1).2.2.2.1 (by decide) ⟨rfl, rfl⟩ ⟨Nat.le_of_ble_eq_true rfl, Nat.le_of_ble_eq_true rfl⟩ rfl rfl (Nat.le_of_ble_eq_true rfl) hce dX2_listLetters_20 hq (fun _ _ h => c_X5_at g.l g.G hdm (ik7 h1).2.2.2.1 h) (fun r2 w1 _ hq => ?_)
      refine x_istore_n (lv' := [(3, iV (r2)), (0, .ref (d.ad (o0))), (1, .ref (d.ad (o1))), (2, iV (x2))]) C dX2_listLetters_23 (by decide) rfl ?_
      refine x_iconst C dX2_listLetters_24 ?_
      refine x_istore (lv' := [(4, iV (0)), (3, iV (r2)), (0, .ref (d.ad (o0))), (1, .ref (d.ad (o1))), (2, iV (x2))]) C dX2_listLetters_25 (by decide) rfl ?_
      refine XG.sub [2, 3, 4, 1, 0] rfl ?_
      exact L_X2_listLetters_27 C hdm hA hR0 hce hR h0 h1 ih _ _ _ _ _ hq
set_option maxRecDepth 100000 in
set_option maxHeartbeats 4000000 in
theorem L_X2_listLetters {g : Cx} {d : Dl} (C : CX g cX2_listLetters 6 none RX2) (hdm : g.dm = 0) (hA : ∀ q : Nat, g.s.heap.size ≤ q → g.A q) (hR0 : g.R = rmv 3 70 0 0) (hce : d.ce ≤ g.R.cells ∧ d.so ≤ g.R.slots) {res : Wd} (hR : rtV g d cX2_listLetters res) {o0 : Nat} {o1 : Nat} (h0 : isK d.na g.dm 3 o0) (h1 : isK d.na g.dm 7 o1)  (w : Wd) (hq : p_X2_listLetters o0 o1 w = some res) : XG g d (hP g d w) [(0, .ref (d.ad (o0))), (1, .ref (d.ad (o1)))] [] 0 := by
  refine x_aload_n C 0 dX2_listLetters_0 rfl ?_
  refine x_iconst C dX2_listLetters_1 ?_
  refine x_put (K := 3) (k := 5) C h0 (by decide) cl_X2 (by decide) ⟨rfl, rfl, rfl, rfl⟩ fl_X2_33 ⟨rfl, rfl⟩ dX2_listLetters_2 ?_
  refine x_iconst C dX2_listLetters_5 ?_
  refine x_istore_n (lv' := [(2, iV (0)), (0, .ref (d.ad (o0))), (1, .ref (d.ad (o1)))]) C dX2_listLetters_6 (by decide) rfl ?_
  refine XG.sub [1, 2, 0] rfl ?_
  exact L_X2_listLetters_7 C hdm hA hR0 hce hR h0 h1 _ _ _ hq
set_option maxRecDepth 100000 in
set_option maxHeartbeats 4000000 in
theorem c_X2_listLetters (l : Launch) (G : Gd) {dm na : Nat} {ad : Nat → Nat} (hdm : dm = 0) {o0 : Nat} {o1 : Nat} {w w' : Wd}  (h0 : isK na dm 3 o0) (h1 : isK na dm 7 o1) (hq : p_X2_listLetters o0 o1 w = some w') : mV l yX2_listLetters cX2_listLetters 6 none (rmv 3 70 0 0) G dm na ad [.ref (ad (o0)), .ref (ad (o1))] w w' := by
  refine met_V [(0, .ref (ad (o0))), (1, .ref (ad (o1)))] (by decide) (Nat.le_of_ble_eq_true rfl) rfl rfl (fun g d C S hR => ?_)
  obtain ⟨rfl, hR0, rfl, rfl, rfl, hA⟩ := S
  exact L_X2_listLetters (d := (na, ad, 0, 0)) C hdm hA hR0 ⟨Nat.zero_le _, Nat.zero_le _⟩ hR h0 h1  w hq
set_option maxRecDepth 100000 in
set_option maxHeartbeats 4000000 in
theorem L_X8_layAnew {g : Cx} {d : Dl} (C : CX g cX8_layAnew 1 none RX8) (hdm : g.dm = 0) (hA : ∀ q : Nat, g.s.heap.size ≤ q → g.A q) (hR0 : g.R = rmv 4 99 0 0) (hce : d.ce ≤ g.R.cells ∧ d.so ≤ g.R.slots) {res : Wd} (hR : rtV g d cX8_layAnew res)  (w : Wd) (hq : p_X8_layAnew  w = some res) : XG g d (hP g d w) [(0, .ref (d.ad (1)))] [] 0 := by
  refine x_aload_n C 0 dX8_layAnew_0 rfl ?_
  refine x_getr (K := 9) (k := 5) (o2 := 10) C (isK_lit hdm rfl rfl) (by decide) cl_X8 (by decide) ⟨rfl, rfl, rfl⟩ fl_X8_49 rfl dX8_layAnew_1 ?_
  refine x_aload_n C 0 dX8_layAnew_4 rfl ?_
  refine x_getr (K := 9) (k := 4) (o2 := 100) C (isK_lit hdm rfl rfl) (by decide) cl_X8 (by decide) ⟨rfl, rfl, rfl⟩ fl_X8_42 rfl dX8_layAnew_5 ?_
  refine x_callVv (K := 3) (rm := rmv 3 75 0 0) (As := [.ref (d.ad (100))]) (rest := []) C hA hR0 mf_X2_lay lk_X8_315 rfl (isK_lit hdm rfl rfl) (by decide) ⟨rfl, rfl⟩ ⟨Nat.le_of_ble_eq_true rfl, Nat.le_of_ble_eq_true rfl⟩ rfl rfl (Nat.le_of_ble_eq_true rfl) hce dX8_layAnew_8 hq (fun _ h => c_X2_lay g.l g.G hdm (isK_lit hdm rfl rfl) (isK_lit hdm rfl rfl) h) (fun w1 _ hq => ?_)
  refine x_aload_n C 0 dX8_layAnew_11 rfl ?_
  refine x_getr (K := 9) (k := 5) (o2 := 10) C (isK_lit hdm rfl rfl) (by decide) cl_X8 (by decide) ⟨rfl, rfl, rfl⟩ fl_X8_49 rfl dX8_layAnew_12 ?_
  refine x_aload_n C 0 dX8_layAnew_15 rfl ?_
  refine x_getr (K := 9) (k := 4) (o2 := 100) C (isK_lit hdm rfl rfl) (by decide) cl_X8 (by decide) ⟨rfl, rfl, rfl⟩ fl_X8_42 rfl dX8_layAnew_16 ?_
  refine x_callVv (K := 3) (rm := rmv 3 70 0 0) (As := [.ref (d.ad (100))]) (rest := []) C hA hR0 mf_X2_listLetters lk_X8_336 rfl (isK_lit hdm rfl rfl) (by decide) ⟨rfl, rfl⟩ ⟨Nat.le_of_ble_eq_true rfl, Nat.le_of_ble_eq_true rfl⟩ rfl rfl (Nat.le_of_ble_eq_true rfl) hce dX8_layAnew_19 hq (fun _ h => c_X2_listLetters g.l g.G hdm (isK_lit hdm rfl rfl) (isK_lit hdm rfl rfl) h) (fun w2 _ hq => ?_)
  exact hR _ _ _ hq dX8_layAnew_22
set_option maxRecDepth 100000 in
set_option maxHeartbeats 4000000 in
theorem c_X8_layAnew (l : Launch) (G : Gd) {dm na : Nat} {ad : Nat → Nat} (hdm : dm = 0)  {w w' : Wd}   (hq : p_X8_layAnew  w = some w') : mV l yX8_layAnew cX8_layAnew 1 none (rmv 4 99 0 0) G dm na ad [.ref (ad (1))] w w' := by
  refine met_V [(0, .ref (ad (1)))] (by decide) (Nat.le_of_ble_eq_true rfl) rfl rfl (fun g d C S hR => ?_)
  obtain ⟨rfl, hR0, rfl, rfl, rfl, hA⟩ := S
  exact L_X8_layAnew (d := (na, ad, 0, 0)) C hdm hA hR0 ⟨Nat.zero_le _, Nat.zero_le _⟩ hR   w hq
set_option maxRecDepth 100000 in
set_option maxHeartbeats 4000000 in
theorem L_X8_settle {g : Cx} {d : Dl} (C : CX g cX8_settle 1 none RX8) (hdm : g.dm = 0) (hA : ∀ q : Nat, g.s.heap.size ≤ q → g.A q) (hR0 : g.R = rmv 5 119 12 834) (hce : d.ce + 12 ≤ 12 ∧ d.so + 834 ≤ 834) {na0 : Nat} {ad0 : Nat → Nat} {res : Rz} (hT : thC g na0 ad0 12 834 res) (hR : RGV g na0 ad0 cX8_settle 12 834 res) (hag : AG na0 ad0 d)  (w : Wd) (hq : p_X8_settle  d.na w = some res) : XG g d (hP g d w) [(0, .ref (d.ad (1)))] [] 0 := by
  refine x_aload_n C 0 dX8_settle_0 rfl ?_
  refine x_getr (K := 9) (k := 9) (o2 := 31) C (isK_lit hdm rfl rfl) (by decide) cl_X8 (by decide) ⟨rfl, rfl, rfl⟩ fl_X8_69 rfl dX8_settle_1 ?_
  refine x_aload_n C 0 dX8_settle_4 rfl ?_
  refine x_getr (K := 9) (k := 4) (o2 := 100) C (isK_lit hdm rfl rfl) (by decide) cl_X8 (by decide) ⟨rfl, rfl, rfl⟩ fl_X8_42 rfl dX8_settle_5 ?_
  refine x_gcallV (K := 5) (rm := rmv 3 65 12 834) (mc' := 12) (ms' := 834) (As := [.ref (d.ad (100))]) (rest := []) C hA hR0 mf_X4_remember lk_X8_333 rfl (isK_lit hdm rfl rfl) (by decide) ⟨rfl, rfl⟩ ⟨Nat.le_of_ble_eq_true rfl, Nat.le_of_ble_eq_true rfl⟩ rfl rfl (Nat.le_of_ble_eq_true rfl) (gcc hR0 hce (by decide) (by decide)).1 hag (gcc hR0 hce (by decide) (by decide)).2 dX8_settle_8 hR.2 hq (fun _ h => c_X4_remember g.l g.G hT.2.1 hdm (isK_lit hdm rfl rfl) h) (fun r1 d4 w3 g5 hc1 hc2 hq => ?_)
  try rw [agr g5 (K := 9) (isK_lit hdm rfl rfl) (by decide)]
  have hag := hag.trans g5
  have hce : d4.ce + 0 ≤ 12 ∧ d4.so + 0 ≤ 834 := ⟨by omega, by omega⟩
  refine x_aload_n C 0 dX8_settle_11 rfl ?_
  refine x_getr (K := 9) (k := 4) (o2 := 100) C (isK_lit hdm rfl rfl) (by decide) cl_X8 (by decide) ⟨rfl, rfl, rfl⟩ fl_X8_42 rfl dX8_settle_12 ?_
  refine x_aload_n C 0 dX8_settle_15 rfl ?_
  refine x_getr (K := 9) (k := 6) (o2 := 116) C (isK_lit hdm rfl rfl) (by decide) cl_X8 (by decide) ⟨rfl, rfl, rfl⟩ fl_X8_53 rfl dX8_settle_16 ?_
  refine x_callVv (K := 7) (rm := rmv 2 44 0 0) (As := [.ref (d4.ad (116))]) (rest := []) C hA hR0 mf_X6_copy lk_X8_241 rfl (isK_lit hdm rfl rfl) (by decide) ⟨rfl, rfl⟩ ⟨Nat.le_of_ble_eq_true rfl, Nat.le_of_ble_eq_true rfl⟩ rfl rfl (Nat.le_of_ble_eq_true rfl) (gce hR0 hce) dX8_settle_19 hq (fun _ h => c_X6_copy g.l g.G hdm (isK_lit hdm rfl rfl) (isK_lit hdm rfl rfl) h) (fun w6 _ hq => ?_)
  refine x_aload_n C 0 dX8_settle_22 rfl ?_
  refine x_callVv (K := 9) (rm := rmv 4 99 0 0) (As := []) (rest := []) C hA hR0 mf_X8_layAnew lk_X8_297 rfl (isK_lit hdm rfl rfl) (by decide) ⟨rfl, rfl⟩ ⟨Nat.le_of_ble_eq_true rfl, Nat.le_of_ble_eq_true rfl⟩ rfl rfl (Nat.le_of_ble_eq_true rfl) (gce hR0 hce) dX8_settle_23 hq (fun _ h => c_X8_layAnew g.l g.G hdm  h) (fun w7 _ hq => ?_)
  exact hR.1 _ _ _ _ hag (gcd hce) hq dX8_settle_26
set_option maxRecDepth 100000 in
set_option maxHeartbeats 4000000 in
theorem c_X8_settle (l : Launch) (G : Gd) (hfl : l.stackTraces = false) {dm na : Nat} {ad : Nat → Nat} (hdm : dm = 0)  {w : Wd} {res : Rz}  (hq : p_X8_settle  na w = some res) : mGV l yX8_settle cX8_settle 1 none (rmv 5 119 12 834) G dm na ad [.ref (ad (1))] w res 12 834 := by
  refine met_GV hfl [(0, .ref (ad (1)))] (by decide) (Nat.le_of_ble_eq_true rfl) rfl rfl (fun g d C S hT hR => ?_)
  obtain ⟨rfl, hR0, rfl, rfl, rfl, hA⟩ := S
  exact L_X8_settle (d := (na, ad, 0, 0)) C hdm hA hR0 ⟨Nat.le_of_ble_eq_true rfl, Nat.le_of_ble_eq_true rfl⟩ hT hR (AG.rf (na, ad, 0, 0))   w hq
set_option maxRecDepth 100000 in
set_option maxHeartbeats 4000000 in
theorem L_X8_load {g : Cx} {d : Dl} (C : CX g cX8_load 2 (some .int) RX8) (hdm : g.dm = 0) (hA : ∀ q : Nat, g.s.heap.size ≤ q → g.A q) (hR0 : g.R = rmv 9 210 12 834) (hce : d.ce + 12 ≤ 12 ∧ d.so + 834 ≤ 834) {na0 : Nat} {ad0 : Nat → Nat} {res : Rz} (hT : thC g na0 ad0 12 834 res) (hR : RGI g na0 ad0 cX8_load .int 12 834 res) (hag : AG na0 ad0 d)  (w : Wd) (hq : p_X8_load  d.na w = some res) : XG g d (hP g d w) [(0, .ref (d.ad (1)))] [] 0 := by
  refine x_aload_n C 0 dX8_load_0 rfl ?_
  refine x_getr (K := 9) (k := 3) (o2 := 9) C (isK_lit hdm rfl rfl) (by decide) cl_X8 (by decide) ⟨rfl, rfl, rfl⟩ fl_X8_35 rfl dX8_load_1 ?_
  refine x_aload_n C 0 dX8_load_4 rfl ?_
  refine x_getr (K := 9) (k := 6) (o2 := 116) C (isK_lit hdm rfl rfl) (by decide) cl_X8 (by decide) ⟨rfl, rfl, rfl⟩ fl_X8_53 rfl dX8_load_5 ?_
  refine x_callVi (K := 4) (rm := rmv 8 187 0 0) (As := [.ref (d.ad (116))]) (rest := []) C hA hR0 mf_X3_read lk_X8_90 rfl (isK_lit hdm rfl rfl) (by decide) ⟨rfl, rfl⟩ ⟨Nat.le_of_ble_eq_true rfl, Nat.le_of_ble_eq_true rfl⟩ rfl rfl (Nat.le_of_ble_eq_true rfl) (gce hR0 hce) dX8_load_8 hq (fun _ _ h => c_X3_read g.l g.G hdm (isK_lit hdm rfl rfl) h) (fun r2 w1 _ hq => ?_)
  refine x_istore_n (lv' := [(1, iV (r2)), (0, .ref (d.ad (1)))]) C dX8_load_11 (by decide) rfl ?_
  refine x_aload_n C 1 dX8_load_12 rfl ?_
  refine x_getr (K := 9) (k := 0) (o2 := 2) C (isK_lit hdm rfl rfl) (by decide) cl_X8 (by decide) ⟨rfl, rfl, rfl⟩ fl_X8_14 rfl dX8_load_13 ?_
  refine x_iconst C dX8_load_16 ?_
  refine x_put (K := 1) (k := 1) C (isK_lit hdm rfl rfl) (by decide) cl_X0 (by decide) ⟨rfl, rfl, rfl, rfl⟩ fl_X8_77 ⟨rfl, rfl⟩ dX8_load_17 ?_
  refine x_iload_n C 0 dX8_load_20 rfl ?_
  refine x_if_ne (tgt := 27) C dX8_load_21 (by decide) hq (fun hq => ?_) (fun hq => ?_)
  · refine x_aload_n C 1 dX8_load_27 rfl ?_
    refine x_gcallV (K := 9) (rm := rmv 5 119 12 834) (mc' := 12) (ms' := 834) (As := []) (rest := []) C hA hR0 mf_X8_settle lk_X8_94 rfl (isK_lit hdm rfl rfl) (by decide) ⟨rfl, rfl⟩ ⟨Nat.le_of_ble_eq_true rfl, Nat.le_of_ble_eq_true rfl⟩ rfl rfl (Nat.le_of_ble_eq_true rfl) (gcc hR0 hce (by decide) (by decide)).1 hag (gcc hR0 hce (by decide) (by decide)).2 dX8_load_28 hR.2 hq (fun _ h => c_X8_settle g.l g.G hT.2.1 hdm  h) (fun r3 d6 w5 g7 hc1 hc2 hq => ?_)
    try rw [agr g7 (K := 9) (isK_lit hdm rfl rfl) (by decide)]
    have hag := hag.trans g7
    have hce : d6.ce + 0 ≤ 12 ∧ d6.so + 0 ≤ 834 := ⟨by omega, by omega⟩
    refine x_aload_n C 1 dX8_load_31 rfl ?_
    refine x_getr (K := 9) (k := 5) (o2 := 10) C (isK_lit hdm rfl rfl) (by decide) cl_X8 (by decide) ⟨rfl, rfl, rfl⟩ fl_X8_49 rfl dX8_load_32 ?_
    refine x_get (K := 3) (k := 4) C (isK_lit hdm rfl rfl) (by decide) cl_X2 (by decide) ⟨rfl, rfl, rfl⟩ fl_X8_97 dX8_load_35 ?_
    exact hR.1 _ _ _ _ _ hag (gcd hce) hq rfl dX8_load_38
  · refine x_bipush (v := -4) C dX8_load_24 (by decide +kernel) ?_
    exact hR.1 _ _ _ _ _ hag (gcd hce) hq rfl dX8_load_26
set_option maxRecDepth 100000 in
set_option maxHeartbeats 4000000 in
theorem c_X8_load (l : Launch) (G : Gd) (hfl : l.stackTraces = false) {dm na : Nat} {ad : Nat → Nat} (hdm : dm = 0)  {w : Wd} {res : Rz}  (hq : p_X8_load  na w = some res) : mGI l yX8_load cX8_load 2 (some .int) (rmv 9 210 12 834) G dm na ad [.ref (ad (1))] w res 12 834 := by
  refine met_GI hfl [(0, .ref (ad (1)))] (by decide) (Nat.le_of_ble_eq_true rfl) rfl .int rfl (fun g d C S hT hR => ?_)
  obtain ⟨rfl, hR0, rfl, rfl, rfl, hA⟩ := S
  exact L_X8_load (d := (na, ad, 0, 0)) C hdm hA hR0 ⟨Nat.le_of_ble_eq_true rfl, Nat.le_of_ble_eq_true rfl⟩ hT hR (AG.rf (na, ad, 0, 0))   w hq
set_option maxRecDepth 100000 in
set_option maxHeartbeats 4000000 in
theorem L_X8_errorCode {g : Cx} {d : Dl} (C : CX g cX8_errorCode 1 (some .int) RX8) (hdm : g.dm = 0) (hA : ∀ q : Nat, g.s.heap.size ≤ q → g.A q) (hR0 : g.R = rmv 0 0 0 0) (hce : d.ce ≤ g.R.cells ∧ d.so ≤ g.R.slots) {res : Int × Wd} (hR : rtI g d cX8_errorCode .int res)  (w : Wd) (hq : p_X8_errorCode  w = some res) : XG g d (hP g d w) [(0, .ref (d.ad (1)))] [] 0 := by
  refine x_aload_n C 0 dX8_errorCode_0 rfl ?_
  refine x_getr (K := 9) (k := 3) (o2 := 9) C (isK_lit hdm rfl rfl) (by decide) cl_X8 (by decide) ⟨rfl, rfl, rfl⟩ fl_X8_35 rfl dX8_errorCode_1 ?_
  refine x_get (K := 4) (k := 1) C (isK_lit hdm rfl rfl) (by decide) cl_X3 (by decide) ⟨rfl, rfl, rfl⟩ fl_X8_100 dX8_errorCode_4 ?_
  exact hR _ _ _ _ hq rfl dX8_errorCode_7
set_option maxRecDepth 100000 in
set_option maxHeartbeats 4000000 in
theorem c_X8_errorCode (l : Launch) (G : Gd) {dm na : Nat} {ad : Nat → Nat} (hdm : dm = 0)  {w w' : Wd} {r : Int}  (hq : p_X8_errorCode  w = some (r, w')) : mI l yX8_errorCode cX8_errorCode 1 (some .int) (rmv 0 0 0 0) G dm na ad [.ref (ad (1))] w r w' := by
  refine met_I [(0, .ref (ad (1)))] (by decide) (Nat.le_of_ble_eq_true rfl) rfl .int rfl (fun g d C S hR => ?_)
  obtain ⟨rfl, hR0, rfl, rfl, rfl, hA⟩ := S
  exact L_X8_errorCode (d := (na, ad, 0, 0)) C hdm hA hR0 ⟨Nat.zero_le _, Nat.zero_le _⟩ hR   w hq
set_option maxRecDepth 100000 in
set_option maxHeartbeats 4000000 in
theorem L_J6_bitCount_0f7a4 {g : Cx} {d : Dl} (C : CX g cJ6_bitCount_0f7a4 1 (some .int) RJ6) (hdm : g.dm = 0) (hA : ∀ q : Nat, g.s.heap.size ≤ q → g.A q) (hR0 : g.R = rmv 0 0 0 0) (hce : d.ce ≤ g.R.cells ∧ d.so ≤ g.R.slots) {res : Int × Wd} (hR : rtI g d cJ6_bitCount_0f7a4 .int res) (x0 : Int) (w : Wd) (hq : p_J6_bitCount_0f7a4 x0 w = some res) : XG g d (hP g d w) [(0, iV (x0))] [] 0 := by
  refine x_iload_n C 0 dJ6_bitCount_0f7a4_0 rfl ?_
  refine x_iload_n C 0 dJ6_bitCount_0f7a4_1 rfl ?_
  refine x_iconst C dJ6_bitCount_0f7a4_2 ?_
  refine x_iushr C dJ6_bitCount_0f7a4_3 ?_
  refine x_ldcw (v := 1431655765) C rfl ki_J6_265 dJ6_bitCount_0f7a4_4 ?_
  refine x_iand C dJ6_bitCount_0f7a4_7 ?_
  refine x_isub C dJ6_bitCount_0f7a4_8 ?_
  refine x_istore_n (lv' := [(0, iV (x0 - (an32 (us32 x0 1) 1431655765)))]) C dJ6_bitCount_0f7a4_9 (by decide) rfl ?_
  refine x_iload_n C 0 dJ6_bitCount_0f7a4_10 rfl ?_
  refine x_ldcw (v := 858993459) C rfl ki_J6_266 dJ6_bitCount_0f7a4_11 ?_
  refine x_iand C dJ6_bitCount_0f7a4_14 ?_
  refine x_iload_n C 0 dJ6_bitCount_0f7a4_15 rfl ?_
  refine x_iconst C dJ6_bitCount_0f7a4_16 ?_
  refine x_iushr C dJ6_bitCount_0f7a4_17 ?_
  refine x_ldcw (v := 858993459) C rfl ki_J6_266 dJ6_bitCount_0f7a4_18 ?_
  refine x_iand C dJ6_bitCount_0f7a4_21 ?_
  refine x_iadd C dJ6_bitCount_0f7a4_22 ?_
  refine nmW hq (fun v1 ev1 hq => ?_)
  rw [← ev1]
  refine x_istore_n (lv' := [(0, iV (v1))]) C dJ6_bitCount_0f7a4_23 (by decide) rfl ?_
  refine x_iload_n C 0 dJ6_bitCount_0f7a4_24 rfl ?_
  refine x_iload_n C 0 dJ6_bitCount_0f7a4_25 rfl ?_
  refine x_iconst C dJ6_bitCount_0f7a4_26 ?_
  refine x_iushr C dJ6_bitCount_0f7a4_27 ?_
  refine x_iadd C dJ6_bitCount_0f7a4_28 ?_
  refine x_ldcw (v := 252645135) C rfl ki_J6_267 dJ6_bitCount_0f7a4_29 ?_
  refine x_iand C dJ6_bitCount_0f7a4_32 ?_
  refine x_istore_n (lv' := [(0, iV (an32 (v1 + (us32 v1 4)) 252645135))]) C dJ6_bitCount_0f7a4_33 (by decide) rfl ?_
  refine x_iload_n C 0 dJ6_bitCount_0f7a4_34 rfl ?_
  refine x_iload_n C 0 dJ6_bitCount_0f7a4_35 rfl ?_
  refine x_bipush (v := 8) C dJ6_bitCount_0f7a4_36 (by decide +kernel) ?_
  refine x_iushr C dJ6_bitCount_0f7a4_38 ?_
  refine x_iadd C dJ6_bitCount_0f7a4_39 ?_
  refine x_istore_n (lv' := [(0, iV ((an32 (v1 + (us32 v1 4)) 252645135) + (us32 (an32 (v1 + (us32 v1 4)) 252645135) 8)))]) C dJ6_bitCount_0f7a4_40 (by decide) rfl ?_
  refine x_iload_n C 0 dJ6_bitCount_0f7a4_41 rfl ?_
  refine x_iload_n C 0 dJ6_bitCount_0f7a4_42 rfl ?_
  refine x_bipush (v := 16) C dJ6_bitCount_0f7a4_43 (by decide +kernel) ?_
  refine x_iushr C dJ6_bitCount_0f7a4_45 ?_
  refine x_iadd C dJ6_bitCount_0f7a4_46 ?_
  refine nmW hq (fun v2 ev2 hq => ?_)
  rw [← ev2]
  refine x_istore_n (lv' := [(0, iV (v2))]) C dJ6_bitCount_0f7a4_47 (by decide) rfl ?_
  refine x_iload_n C 0 dJ6_bitCount_0f7a4_48 rfl ?_
  refine x_bipush (v := 63) C dJ6_bitCount_0f7a4_49 (by decide +kernel) ?_
  refine x_iand C dJ6_bitCount_0f7a4_51 ?_
  exact hR _ _ _ _ hq rfl dJ6_bitCount_0f7a4_52
set_option maxRecDepth 100000 in
set_option maxHeartbeats 4000000 in
theorem c_J6_bitCount_0f7a4 (l : Launch) (G : Gd) {dm na : Nat} {ad : Nat → Nat} (hdm : dm = 0) {x0 : Int} {w w' : Wd} {r : Int}  (hq : p_J6_bitCount_0f7a4 x0 w = some (r, w')) : mI l yJ6_bitCount_0f7a4 cJ6_bitCount_0f7a4 1 (some .int) (rmv 0 0 0 0) G dm na ad [iV (x0)] w r w' := by
  refine met_I [(0, iV (x0))] (by decide) (Nat.le_of_ble_eq_true rfl) rfl .int rfl (fun g d C S hR => ?_)
  obtain ⟨rfl, hR0, rfl, rfl, rfl, hA⟩ := S
  exact L_J6_bitCount_0f7a4 (d := (na, ad, 0, 0)) C hdm hA hR0 ⟨Nat.zero_le _, Nat.zero_le _⟩ hR  _ w hq
set_option maxRecDepth 100000 in
set_option maxHeartbeats 4000000 in
theorem L_X6_flawCount_4 {g : Cx} {d : Dl} (C : CX g cX6_flawCount 3 (some .int) RX6) (hdm : g.dm = 0) (hA : ∀ q : Nat, g.s.heap.size ≤ q → g.A q) (hR0 : g.R = rmv 1 21 0 0) (hce : d.ce ≤ g.R.cells ∧ d.so ≤ g.R.slots) {res : Int × Wd} (hR : rtI g d cX6_flawCount .int res) {o0 : Nat} (h0 : isK d.na g.dm 7 o0) : ∀ (n : Nat) (x1 : Int) (x2 : Int) (w : Wd), p_X6_flawCount_4 o0 n x1 x2 w = some res → XG g d (hP g d w) [(0, .ref (d.ad (o0))), (1, iV (x1)), (2, iV (x2))] [] 4 := by
  intro n
  induction n with
  | zero => intro x1 x2 w  hq; exact nomatch (show none = some _ from hq)
  | succ n ih =>
    intro x1 x2 w  hq
    refine x_iload_n C 2 dX6_flawCount_4 rfl ?_
    refine x_aload_n C 0 dX6_flawCount_5 rfl ?_
    refine x_get (K := 7) (k := 1) C h0 (by decide) cl_X6 (by decide) ⟨rfl, rfl, rfl⟩ fl_X6_15 dX6_flawCount_6 ?_
    refine x_icmp_ge (tgt := 32) C dX6_flawCount_9 (by decide) hq (fun hq => ?_) (fun hq => ?_)
    · refine x_iload_n C 1 dX6_flawCount_32 rfl ?_
      exact hR _ _ _ _ hq rfl dX6_flawCount_33
    · refine x_iload_n C 1 dX6_flawCount_12 rfl ?_
      refine x_aload_n C 0 dX6_flawCount_13 rfl ?_
      refine x_getr (K := 7) (k := 3) (o2 := o0 + 1) C h0 (by decide) cl_X6 (by decide) ⟨rfl, rfl, rfl⟩ fl_X6_26 rfl dX6_flawCount_14 ?_
      refine x_iload_n C 2 dX6_flawCount_17 rfl ?_
      refine x_callVi (K := 6) (rm := rmv 0 0 0 0) (As := [iV (x2)]) (rest := [iV (x1)]) C hA hR0 mf_X5_at lk_X6_81 rfl (ik7 h0).1 (by decide) ⟨rfl, rfl⟩ ⟨Nat.le_of_ble_eq_true rfl, Nat.le_of_ble_eq_true rfl⟩ rfl rfl (Nat.le_of_ble_eq_true rfl) hce dX6_flawCount_18 hq (fun _ _ h => c_X5_at g.l g.G hdm (ik7 h0).1 h) (fun r2 w1 _ hq => ?_)
      refine x_callSi (rm := rmv 0 0 0 0) (As := [iV (r2)]) (rest := [iV (x1)]) C hA hR0 mf_J6_bitCount_0f7a4 lk_X6_88 ⟨rfl, rfl⟩ ⟨Nat.le_of_ble_eq_true rfl, Nat.le_of_ble_eq_true rfl⟩ rfl rfl (Nat.le_of_ble_eq_true rfl) hce dX6_flawCount_21 hq (fun _ _ h => c_J6_bitCount_0f7a4 g.l g.G hdm  h) (fun r4 w3 _ hq => ?_)
      refine x_iadd C dX6_flawCount_24 ?_
      refine x_istore_n (lv' := [(1, iV (x1 + r4)), (0, .ref (d.ad (o0))), (2, iV (x2))]) C dX6_flawCount_25 (by decide) rfl ?_
      refine x_iinc (lv' := [(2, iV (x2 + 1)), (1, iV (x1 + r4)), (0, .ref (d.ad (o0)))]) C 2 dX6_flawCount_26 rfl (by decide) rfl ?_
      refine x_goto (tgt := 4) C dX6_flawCount_29 (by decide) ?_
      refine XG.sub [2, 1, 0] rfl ?_
      exact ih _ _ _ hq
set_option maxRecDepth 100000 in
set_option maxHeartbeats 4000000 in
theorem L_X6_flawCount {g : Cx} {d : Dl} (C : CX g cX6_flawCount 3 (some .int) RX6) (hdm : g.dm = 0) (hA : ∀ q : Nat, g.s.heap.size ≤ q → g.A q) (hR0 : g.R = rmv 1 21 0 0) (hce : d.ce ≤ g.R.cells ∧ d.so ≤ g.R.slots) {res : Int × Wd} (hR : rtI g d cX6_flawCount .int res) {o0 : Nat} (h0 : isK d.na g.dm 7 o0)  (w : Wd) (hq : p_X6_flawCount o0 w = some res) : XG g d (hP g d w) [(0, .ref (d.ad (o0)))] [] 0 := by
  refine x_iconst C dX6_flawCount_0 ?_
  refine x_istore_n (lv' := [(1, iV (0)), (0, .ref (d.ad (o0)))]) C dX6_flawCount_1 (by decide) rfl ?_
  refine x_iconst C dX6_flawCount_2 ?_
  refine x_istore_n (lv' := [(2, iV (0)), (1, iV (0)), (0, .ref (d.ad (o0)))]) C dX6_flawCount_3 (by decide) rfl ?_
  refine XG.sub [2, 1, 0] rfl ?_
  exact L_X6_flawCount_4 C hdm hA hR0 hce hR h0 _ _ _ _ hq
set_option maxRecDepth 100000 in
set_option maxHeartbeats 4000000 in
theorem c_X6_flawCount (l : Launch) (G : Gd) {dm na : Nat} {ad : Nat → Nat} (hdm : dm = 0) {o0 : Nat} {w w' : Wd} {r : Int} (h0 : isK na dm 7 o0) (hq : p_X6_flawCount o0 w = some (r, w')) : mI l yX6_flawCount cX6_flawCount 3 (some .int) (rmv 1 21 0 0) G dm na ad [.ref (ad (o0))] w r w' := by
  refine met_I [(0, .ref (ad (o0)))] (by decide) (Nat.le_of_ble_eq_true rfl) rfl .int rfl (fun g d C S hR => ?_)
  obtain ⟨rfl, hR0, rfl, rfl, rfl, hA⟩ := S
  exact L_X6_flawCount (d := (na, ad, 0, 0)) C hdm hA hR0 ⟨Nat.zero_le _, Nat.zero_le _⟩ hR h0  w hq
set_option maxRecDepth 100000 in
set_option maxHeartbeats 4000000 in
theorem L_X8_property {g : Cx} {d : Dl} (C : CX g cX8_property 2 (some .int) RX8) (hdm : g.dm = 0) (hA : ∀ q : Nat, g.s.heap.size ≤ q → g.A q) (hR0 : g.R = rmv 6 89 1 6) (hce : d.ce + 1 ≤ 1 ∧ d.so + 6 ≤ 6) {na0 : Nat} {ad0 : Nat → Nat} {res : Rz} (hT : thC g na0 ad0 1 6 res) (hR : RGI g na0 ad0 cX8_property .int 1 6 res) (hag : AG na0 ad0 d) (x1 : Int) (w : Wd) (hq : p_X8_property x1 d.na w = some res) : XG g d (hP g d w) [(0, .ref (d.ad (1))), (1, iV (x1))] [] 0 := by
  refine x_iload_n C 1 dX8_property_0 rfl ?_
  refine ite_2 hq (fun s1 hq => ?_) (fun s2 hq => ?_)
  · refine x_tswd (tgt := 199) C (Or.inl s1) (by decide +kernel) dX8_property_1 (by decide) ?_
    exact x_gthrow C hT hR0 th2 hag (gcc hR0 hce (by decide) (by decide)).2 ⟨rfl, rfl⟩ ⟨Nat.le_of_ble_eq_true rfl, Nat.le_of_ble_eq_true rfl⟩ hq dX8_property_199 dX8_property_202 dX8_property_203 dX8_property_206
  refine ite_2 hq (fun s3 hq => ?_) (fun s4 hq => ?_)
  · refine x_tswd (tgt := 199) C (Or.inr s3) (by decide +kernel) dX8_property_1 (by decide) ?_
    exact x_gthrow C hT hR0 th2 hag (gcc hR0 hce (by decide) (by decide)).2 ⟨rfl, rfl⟩ ⟨Nat.le_of_ble_eq_true rfl, Nat.le_of_ble_eq_true rfl⟩ hq dX8_property_199 dX8_property_202 dX8_property_203 dX8_property_206
  refine ite_2 hq (fun s5 hq => ?_) (fun s6 hq => ?_)
  · refine ite_2 hq (fun s7 hq => ?_) (fun s8 hq => ?_)
    · refine ite_2 hq (fun s9 hq => ?_) (fun s10 hq => ?_)
      · refine x_tswk (tgt := 72) C (0) s2 (lt_sw (k := 0) s9 (by decide +kernel)) (by decide +kernel) dX8_property_1 rfl (by decide) ?_
        refine x_aload_n C 0 dX8_property_72 rfl ?_
        refine x_getr (K := 9) (k := 4) (o2 := 100) C (isK_lit hdm rfl rfl) (by decide) cl_X8 (by decide) ⟨rfl, rfl, rfl⟩ fl_X8_42 rfl dX8_property_73 ?_
        refine x_get (K := 7) (k := 0) C (isK_lit hdm rfl rfl) (by decide) cl_X6 (by decide) ⟨rfl, rfl, rfl⟩ fl_X8_106 dX8_property_76 ?_
        exact hR.1 _ _ _ _ _ hag (gcd hce) hq rfl dX8_property_79
      · refine ite_2 hq (fun s11 hq => ?_) (fun s12 hq => ?_)
        · refine x_tswk (tgt := 80) C (1) s10 (lt_sw (k := 1) s11 (by decide +kernel)) (by decide +kernel) dX8_property_1 rfl (by decide) ?_
          refine x_aload_n C 0 dX8_property_80 rfl ?_
          refine x_getr (K := 9) (k := 4) (o2 := 100) C (isK_lit hdm rfl rfl) (by decide) cl_X8 (by decide) ⟨rfl, rfl, rfl⟩ fl_X8_42 rfl dX8_property_81 ?_
          refine x_get (K := 7) (k := 1) C (isK_lit hdm rfl rfl) (by decide) cl_X6 (by decide) ⟨rfl, rfl, rfl⟩ fl_X8_109 dX8_property_84 ?_
          exact hR.1 _ _ _ _ _ hag (gcd hce) hq rfl dX8_property_87
        · refine x_tswk (tgt := 88) C (2) s12 (lt_sw (k := 2) s7 (by decide +kernel)) (by decide +kernel) dX8_property_1 rfl (by decide) ?_
          refine x_aload_n C 0 dX8_property_88 rfl ?_
          refine x_getr (K := 9) (k := 4) (o2 := 100) C (isK_lit hdm rfl rfl) (by decide) cl_X8 (by decide) ⟨rfl, rfl, rfl⟩ fl_X8_42 rfl dX8_property_89 ?_
          refine x_callVi (K := 7) (rm := rmv 1 21 0 0) (As := []) (rest := []) C hA hR0 mf_X6_flawCount lk_X8_112 rfl (isK_lit hdm rfl rfl) (by decide) ⟨rfl, rfl⟩ ⟨Nat.le_of_ble_eq_true rfl, Nat.le_of_ble_eq_true rfl⟩ rfl rfl (Nat.le_of_ble_eq_true rfl) (gce hR0 hce) dX8_property_92 hq (fun _ _ h => c_X6_flawCount g.l g.G hdm (isK_lit hdm rfl rfl) h) (fun r14 w13 _ hq => ?_)
          exact hR.1 _ _ _ _ _ hag (gcd hce) hq rfl dX8_property_95
    · refine ite_2 hq (fun s15 hq => ?_) (fun s16 hq => ?_)
      · refine ite_2 hq (fun s17 hq => ?_) (fun s18 hq => ?_)
        · refine x_tswk (tgt := 96) C (3) s8 (lt_sw (k := 3) s17 (by decide +kernel)) (by decide +kernel) dX8_property_1 rfl (by decide) ?_
          refine x_aload_n C 0 dX8_property_96 rfl ?_
          refine x_getr (K := 9) (k := 4) (o2 := 100) C (isK_lit hdm rfl rfl) (by decide) cl_X8 (by decide) ⟨rfl, rfl, rfl⟩ fl_X8_42 rfl dX8_property_97 ?_
          refine x_get (K := 7) (k := 2) C (isK_lit hdm rfl rfl) (by decide) cl_X6 (by decide) ⟨rfl, rfl, rfl⟩ fl_X8_116 dX8_property_100 ?_
          exact hR.1 _ _ _ _ _ hag (gcd hce) hq rfl dX8_property_103
        · refine x_tswk (tgt := 104) C (4) s18 (lt_sw (k := 4) s15 (by decide +kernel)) (by decide +kernel) dX8_property_1 rfl (by decide) ?_
          refine x_aload_n C 0 dX8_property_104 rfl ?_
          refine x_getr (K := 9) (k := 4) (o2 := 100) C (isK_lit hdm rfl rfl) (by decide) cl_X8 (by decide) ⟨rfl, rfl, rfl⟩ fl_X8_42 rfl dX8_property_105 ?_
          refine x_get (K := 7) (k := 4) C (isK_lit hdm rfl rfl) (by decide) cl_X6 (by decide) ⟨rfl, rfl, rfl⟩ fl_X8_119 dX8_property_108 ?_
          exact hR.1 _ _ _ _ _ hag (gcd hce) hq rfl dX8_property_111
      · refine ite_2 hq (fun s19 hq => ?_) (fun s20 hq => ?_)
        · refine x_tswk (tgt := 112) C (5) s16 (lt_sw (k := 5) s19 (by decide +kernel)) (by decide +kernel) dX8_property_1 rfl (by decide) ?_
          refine x_aload_n C 0 dX8_property_112 rfl ?_
          refine x_getr (K := 9) (k := 4) (o2 := 100) C (isK_lit hdm rfl rfl) (by decide) cl_X8 (by decide) ⟨rfl, rfl, rfl⟩ fl_X8_42 rfl dX8_property_113 ?_
          refine x_get (K := 7) (k := 7) C (isK_lit hdm rfl rfl) (by decide) cl_X6 (by decide) ⟨rfl, rfl, rfl⟩ fl_X8_122 dX8_property_116 ?_
          exact hR.1 _ _ _ _ _ hag (gcd hce) hq rfl dX8_property_119
        · refine x_tswk (tgt := 120) C (6) s20 (lt_sw (k := 6) s5 (by decide +kernel)) (by decide +kernel) dX8_property_1 rfl (by decide) ?_
          refine x_aload_n C 0 dX8_property_120 rfl ?_
          refine x_getr (K := 9) (k := 5) (o2 := 10) C (isK_lit hdm rfl rfl) (by decide) cl_X8 (by decide) ⟨rfl, rfl, rfl⟩ fl_X8_49 rfl dX8_property_121 ?_
          refine x_get (K := 3) (k := 4) C (isK_lit hdm rfl rfl) (by decide) cl_X2 (by decide) ⟨rfl, rfl, rfl⟩ fl_X8_97 dX8_property_124 ?_
          exact hR.1 _ _ _ _ _ hag (gcd hce) hq rfl dX8_property_127
  · refine ite_2 hq (fun s21 hq => ?_) (fun s22 hq => ?_)
    · refine ite_2 hq (fun s23 hq => ?_) (fun s24 hq => ?_)
      · refine x_tswk (tgt := 128) C (7) s6 (lt_sw (k := 7) s23 (by decide +kernel)) (by decide +kernel) dX8_property_1 rfl (by decide) ?_
        refine x_aload_n C 0 dX8_property_128 rfl ?_
        refine x_getr (K := 9) (k := 5) (o2 := 10) C (isK_lit hdm rfl rfl) (by decide) cl_X8 (by decide) ⟨rfl, rfl, rfl⟩ fl_X8_49 rfl dX8_property_129 ?_
        refine x_get (K := 3) (k := 5) C (isK_lit hdm rfl rfl) (by decide) cl_X2 (by decide) ⟨rfl, rfl, rfl⟩ fl_X8_125 dX8_property_132 ?_
        exact hR.1 _ _ _ _ _ hag (gcd hce) hq rfl dX8_property_135
      · refine ite_2 hq (fun s25 hq => ?_) (fun s26 hq => ?_)
        · refine x_tswk (tgt := 136) C (8) s24 (lt_sw (k := 8) s25 (by decide +kernel)) (by decide +kernel) dX8_property_1 rfl (by decide) ?_
          refine x_aload_n C 0 dX8_property_136 rfl ?_
          refine x_getr (K := 9) (k := 4) (o2 := 100) C (isK_lit hdm rfl rfl) (by decide) cl_X8 (by decide) ⟨rfl, rfl, rfl⟩ fl_X8_42 rfl dX8_property_137 ?_
          refine x_get (K := 7) (k := 11) C (isK_lit hdm rfl rfl) (by decide) cl_X6 (by decide) ⟨rfl, rfl, rfl⟩ fl_X8_128 dX8_property_140 ?_
          exact hR.1 _ _ _ _ _ hag (gcd hce) hq rfl dX8_property_143
        · refine x_tswk (tgt := 144) C (9) s26 (lt_sw (k := 9) s21 (by decide +kernel)) (by decide +kernel) dX8_property_1 rfl (by decide) ?_
          refine x_aload_n C 0 dX8_property_144 rfl ?_
          refine x_getr (K := 9) (k := 4) (o2 := 100) C (isK_lit hdm rfl rfl) (by decide) cl_X8 (by decide) ⟨rfl, rfl, rfl⟩ fl_X8_42 rfl dX8_property_145 ?_
          refine x_getr (K := 7) (k := 10) (o2 := 111) C (isK_lit hdm rfl rfl) (by decide) cl_X6 (by decide) ⟨rfl, rfl, rfl⟩ fl_X8_131 rfl dX8_property_148 ?_
          refine x_get (K := 2) (k := 2) C (isK_lit hdm rfl rfl) (by decide) cl_X1 (by decide) ⟨rfl, rfl, rfl⟩ fl_X8_134 dX8_property_151 ?_
          exact hR.1 _ _ _ _ _ hag (gcd hce) hq rfl dX8_property_154
    · refine ite_2 hq (fun s27 hq => ?_) (fun s28 hq => ?_)
      · refine ite_2 hq (fun s29 hq => ?_) (fun s30 hq => ?_)
        · refine x_tswk (tgt := 155) C (10) s22 (lt_sw (k := 10) s29 (by decide +kernel)) (by decide +kernel) dX8_property_1 rfl (by decide) ?_
          refine x_aload_n C 0 dX8_property_155 rfl ?_
          refine x_getr (K := 9) (k := 4) (o2 := 100) C (isK_lit hdm rfl rfl) (by decide) cl_X8 (by decide) ⟨rfl, rfl, rfl⟩ fl_X8_42 rfl dX8_property_156 ?_
          refine x_getr (K := 7) (k := 10) (o2 := 111) C (isK_lit hdm rfl rfl) (by decide) cl_X6 (by decide) ⟨rfl, rfl, rfl⟩ fl_X8_131 rfl dX8_property_159 ?_
          refine x_get (K := 2) (k := 0) C (isK_lit hdm rfl rfl) (by decide) cl_X1 (by decide) ⟨rfl, rfl, rfl⟩ fl_X8_137 dX8_property_162 ?_
          exact hR.1 _ _ _ _ _ hag (gcd hce) hq rfl dX8_property_165
        · refine x_tswk (tgt := 166) C (11) s30 (lt_sw (k := 11) s27 (by decide +kernel)) (by decide +kernel) dX8_property_1 rfl (by decide) ?_
          refine x_aload_n C 0 dX8_property_166 rfl ?_
          refine x_getr (K := 9) (k := 4) (o2 := 100) C (isK_lit hdm rfl rfl) (by decide) cl_X8 (by decide) ⟨rfl, rfl, rfl⟩ fl_X8_42 rfl dX8_property_167 ?_
          refine x_getr (K := 7) (k := 10) (o2 := 111) C (isK_lit hdm rfl rfl) (by decide) cl_X6 (by decide) ⟨rfl, rfl, rfl⟩ fl_X8_131 rfl dX8_property_170 ?_
          refine x_get (K := 2) (k := 1) C (isK_lit hdm rfl rfl) (by decide) cl_X1 (by decide) ⟨rfl, rfl, rfl⟩ fl_X8_140 dX8_property_173 ?_
          exact hR.1 _ _ _ _ _ hag (gcd hce) hq rfl dX8_property_176
      · refine ite_2 hq (fun s31 hq => ?_) (fun s32 hq => ?_)
        · refine x_tswk (tgt := 177) C (12) s28 (lt_sw (k := 12) s31 (by decide +kernel)) (by decide +kernel) dX8_property_1 rfl (by decide) ?_
          refine x_aload_n C 0 dX8_property_177 rfl ?_
          refine x_getr (K := 9) (k := 4) (o2 := 100) C (isK_lit hdm rfl rfl) (by decide) cl_X8 (by decide) ⟨rfl, rfl, rfl⟩ fl_X8_42 rfl dX8_property_178 ?_
          refine x_getr (K := 7) (k := 10) (o2 := 111) C (isK_lit hdm rfl rfl) (by decide) cl_X6 (by decide) ⟨rfl, rfl, rfl⟩ fl_X8_131 rfl dX8_property_181 ?_
          refine x_get (K := 2) (k := 3) C (isK_lit hdm rfl rfl) (by decide) cl_X1 (by decide) ⟨rfl, rfl, rfl⟩ fl_X8_143 dX8_property_184 ?_
          exact hR.1 _ _ _ _ _ hag (gcd hce) hq rfl dX8_property_187
        · refine x_tswk (tgt := 188) C (13) s32 s4 (by decide +kernel) dX8_property_1 rfl (by decide) ?_
          refine x_aload_n C 0 dX8_property_188 rfl ?_
          refine x_getr (K := 9) (k := 4) (o2 := 100) C (isK_lit hdm rfl rfl) (by decide) cl_X8 (by decide) ⟨rfl, rfl, rfl⟩ fl_X8_42 rfl dX8_property_189 ?_
          refine x_getr (K := 7) (k := 10) (o2 := 111) C (isK_lit hdm rfl rfl) (by decide) cl_X6 (by decide) ⟨rfl, rfl, rfl⟩ fl_X8_131 rfl dX8_property_192 ?_
          refine x_get (K := 2) (k := 4) C (isK_lit hdm rfl rfl) (by decide) cl_X1 (by decide) ⟨rfl, rfl, rfl⟩ fl_X8_146 dX8_property_195 ?_
          exact hR.1 _ _ _ _ _ hag (gcd hce) hq rfl dX8_property_198
set_option maxRecDepth 100000 in
set_option maxHeartbeats 4000000 in
theorem c_X8_property (l : Launch) (G : Gd) (hfl : l.stackTraces = false) {dm na : Nat} {ad : Nat → Nat} (hdm : dm = 0) {x1 : Int} {w : Wd} {res : Rz}  (hq : p_X8_property x1 na w = some res) : mGI l yX8_property cX8_property 2 (some .int) (rmv 6 89 1 6) G dm na ad [.ref (ad (1)), iV (x1)] w res 1 6 := by
  refine met_GI hfl [(0, .ref (ad (1))), (1, iV (x1))] (by decide) (Nat.le_of_ble_eq_true rfl) rfl .int rfl (fun g d C S hT hR => ?_)
  obtain ⟨rfl, hR0, rfl, rfl, rfl, hA⟩ := S
  exact L_X8_property (d := (na, ad, 0, 0)) C hdm hA hR0 ⟨Nat.le_of_ble_eq_true rfl, Nat.le_of_ble_eq_true rfl⟩ hT hR (AG.rf (na, ad, 0, 0))  _ w hq
set_option maxRecDepth 100000 in
set_option maxHeartbeats 4000000 in
theorem L_X8_needWord_15 {g : Cx} {d : Dl} (C : CX g cX8_needWord 2 none RX8) (hdm : g.dm = 0) (hA : ∀ q : Nat, g.s.heap.size ≤ q → g.A q) (hR0 : g.R = rmv 6 89 1 6) (hce : d.ce + 1 ≤ 1 ∧ d.so + 6 ≤ 6) {na0 : Nat} {ad0 : Nat → Nat} {res : Rz} (hT : thC g na0 ad0 1 6 res) (hR : RGV g na0 ad0 cX8_needWord 1 6 res) (hag : AG na0 ad0 d)  (w : Wd) (hq : p_X8_needWord_15 d.na w = some res) : XG g d (hP g d w) [] [] 15 := by
  exact x_gthrow C hT hR0 th3 hag (gcc hR0 hce (by decide) (by decide)).2 ⟨rfl, rfl⟩ ⟨Nat.le_of_ble_eq_true rfl, Nat.le_of_ble_eq_true rfl⟩ hq dX8_needWord_15 dX8_needWord_18 dX8_needWord_19 dX8_needWord_22
set_option maxRecDepth 100000 in
set_option maxHeartbeats 4000000 in
theorem L_X8_needWord {g : Cx} {d : Dl} (C : CX g cX8_needWord 2 none RX8) (hdm : g.dm = 0) (hA : ∀ q : Nat, g.s.heap.size ≤ q → g.A q) (hR0 : g.R = rmv 6 89 1 6) (hce : d.ce + 1 ≤ 1 ∧ d.so + 6 ≤ 6) {na0 : Nat} {ad0 : Nat → Nat} {res : Rz} (hT : thC g na0 ad0 1 6 res) (hR : RGV g na0 ad0 cX8_needWord 1 6 res) (hag : AG na0 ad0 d) (x1 : Int) (w : Wd) (hq : p_X8_needWord x1 d.na w = some res) : XG g d (hP g d w) [(0, .ref (d.ad (1))), (1, iV (x1))] [] 0 := by
  refine x_iload_n C 1 dX8_needWord_0 rfl ?_
  refine x_if_lt (tgt := 15) C dX8_needWord_1 (by decide) hq (fun hq => ?_) (fun hq => ?_)
  · refine XG.sub [] rfl ?_
    exact L_X8_needWord_15 C hdm hA hR0 hce hT hR hag _ hq
  · refine x_iload_n C 1 dX8_needWord_4 rfl ?_
    refine x_aload_n C 0 dX8_needWord_5 rfl ?_
    refine x_getr (K := 9) (k := 4) (o2 := 100) C (isK_lit hdm rfl rfl) (by decide) cl_X8 (by decide) ⟨rfl, rfl, rfl⟩ fl_X8_42 rfl dX8_needWord_6 ?_
    refine x_get (K := 7) (k := 7) C (isK_lit hdm rfl rfl) (by decide) cl_X6 (by decide) ⟨rfl, rfl, rfl⟩ fl_X8_122 dX8_needWord_9 ?_
    refine x_icmp_lt (tgt := 23) C dX8_needWord_12 (by decide) hq (fun hq => ?_) (fun hq => ?_)
    · exact hR.1 _ _ _ _ hag (gcd hce) hq dX8_needWord_23
    · refine XG.sub [] rfl ?_
      exact L_X8_needWord_15 C hdm hA hR0 hce hT hR hag _ hq
set_option maxRecDepth 100000 in
set_option maxHeartbeats 4000000 in
theorem c_X8_needWord (l : Launch) (G : Gd) (hfl : l.stackTraces = false) {dm na : Nat} {ad : Nat → Nat} (hdm : dm = 0) {x1 : Int} {w : Wd} {res : Rz}  (hq : p_X8_needWord x1 na w = some res) : mGV l yX8_needWord cX8_needWord 2 none (rmv 6 89 1 6) G dm na ad [.ref (ad (1)), iV (x1)] w res 1 6 := by
  refine met_GV hfl [(0, .ref (ad (1))), (1, iV (x1))] (by decide) (Nat.le_of_ble_eq_true rfl) rfl rfl (fun g d C S hT hR => ?_)
  obtain ⟨rfl, hR0, rfl, rfl, rfl, hA⟩ := S
  exact L_X8_needWord (d := (na, ad, 0, 0)) C hdm hA hR0 ⟨Nat.le_of_ble_eq_true rfl, Nat.le_of_ble_eq_true rfl⟩ hT hR (AG.rf (na, ad, 0, 0))  _ w hq
set_option maxRecDepth 100000 in
set_option maxHeartbeats 4000000 in
theorem L_X6_partOf_11 {g : Cx} {d : Dl} (C : CX g cX6_partOf 4 (some .int) RX6) (hdm : g.dm = 0) (hA : ∀ q : Nat, g.s.heap.size ≤ q → g.A q) (hR0 : g.R = rmv 1 21 0 0) (hce : d.ce ≤ g.R.cells ∧ d.so ≤ g.R.slots) {res : Int × Wd} (hR : rtI g d cX6_partOf .int res) {o0 : Nat} (h0 : isK d.na g.dm 7 o0) : ∀ (n : Nat) (x1 : Int) (x2 : Int) (x3 : Int) (w : Wd), p_X6_partOf_11 o0 n x1 x2 x3 w = some res → XG g d (hP g d w) [(0, .ref (d.ad (o0))), (1, iV (x1)), (2, iV (x2)), (3, iV (x3))] [] 11 := by
  intro n
  induction n with
  | zero => intro x1 x2 x3 w  hq; exact nomatch (show none = some _ from hq)
  | succ n ih =>
    intro x1 x2 x3 w  hq
    refine x_iload_n C 2 dX6_partOf_11 rfl ?_
    refine x_aload_n C 0 dX6_partOf_12 rfl ?_
    refine x_get (K := 7) (k := 4) C h0 (by decide) cl_X6 (by decide) ⟨rfl, rfl, rfl⟩ fl_X6_30 dX6_partOf_13 ?_
    refine x_iconst C dX6_partOf_16 ?_
    refine x_isub C dX6_partOf_17 ?_
    refine x_icmp_ge (tgt := 43) C dX6_partOf_18 (by decide) hq (fun hq => ?_) (fun hq => ?_)
    · refine x_iload_n C 2 dX6_partOf_43 rfl ?_
      exact hR _ _ _ _ hq rfl dX6_partOf_44
    · refine x_iload_n C 3 dX6_partOf_21 rfl ?_
      refine x_iload_n C 1 dX6_partOf_22 rfl ?_
      refine x_icmp_gt (tgt := 43) C dX6_partOf_23 (by decide) hq (fun hq => ?_) (fun hq => ?_)
      · refine x_iload_n C 2 dX6_partOf_43 rfl ?_
        exact hR _ _ _ _ hq rfl dX6_partOf_44
      · refine x_iinc (lv' := [(2, iV (x2 + 1)), (0, .ref (d.ad (o0))), (1, iV (x1)), (3, iV (x3))]) C 2 dX6_partOf_26 rfl (by decide) rfl ?_
        refine x_iload_n C 3 dX6_partOf_29 rfl ?_
        refine x_aload_n C 1 dX6_partOf_30 rfl ?_
        refine x_getr (K := 7) (k := 6) (o2 := o0 + 5) C h0 (by decide) cl_X6 (by decide) ⟨rfl, rfl, rfl⟩ fl_X6_36 rfl dX6_partOf_31 ?_
        refine x_iload_n C 0 dX6_partOf_34 rfl ?_
        refine x_callVi (K := 6) (rm := rmv 0 0 0 0) (As := [iV (x2 + 1)]) (rest := [iV (x3)]) C hA hR0 mf_X5_at lk_X6_81 rfl (ik7 h0).2.2.1 (by decide) ⟨rfl, rfl⟩ ⟨Nat.le_of_ble_eq_true rfl, Nat.le_of_ble_eq_true rfl⟩ rfl rfl (Nat.le_of_ble_eq_true rfl) hce dX6_partOf_35 hq (fun _ _ h => c_X5_at g.l g.G hdm (ik7 h0).2.2.1 h) (fun r2 w1 _ hq => ?_)
        refine x_iadd C dX6_partOf_38 ?_
        refine x_istore_n (lv' := [(3, iV (x3 + r2)), (2, iV (x2 + 1)), (0, .ref (d.ad (o0))), (1, iV (x1))]) C dX6_partOf_39 (by decide) rfl ?_
        refine x_goto (tgt := 11) C dX6_partOf_40 (by decide) ?_
        refine XG.sub [2, 3, 1, 0] rfl ?_
        exact ih _ _ _ _ hq
set_option maxRecDepth 100000 in
set_option maxHeartbeats 4000000 in
theorem L_X6_partOf {g : Cx} {d : Dl} (C : CX g cX6_partOf 4 (some .int) RX6) (hdm : g.dm = 0) (hA : ∀ q : Nat, g.s.heap.size ≤ q → g.A q) (hR0 : g.R = rmv 1 21 0 0) (hce : d.ce ≤ g.R.cells ∧ d.so ≤ g.R.slots) {res : Int × Wd} (hR : rtI g d cX6_partOf .int res) {o0 : Nat} (h0 : isK d.na g.dm 7 o0) (x1 : Int) (w : Wd) (hq : p_X6_partOf o0 x1 w = some res) : XG g d (hP g d w) [(0, .ref (d.ad (o0))), (1, iV (x1))] [] 0 := by
  refine x_iconst C dX6_partOf_0 ?_
  refine x_istore_n (lv' := [(2, iV (0)), (0, .ref (d.ad (o0))), (1, iV (x1))]) C dX6_partOf_1 (by decide) rfl ?_
  refine x_aload_n C 1 dX6_partOf_2 rfl ?_
  refine x_getr (K := 7) (k := 6) (o2 := o0 + 5) C h0 (by decide) cl_X6 (by decide) ⟨rfl, rfl, rfl⟩ fl_X6_36 rfl dX6_partOf_3 ?_
  refine x_iconst C dX6_partOf_6 ?_
  refine x_callVi (K := 6) (rm := rmv 0 0 0 0) (As := [iV (0)]) (rest := []) C hA hR0 mf_X5_at lk_X6_81 rfl (ik7 h0).2.2.1 (by decide) ⟨rfl, rfl⟩ ⟨Nat.le_of_ble_eq_true rfl, Nat.le_of_ble_eq_true rfl⟩ rfl rfl (Nat.le_of_ble_eq_true rfl) hce dX6_partOf_7 hq (fun _ _ h => c_X5_at g.l g.G hdm (ik7 h0).2.2.1 h) (fun r2 w1 _ hq => ?_)
  refine x_istore_n (lv' := [(3, iV (r2)), (2, iV (0)), (0, .ref (d.ad (o0))), (1, iV (x1))]) C dX6_partOf_10 (by decide) rfl ?_
  refine XG.sub [2, 3, 1, 0] rfl ?_
  exact L_X6_partOf_11 C hdm hA hR0 hce hR h0 _ _ _ _ _ hq
set_option maxRecDepth 100000 in
set_option maxHeartbeats 4000000 in
theorem c_X6_partOf (l : Launch) (G : Gd) {dm na : Nat} {ad : Nat → Nat} (hdm : dm = 0) {o0 : Nat} {x1 : Int} {w w' : Wd} {r : Int} (h0 : isK na dm 7 o0) (hq : p_X6_partOf o0 x1 w = some (r, w')) : mI l yX6_partOf cX6_partOf 4 (some .int) (rmv 1 21 0 0) G dm na ad [.ref (ad (o0)), iV (x1)] w r w' := by
  refine met_I [(0, .ref (ad (o0))), (1, iV (x1))] (by decide) (Nat.le_of_ble_eq_true rfl) rfl .int rfl (fun g d C S hR => ?_)
  obtain ⟨rfl, hR0, rfl, rfl, rfl, hA⟩ := S
  exact L_X6_partOf (d := (na, ad, 0, 0)) C hdm hA hR0 ⟨Nat.zero_le _, Nat.zero_le _⟩ hR h0 _ w hq
set_option maxRecDepth 100000 in
set_option maxHeartbeats 4000000 in
theorem L_X6_lettersAhead_4 {g : Cx} {d : Dl} (C : CX g cX6_lettersAhead 4 (some .int) RX6) (hdm : g.dm = 0) (hA : ∀ q : Nat, g.s.heap.size ≤ q → g.A q) (hR0 : g.R = rmv 1 21 0 0) (hce : d.ce ≤ g.R.cells ∧ d.so ≤ g.R.slots) {res : Int × Wd} (hR : rtI g d cX6_lettersAhead .int res) {o0 : Nat} (h0 : isK d.na g.dm 7 o0) : ∀ (n : Nat) (x1 : Int) (x2 : Int) (x3 : Int) (w : Wd), p_X6_lettersAhead_4 o0 n x1 x2 x3 w = some res → XG g d (hP g d w) [(0, .ref (d.ad (o0))), (1, iV (x1)), (2, iV (x2)), (3, iV (x3))] [] 4 := by
  intro n
  induction n with
  | zero => intro x1 x2 x3 w  hq; exact nomatch (show none = some _ from hq)
  | succ n ih =>
    intro x1 x2 x3 w  hq
    refine x_iload_n C 3 dX6_lettersAhead_4 rfl ?_
    refine x_iload_n C 1 dX6_lettersAhead_5 rfl ?_
    refine x_icmp_ge (tgt := 26) C dX6_lettersAhead_6 (by decide) hq (fun hq => ?_) (fun hq => ?_)
    · refine x_iload_n C 2 dX6_lettersAhead_26 rfl ?_
      exact hR _ _ _ _ hq rfl dX6_lettersAhead_27
    · refine x_iload_n C 2 dX6_lettersAhead_9 rfl ?_
      refine x_aload_n C 0 dX6_lettersAhead_10 rfl ?_
      refine x_getr (K := 7) (k := 8) (o2 := o0 + 7) C h0 (by decide) cl_X6 (by decide) ⟨rfl, rfl, rfl⟩ fl_X6_42 rfl dX6_lettersAhead_11 ?_
      refine x_iload_n C 3 dX6_lettersAhead_14 rfl ?_
      refine x_callVi (K := 6) (rm := rmv 0 0 0 0) (As := [iV (x3)]) (rest := [iV (x2)]) C hA hR0 mf_X5_at lk_X6_81 rfl (ik7 h0).2.2.2.1 (by decide) ⟨rfl, rfl⟩ ⟨Nat.le_of_ble_eq_true rfl, Nat.le_of_ble_eq_true rfl⟩ rfl rfl (Nat.le_of_ble_eq_true rfl) hce dX6_lettersAhead_15 hq (fun _ _ h => c_X5_at g.l g.G hdm (ik7 h0).2.2.2.1 h) (fun r2 w1 _ hq => ?_)
      refine x_iadd C dX6_lettersAhead_18 ?_
      refine x_istore_n (lv' := [(2, iV (x2 + r2)), (0, .ref (d.ad (o0))), (1, iV (x1)), (3, iV (x3))]) C dX6_lettersAhead_19 (by decide) rfl ?_
      refine x_iinc (lv' := [(3, iV (x3 + 1)), (2, iV (x2 + r2)), (0, .ref (d.ad (o0))), (1, iV (x1))]) C 3 dX6_lettersAhead_20 rfl (by decide) rfl ?_
      refine x_goto (tgt := 4) C dX6_lettersAhead_23 (by decide) ?_
      refine XG.sub [2, 3, 1, 0] rfl ?_
      exact ih _ _ _ _ hq
set_option maxRecDepth 100000 in
set_option maxHeartbeats 4000000 in
theorem L_X6_lettersAhead {g : Cx} {d : Dl} (C : CX g cX6_lettersAhead 4 (some .int) RX6) (hdm : g.dm = 0) (hA : ∀ q : Nat, g.s.heap.size ≤ q → g.A q) (hR0 : g.R = rmv 1 21 0 0) (hce : d.ce ≤ g.R.cells ∧ d.so ≤ g.R.slots) {res : Int × Wd} (hR : rtI g d cX6_lettersAhead .int res) {o0 : Nat} (h0 : isK d.na g.dm 7 o0) (x1 : Int) (w : Wd) (hq : p_X6_lettersAhead o0 x1 w = some res) : XG g d (hP g d w) [(0, .ref (d.ad (o0))), (1, iV (x1))] [] 0 := by
  refine x_iconst C dX6_lettersAhead_0 ?_
  refine x_istore_n (lv' := [(2, iV (0)), (0, .ref (d.ad (o0))), (1, iV (x1))]) C dX6_lettersAhead_1 (by decide) rfl ?_
  refine x_iconst C dX6_lettersAhead_2 ?_
  refine x_istore_n (lv' := [(3, iV (0)), (2, iV (0)), (0, .ref (d.ad (o0))), (1, iV (x1))]) C dX6_lettersAhead_3 (by decide) rfl ?_
  refine XG.sub [2, 3, 1, 0] rfl ?_
  exact L_X6_lettersAhead_4 C hdm hA hR0 hce hR h0 _ _ _ _ _ hq
set_option maxRecDepth 100000 in
set_option maxHeartbeats 4000000 in
theorem c_X6_lettersAhead (l : Launch) (G : Gd) {dm na : Nat} {ad : Nat → Nat} (hdm : dm = 0) {o0 : Nat} {x1 : Int} {w w' : Wd} {r : Int} (h0 : isK na dm 7 o0) (hq : p_X6_lettersAhead o0 x1 w = some (r, w')) : mI l yX6_lettersAhead cX6_lettersAhead 4 (some .int) (rmv 1 21 0 0) G dm na ad [.ref (ad (o0)), iV (x1)] w r w' := by
  refine met_I [(0, .ref (ad (o0))), (1, iV (x1))] (by decide) (Nat.le_of_ble_eq_true rfl) rfl .int rfl (fun g d C S hR => ?_)
  obtain ⟨rfl, hR0, rfl, rfl, rfl, hA⟩ := S
  exact L_X6_lettersAhead (d := (na, ad, 0, 0)) C hdm hA hR0 ⟨Nat.zero_le _, Nat.zero_le _⟩ hR h0 _ w hq
set_option maxRecDepth 100000 in
set_option maxHeartbeats 4000000 in
theorem L_X2_costsOf_5 {g : Cx} {d : Dl} (C : CX g cX2_costsOf 5 (some .int) RX2) (hdm : g.dm = 0) (hA : ∀ q : Nat, g.s.heap.size ≤ q → g.A q) (hR0 : g.R = rmv 1 21 0 0) (hce : d.ce ≤ g.R.cells ∧ d.so ≤ g.R.slots) {res : Int × Wd} (hR : rtI g d cX2_costsOf .int res) {o0 : Nat} (h0 : isK d.na g.dm 3 o0) : ∀ (n : Nat) (x2 : Int) (x3 : Int) (x4 : Int) (w : Wd), p_X2_costsOf_5 o0 n x2 x3 x4 w = some res → XG g d (hP g d w) [(0, .ref (d.ad (o0))), (2, iV (x2)), (3, iV (x3)), (4, iV (x4))] [] 5 := by
  intro n
  induction n with
  | zero => intro x2 x3 x4 w  hq; exact nomatch (show none = some _ from hq)
  | succ n ih =>
    intro x2 x3 x4 w  hq
    refine x_iload C 3 dX2_costsOf_5 rfl ?_
    refine x_iload_n C 1 dX2_costsOf_7 rfl ?_
    refine x_icmp_ge (tgt := 29) C dX2_costsOf_8 (by decide) hq (fun hq => ?_) (fun hq => ?_)
    · refine x_iload_n C 2 dX2_costsOf_29 rfl ?_
      exact hR _ _ _ _ hq rfl dX2_costsOf_30
    · refine x_iload_n C 2 dX2_costsOf_11 rfl ?_
      refine x_aload_n C 0 dX2_costsOf_12 rfl ?_
      refine x_getr (K := 3) (k := 3) (o2 := o0 + 7) C h0 (by decide) cl_X2 (by decide) ⟨rfl, rfl, rfl⟩ fl_X2_26 rfl dX2_costsOf_13 ?_
      refine x_iload C 3 dX2_costsOf_16 rfl ?_
      refine x_callVi (K := 6) (rm := rmv 0 0 0 0) (As := [iV (x4)]) (rest := [iV (x3)]) C hA hR0 mf_X5_at lk_X2_50 rfl (ik3 h0).2.2.2 (by decide) ⟨rfl, rfl⟩ ⟨Nat.le_of_ble_eq_true rfl, Nat.le_of_ble_eq_true rfl⟩ rfl rfl (Nat.le_of_ble_eq_true rfl) hce dX2_costsOf_18 hq (fun _ _ h => c_X5_at g.l g.G hdm (ik3 h0).2.2.2 h) (fun r2 w1 _ hq => ?_)
      refine x_iadd C dX2_costsOf_21 ?_
      refine x_istore_n (lv' := [(3, iV (x3 + r2)), (0, .ref (d.ad (o0))), (2, iV (x2)), (4, iV (x4))]) C dX2_costsOf_22 (by decide) rfl ?_
      refine x_iinc (lv' := [(4, iV (x4 + 1)), (3, iV (x3 + r2)), (0, .ref (d.ad (o0))), (2, iV (x2))]) C 3 dX2_costsOf_23 rfl (by decide) rfl ?_
      refine x_goto (tgt := 5) C dX2_costsOf_26 (by decide) ?_
      refine XG.sub [2, 3, 1, 0] rfl ?_
      exact ih _ _ _ _ hq
set_option maxRecDepth 100000 in
set_option maxHeartbeats 4000000 in
theorem L_X2_costsOf {g : Cx} {d : Dl} (C : CX g cX2_costsOf 5 (some .int) RX2) (hdm : g.dm = 0) (hA : ∀ q : Nat, g.s.heap.size ≤ q → g.A q) (hR0 : g.R = rmv 1 21 0 0) (hce : d.ce ≤ g.R.cells ∧ d.so ≤ g.R.slots) {res : Int × Wd} (hR : rtI g d cX2_costsOf .int res) {o0 : Nat} (h0 : isK d.na g.dm 3 o0) (x1 : Int) (x2 : Int) (w : Wd) (hq : p_X2_costsOf o0 x1 x2 w = some res) : XG g d (hP g d w) [(0, .ref (d.ad (o0))), (1, iV (x1)), (2, iV (x2))] [] 0 := by
  refine x_iconst C dX2_costsOf_0 ?_
  refine x_istore_n (lv' := [(3, iV (0)), (0, .ref (d.ad (o0))), (1, iV (x1)), (2, iV (x2))]) C dX2_costsOf_1 (by decide) rfl ?_
  refine x_iload_n C 2 dX2_costsOf_2 rfl ?_
  refine x_istore (lv' := [(4, iV (x1)), (3, iV (0)), (0, .ref (d.ad (o0))), (1, iV (x1)), (2, iV (x2))]) C dX2_costsOf_3 (by decide) rfl ?_
  refine XG.sub [2, 4, 1, 0] rfl ?_
  exact L_X2_costsOf_5 C hdm hA hR0 hce hR h0 _ _ _ _ _ hq
set_option maxRecDepth 100000 in
set_option maxHeartbeats 4000000 in
theorem c_X2_costsOf (l : Launch) (G : Gd) {dm na : Nat} {ad : Nat → Nat} (hdm : dm = 0) {o0 : Nat} {x1 : Int} {x2 : Int} {w w' : Wd} {r : Int} (h0 : isK na dm 3 o0) (hq : p_X2_costsOf o0 x1 x2 w = some (r, w')) : mI l yX2_costsOf cX2_costsOf 5 (some .int) (rmv 1 21 0 0) G dm na ad [.ref (ad (o0)), iV (x1), iV (x2)] w r w' := by
  refine met_I [(0, .ref (ad (o0))), (1, iV (x1)), (2, iV (x2))] (by decide) (Nat.le_of_ble_eq_true rfl) rfl .int rfl (fun g d C S hR => ?_)
  obtain ⟨rfl, hR0, rfl, rfl, rfl, hA⟩ := S
  exact L_X2_costsOf (d := (na, ad, 0, 0)) C hdm hA hR0 ⟨Nat.zero_le _, Nat.zero_le _⟩ hR h0 _ _ w hq
set_option maxRecDepth 100000 in
set_option maxHeartbeats 4000000 in
theorem L_X8_strokesOfWord {g : Cx} {d : Dl} (C : CX g cX8_strokesOfWord 3 (some .int) RX8) (hdm : g.dm = 0) (hA : ∀ q : Nat, g.s.heap.size ≤ q → g.A q) (hR0 : g.R = rmv 2 45 0 0) (hce : d.ce ≤ g.R.cells ∧ d.so ≤ g.R.slots) {res : Int × Wd} (hR : rtI g d cX8_strokesOfWord .int res) (x1 : Int) (w : Wd) (hq : p_X8_strokesOfWord x1 w = some res) : XG g d (hP g d w) [(0, .ref (d.ad (1))), (1, iV (x1))] [] 0 := by
  refine x_iload_n C 1 dX8_strokesOfWord_0 rfl ?_
  refine x_aload_n C 0 dX8_strokesOfWord_1 rfl ?_
  refine x_getr (K := 9) (k := 5) (o2 := 10) C (isK_lit hdm rfl rfl) (by decide) cl_X8 (by decide) ⟨rfl, rfl, rfl⟩ fl_X8_49 rfl dX8_strokesOfWord_2 ?_
  refine x_get (K := 3) (k := 4) C (isK_lit hdm rfl rfl) (by decide) cl_X2 (by decide) ⟨rfl, rfl, rfl⟩ fl_X8_97 dX8_strokesOfWord_5 ?_
  refine x_icmp_lt (tgt := 13) C dX8_strokesOfWord_8 (by decide) hq (fun hq => ?_) (fun hq => ?_)
  · refine x_aload_n C 0 dX8_strokesOfWord_13 rfl ?_
    refine x_getr (K := 9) (k := 4) (o2 := 100) C (isK_lit hdm rfl rfl) (by decide) cl_X8 (by decide) ⟨rfl, rfl, rfl⟩ fl_X8_42 rfl dX8_strokesOfWord_14 ?_
    refine x_iload_n C 1 dX8_strokesOfWord_17 rfl ?_
    refine x_callVi (K := 7) (rm := rmv 1 21 0 0) (As := [iV (x1)]) (rest := []) C hA hR0 mf_X6_lettersAhead lk_X8_370 rfl (isK_lit hdm rfl rfl) (by decide) ⟨rfl, rfl⟩ ⟨Nat.le_of_ble_eq_true rfl, Nat.le_of_ble_eq_true rfl⟩ rfl rfl (Nat.le_of_ble_eq_true rfl) hce dX8_strokesOfWord_18 hq (fun _ _ h => c_X6_lettersAhead g.l g.G hdm (isK_lit hdm rfl rfl) h) (fun r2 w1 _ hq => ?_)
    refine x_istore_n (lv' := [(2, iV (r2)), (0, .ref (d.ad (1))), (1, iV (x1))]) C dX8_strokesOfWord_21 (by decide) rfl ?_
    refine x_aload_n C 1 dX8_strokesOfWord_22 rfl ?_
    refine x_getr (K := 9) (k := 5) (o2 := 10) C (isK_lit hdm rfl rfl) (by decide) cl_X8 (by decide) ⟨rfl, rfl, rfl⟩ fl_X8_49 rfl dX8_strokesOfWord_23 ?_
    refine x_iload_n C 0 dX8_strokesOfWord_26 rfl ?_
    refine x_iload_n C 0 dX8_strokesOfWord_27 rfl ?_
    refine x_aload_n C 1 dX8_strokesOfWord_28 rfl ?_
    refine x_getr (K := 9) (k := 4) (o2 := 100) C (isK_lit hdm rfl rfl) (by decide) cl_X8 (by decide) ⟨rfl, rfl, rfl⟩ fl_X8_42 rfl dX8_strokesOfWord_29 ?_
    refine x_getr (K := 7) (k := 8) (o2 := 107) C (isK_lit hdm rfl rfl) (by decide) cl_X6 (by decide) ⟨rfl, rfl, rfl⟩ fl_X8_186 rfl dX8_strokesOfWord_32 ?_
    refine x_iload_n C 2 dX8_strokesOfWord_35 rfl ?_
    refine x_callVi (K := 6) (rm := rmv 0 0 0 0) (As := [iV (x1)]) (rest := [iV (r2), iV (r2), .ref (d.ad (10))]) C hA hR0 mf_X5_at lk_X8_160 rfl (isK_lit hdm rfl rfl) (by decide) ⟨rfl, rfl⟩ ⟨Nat.le_of_ble_eq_true rfl, Nat.le_of_ble_eq_true rfl⟩ rfl rfl (Nat.le_of_ble_eq_true rfl) hce dX8_strokesOfWord_36 hq (fun _ _ h => c_X5_at g.l g.G hdm (isK_lit hdm rfl rfl) h) (fun r4 w3 _ hq => ?_)
    refine x_iadd C dX8_strokesOfWord_39 ?_
    refine x_callVi (K := 3) (rm := rmv 1 21 0 0) (As := [iV (r2), iV (r2 + r4)]) (rest := []) C hA hR0 mf_X2_costsOf lk_X8_219 rfl (isK_lit hdm rfl rfl) (by decide) ⟨rfl, rfl⟩ ⟨Nat.le_of_ble_eq_true rfl, Nat.le_of_ble_eq_true rfl⟩ rfl rfl (Nat.le_of_ble_eq_true rfl) hce dX8_strokesOfWord_40 hq (fun _ _ h => c_X2_costsOf g.l g.G hdm (isK_lit hdm rfl rfl) h) (fun r6 w5 _ hq => ?_)
    exact hR _ _ _ _ hq rfl dX8_strokesOfWord_43
  · refine x_iconst C dX8_strokesOfWord_11 ?_
    exact hR _ _ _ _ hq rfl dX8_strokesOfWord_12
set_option maxRecDepth 100000 in
set_option maxHeartbeats 4000000 in
theorem c_X8_strokesOfWord (l : Launch) (G : Gd) {dm na : Nat} {ad : Nat → Nat} (hdm : dm = 0) {x1 : Int} {w w' : Wd} {r : Int}  (hq : p_X8_strokesOfWord x1 w = some (r, w')) : mI l yX8_strokesOfWord cX8_strokesOfWord 3 (some .int) (rmv 2 45 0 0) G dm na ad [.ref (ad (1)), iV (x1)] w r w' := by
  refine met_I [(0, .ref (ad (1))), (1, iV (x1))] (by decide) (Nat.le_of_ble_eq_true rfl) rfl .int rfl (fun g d C S hR => ?_)
  obtain ⟨rfl, hR0, rfl, rfl, rfl, hA⟩ := S
  exact L_X8_strokesOfWord (d := (na, ad, 0, 0)) C hdm hA hR0 ⟨Nat.zero_le _, Nat.zero_le _⟩ hR  _ w hq
set_option maxRecDepth 100000 in
set_option maxHeartbeats 4000000 in
theorem L_X8_carvedOfWord {g : Cx} {d : Dl} (C : CX g cX8_carvedOfWord 3 (some .int) RX8) (hdm : g.dm = 0) (hA : ∀ q : Nat, g.s.heap.size ≤ q → g.A q) (hR0 : g.R = rmv 2 44 0 0) (hce : d.ce ≤ g.R.cells ∧ d.so ≤ g.R.slots) {res : Int × Wd} (hR : rtI g d cX8_carvedOfWord .int res) (x1 : Int) (w : Wd) (hq : p_X8_carvedOfWord x1 w = some res) : XG g d (hP g d w) [(0, .ref (d.ad (1))), (1, iV (x1))] [] 0 := by
  refine x_aload_n C 0 dX8_carvedOfWord_0 rfl ?_
  refine x_getr (K := 9) (k := 4) (o2 := 100) C (isK_lit hdm rfl rfl) (by decide) cl_X8 (by decide) ⟨rfl, rfl, rfl⟩ fl_X8_42 rfl dX8_carvedOfWord_1 ?_
  refine x_get (K := 7) (k := 11) C (isK_lit hdm rfl rfl) (by decide) cl_X6 (by decide) ⟨rfl, rfl, rfl⟩ fl_X8_128 dX8_carvedOfWord_4 ?_
  refine x_aload_n C 0 dX8_carvedOfWord_7 rfl ?_
  refine x_getr (K := 9) (k := 4) (o2 := 100) C (isK_lit hdm rfl rfl) (by decide) cl_X8 (by decide) ⟨rfl, rfl, rfl⟩ fl_X8_42 rfl dX8_carvedOfWord_8 ?_
  refine x_iload_n C 1 dX8_carvedOfWord_11 rfl ?_
  refine x_callVi (K := 7) (rm := rmv 1 21 0 0) (As := [iV (x1)]) (rest := [iV (gF w 100 11)]) C hA hR0 mf_X6_lettersAhead lk_X8_370 rfl (isK_lit hdm rfl rfl) (by decide) ⟨rfl, rfl⟩ ⟨Nat.le_of_ble_eq_true rfl, Nat.le_of_ble_eq_true rfl⟩ rfl rfl (Nat.le_of_ble_eq_true rfl) hce dX8_carvedOfWord_12 hq (fun _ _ h => c_X6_lettersAhead g.l g.G hdm (isK_lit hdm rfl rfl) h) (fun r2 w1 _ hq => ?_)
  refine x_isub C dX8_carvedOfWord_15 ?_
  refine x_istore_n (lv' := [(2, iV ((gF w 100 11) - r2)), (0, .ref (d.ad (1))), (1, iV (x1))]) C dX8_carvedOfWord_16 (by decide) rfl ?_
  refine x_iconst C dX8_carvedOfWord_17 ?_
  refine x_iload_n C 0 dX8_carvedOfWord_18 rfl ?_
  refine x_aload_n C 1 dX8_carvedOfWord_19 rfl ?_
  refine x_getr (K := 9) (k := 4) (o2 := 100) C (isK_lit hdm rfl rfl) (by decide) cl_X8 (by decide) ⟨rfl, rfl, rfl⟩ fl_X8_42 rfl dX8_carvedOfWord_20 ?_
  refine x_getr (K := 7) (k := 8) (o2 := 107) C (isK_lit hdm rfl rfl) (by decide) cl_X6 (by decide) ⟨rfl, rfl, rfl⟩ fl_X8_186 rfl dX8_carvedOfWord_23 ?_
  refine x_iload_n C 2 dX8_carvedOfWord_26 rfl ?_
  refine x_callVi (K := 6) (rm := rmv 0 0 0 0) (As := [iV (x1)]) (rest := [iV ((gF w 100 11) - r2), iV (0)]) C hA hR0 mf_X5_at lk_X8_160 rfl (isK_lit hdm rfl rfl) (by decide) ⟨rfl, rfl⟩ ⟨Nat.le_of_ble_eq_true rfl, Nat.le_of_ble_eq_true rfl⟩ rfl rfl (Nat.le_of_ble_eq_true rfl) hce dX8_carvedOfWord_27 hq (fun _ _ h => c_X5_at g.l g.G hdm (isK_lit hdm rfl rfl) h) (fun r4 w3 _ hq => ?_)
  refine x_min C hR0 lk_X8_165 jm_min_s jm_i jm_min_c ⟨Nat.le_of_ble_eq_true rfl, Nat.le_of_ble_eq_true rfl⟩ hce dX8_carvedOfWord_30 ?_
  refine x_max C hR0 lk_X8_171 jm_max_s jm_i jm_max_c ⟨Nat.le_of_ble_eq_true rfl, Nat.le_of_ble_eq_true rfl⟩ hce dX8_carvedOfWord_33 ?_
  exact hR _ _ _ _ hq rfl dX8_carvedOfWord_36
set_option maxRecDepth 100000 in
set_option maxHeartbeats 4000000 in
theorem c_X8_carvedOfWord (l : Launch) (G : Gd) {dm na : Nat} {ad : Nat → Nat} (hdm : dm = 0) {x1 : Int} {w w' : Wd} {r : Int}  (hq : p_X8_carvedOfWord x1 w = some (r, w')) : mI l yX8_carvedOfWord cX8_carvedOfWord 3 (some .int) (rmv 2 44 0 0) G dm na ad [.ref (ad (1)), iV (x1)] w r w' := by
  refine met_I [(0, .ref (ad (1))), (1, iV (x1))] (by decide) (Nat.le_of_ble_eq_true rfl) rfl .int rfl (fun g d C S hR => ?_)
  obtain ⟨rfl, hR0, rfl, rfl, rfl, hA⟩ := S
  exact L_X8_carvedOfWord (d := (na, ad, 0, 0)) C hdm hA hR0 ⟨Nat.zero_le _, Nat.zero_le _⟩ hR  _ w hq
set_option maxRecDepth 100000 in
set_option maxHeartbeats 4000000 in
theorem L_X8_word {g : Cx} {d : Dl} (C : CX g cX8_word 3 (some .int) RX8) (hdm : g.dm = 0) (hA : ∀ q : Nat, g.s.heap.size ≤ q → g.A q) (hR0 : g.R = rmv 7 110 2 12) (hce : d.ce + 2 ≤ 2 ∧ d.so + 12 ≤ 12) {na0 : Nat} {ad0 : Nat → Nat} {res : Rz} (hT : thC g na0 ad0 2 12 res) (hR : RGI g na0 ad0 cX8_word .int 2 12 res) (hag : AG na0 ad0 d) (x1 : Int) (x2 : Int) (w : Wd) (hq : p_X8_word x1 x2 d.na w = some res) : XG g d (hP g d w) [(0, .ref (d.ad (1))), (1, iV (x1)), (2, iV (x2))] [] 0 := by
  refine x_aload_n C 0 dX8_word_0 rfl ?_
  refine x_iload_n C 1 dX8_word_1 rfl ?_
  refine x_gcallV (K := 9) (rm := rmv 6 89 1 6) (mc' := 1) (ms' := 6) (As := [iV (x1)]) (rest := []) C hA hR0 mf_X8_needWord lk_X8_180 rfl (isK_lit hdm rfl rfl) (by decide) ⟨rfl, rfl⟩ ⟨Nat.le_of_ble_eq_true rfl, Nat.le_of_ble_eq_true rfl⟩ rfl rfl (Nat.le_of_ble_eq_true rfl) (gcc hR0 hce (by decide) (by decide)).1 hag (gcc hR0 hce (by decide) (by decide)).2 dX8_word_2 hR.2 hq (fun _ h => c_X8_needWord g.l g.G hT.2.1 hdm  h) (fun r1 d4 w3 g5 hc1 hc2 hq => ?_)
  try rw [agr g5 (K := 9) (isK_lit hdm rfl rfl) (by decide)]
  have hag := hag.trans g5
  have hce : d4.ce + 1 ≤ 2 ∧ d4.so + 6 ≤ 12 := ⟨by omega, by omega⟩
  refine x_iload_n C 2 dX8_word_5 rfl ?_
  refine ite_2 hq (fun s6 hq => ?_) (fun s7 hq => ?_)
  · refine x_tswd (tgt := 101) C (Or.inl s6) (by decide +kernel) dX8_word_6 (by decide) ?_
    exact x_gthrow C hT hR0 th2 hag (gcc hR0 hce (by decide) (by decide)).2 ⟨rfl, rfl⟩ ⟨Nat.le_of_ble_eq_true rfl, Nat.le_of_ble_eq_true rfl⟩ hq dX8_word_101 dX8_word_104 dX8_word_105 dX8_word_108
  refine ite_2 hq (fun s8 hq => ?_) (fun s9 hq => ?_)
  · refine x_tswd (tgt := 101) C (Or.inr s8) (by decide +kernel) dX8_word_6 (by decide) ?_
    exact x_gthrow C hT hR0 th2 hag (gcc hR0 hce (by decide) (by decide)).2 ⟨rfl, rfl⟩ ⟨Nat.le_of_ble_eq_true rfl, Nat.le_of_ble_eq_true rfl⟩ hq dX8_word_101 dX8_word_104 dX8_word_105 dX8_word_108
  refine ite_2 hq (fun s10 hq => ?_) (fun s11 hq => ?_)
  · refine ite_2 hq (fun s12 hq => ?_) (fun s13 hq => ?_)
    · refine x_tswk (tgt := 44) C (0) s7 (lt_sw (k := 0) s12 (by decide +kernel)) (by decide +kernel) dX8_word_6 rfl (by decide) ?_
      refine x_aload_n C 0 dX8_word_44 rfl ?_
      refine x_getr (K := 9) (k := 4) (o2 := 100) C (isK_lit hdm rfl rfl) (by decide) cl_X8 (by decide) ⟨rfl, rfl, rfl⟩ fl_X8_42 rfl dX8_word_45 ?_
      refine x_iload_n C 1 dX8_word_48 rfl ?_
      refine x_callVi (K := 7) (rm := rmv 1 21 0 0) (As := [iV (x1)]) (rest := []) C hA hR0 mf_X6_partOf lk_X8_183 rfl (isK_lit hdm rfl rfl) (by decide) ⟨rfl, rfl⟩ ⟨Nat.le_of_ble_eq_true rfl, Nat.le_of_ble_eq_true rfl⟩ rfl rfl (Nat.le_of_ble_eq_true rfl) (gce hR0 hce) dX8_word_49 hq (fun _ _ h => c_X6_partOf g.l g.G hdm (isK_lit hdm rfl rfl) h) (fun r15 w14 _ hq => ?_)
      exact hR.1 _ _ _ _ _ hag (gcd hce) hq rfl dX8_word_52
    · refine ite_2 hq (fun s16 hq => ?_) (fun s17 hq => ?_)
      · refine x_tswk (tgt := 53) C (1) s13 (lt_sw (k := 1) s16 (by decide +kernel)) (by decide +kernel) dX8_word_6 rfl (by decide) ?_
        refine x_aload_n C 0 dX8_word_53 rfl ?_
        refine x_getr (K := 9) (k := 4) (o2 := 100) C (isK_lit hdm rfl rfl) (by decide) cl_X8 (by decide) ⟨rfl, rfl, rfl⟩ fl_X8_42 rfl dX8_word_54 ?_
        refine x_getr (K := 7) (k := 8) (o2 := 107) C (isK_lit hdm rfl rfl) (by decide) cl_X6 (by decide) ⟨rfl, rfl, rfl⟩ fl_X8_186 rfl dX8_word_57 ?_
        refine x_iload_n C 1 dX8_word_60 rfl ?_
        refine x_callVi (K := 6) (rm := rmv 0 0 0 0) (As := [iV (x1)]) (rest := []) C hA hR0 mf_X5_at lk_X8_160 rfl (isK_lit hdm rfl rfl) (by decide) ⟨rfl, rfl⟩ ⟨Nat.le_of_ble_eq_true rfl, Nat.le_of_ble_eq_true rfl⟩ rfl rfl (Nat.le_of_ble_eq_true rfl) (gce hR0 hce) dX8_word_61 hq (fun _ _ h => c_X5_at g.l g.G hdm (isK_lit hdm rfl rfl) h) (fun r19 w18 _ hq => ?_)
        exact hR.1 _ _ _ _ _ hag (gcd hce) hq rfl dX8_word_64
      · refine x_tswk (tgt := 65) C (2) s17 (lt_sw (k := 2) s10 (by decide +kernel)) (by decide +kernel) dX8_word_6 rfl (by decide) ?_
        refine x_aload_n C 0 dX8_word_65 rfl ?_
        refine x_getr (K := 9) (k := 5) (o2 := 10) C (isK_lit hdm rfl rfl) (by decide) cl_X8 (by decide) ⟨rfl, rfl, rfl⟩ fl_X8_49 rfl dX8_word_66 ?_
        refine x_getr (K := 3) (k := 0) (o2 := 11) C (isK_lit hdm rfl rfl) (by decide) cl_X2 (by decide) ⟨rfl, rfl, rfl⟩ fl_X8_177 rfl dX8_word_69 ?_
        refine x_iload_n C 1 dX8_word_72 rfl ?_
        refine x_callVi (K := 6) (rm := rmv 0 0 0 0) (As := [iV (x1)]) (rest := []) C hA hR0 mf_X5_at lk_X8_160 rfl (isK_lit hdm rfl rfl) (by decide) ⟨rfl, rfl⟩ ⟨Nat.le_of_ble_eq_true rfl, Nat.le_of_ble_eq_true rfl⟩ rfl rfl (Nat.le_of_ble_eq_true rfl) (gce hR0 hce) dX8_word_73 hq (fun _ _ h => c_X5_at g.l g.G hdm (isK_lit hdm rfl rfl) h) (fun r21 w20 _ hq => ?_)
        exact hR.1 _ _ _ _ _ hag (gcd hce) hq rfl dX8_word_76
  · refine ite_2 hq (fun s22 hq => ?_) (fun s23 hq => ?_)
    · refine x_tswk (tgt := 77) C (3) s11 (lt_sw (k := 3) s22 (by decide +kernel)) (by decide +kernel) dX8_word_6 rfl (by decide) ?_
      refine x_aload_n C 0 dX8_word_77 rfl ?_
      refine x_getr (K := 9) (k := 5) (o2 := 10) C (isK_lit hdm rfl rfl) (by decide) cl_X8 (by decide) ⟨rfl, rfl, rfl⟩ fl_X8_49 rfl dX8_word_78 ?_
      refine x_getr (K := 3) (k := 1) (o2 := 13) C (isK_lit hdm rfl rfl) (by decide) cl_X2 (by decide) ⟨rfl, rfl, rfl⟩ fl_X8_189 rfl dX8_word_81 ?_
      refine x_iload_n C 1 dX8_word_84 rfl ?_
      refine x_callVi (K := 6) (rm := rmv 0 0 0 0) (As := [iV (x1)]) (rest := []) C hA hR0 mf_X5_at lk_X8_160 rfl (isK_lit hdm rfl rfl) (by decide) ⟨rfl, rfl⟩ ⟨Nat.le_of_ble_eq_true rfl, Nat.le_of_ble_eq_true rfl⟩ rfl rfl (Nat.le_of_ble_eq_true rfl) (gce hR0 hce) dX8_word_85 hq (fun _ _ h => c_X5_at g.l g.G hdm (isK_lit hdm rfl rfl) h) (fun r25 w24 _ hq => ?_)
      exact hR.1 _ _ _ _ _ hag (gcd hce) hq rfl dX8_word_88
    · refine ite_2 hq (fun s26 hq => ?_) (fun s27 hq => ?_)
      · refine x_tswk (tgt := 89) C (4) s23 (lt_sw (k := 4) s26 (by decide +kernel)) (by decide +kernel) dX8_word_6 rfl (by decide) ?_
        refine x_aload_n C 0 dX8_word_89 rfl ?_
        refine x_iload_n C 1 dX8_word_90 rfl ?_
        refine x_callVi (K := 9) (rm := rmv 2 45 0 0) (As := [iV (x1)]) (rest := []) C hA hR0 mf_X8_strokesOfWord lk_X8_192 rfl (isK_lit hdm rfl rfl) (by decide) ⟨rfl, rfl⟩ ⟨Nat.le_of_ble_eq_true rfl, Nat.le_of_ble_eq_true rfl⟩ rfl rfl (Nat.le_of_ble_eq_true rfl) (gce hR0 hce) dX8_word_91 hq (fun _ _ h => c_X8_strokesOfWord g.l g.G hdm  h) (fun r29 w28 _ hq => ?_)
        exact hR.1 _ _ _ _ _ hag (gcd hce) hq rfl dX8_word_94
      · refine x_tswk (tgt := 95) C (5) s27 s9 (by decide +kernel) dX8_word_6 rfl (by decide) ?_
        refine x_aload_n C 0 dX8_word_95 rfl ?_
        refine x_iload_n C 1 dX8_word_96 rfl ?_
        refine x_callVi (K := 9) (rm := rmv 2 44 0 0) (As := [iV (x1)]) (rest := []) C hA hR0 mf_X8_carvedOfWord lk_X8_195 rfl (isK_lit hdm rfl rfl) (by decide) ⟨rfl, rfl⟩ ⟨Nat.le_of_ble_eq_true rfl, Nat.le_of_ble_eq_true rfl⟩ rfl rfl (Nat.le_of_ble_eq_true rfl) (gce hR0 hce) dX8_word_97 hq (fun _ _ h => c_X8_carvedOfWord g.l g.G hdm  h) (fun r31 w30 _ hq => ?_)
        exact hR.1 _ _ _ _ _ hag (gcd hce) hq rfl dX8_word_100
set_option maxRecDepth 100000 in
set_option maxHeartbeats 4000000 in
theorem c_X8_word (l : Launch) (G : Gd) (hfl : l.stackTraces = false) {dm na : Nat} {ad : Nat → Nat} (hdm : dm = 0) {x1 : Int} {x2 : Int} {w : Wd} {res : Rz}  (hq : p_X8_word x1 x2 na w = some res) : mGI l yX8_word cX8_word 3 (some .int) (rmv 7 110 2 12) G dm na ad [.ref (ad (1)), iV (x1), iV (x2)] w res 2 12 := by
  refine met_GI hfl [(0, .ref (ad (1))), (1, iV (x1)), (2, iV (x2))] (by decide) (Nat.le_of_ble_eq_true rfl) rfl .int rfl (fun g d C S hT hR => ?_)
  obtain ⟨rfl, hR0, rfl, rfl, rfl, hA⟩ := S
  exact L_X8_word (d := (na, ad, 0, 0)) C hdm hA hR0 ⟨Nat.le_of_ble_eq_true rfl, Nat.le_of_ble_eq_true rfl⟩ hT hR (AG.rf (na, ad, 0, 0))  _ _ w hq
set_option maxRecDepth 100000 in
set_option maxHeartbeats 4000000 in
theorem L_X8_letter_24 {g : Cx} {d : Dl} (C : CX g cX8_letter 3 (some .int) RX8) (hdm : g.dm = 0) (hA : ∀ q : Nat, g.s.heap.size ≤ q → g.A q) (hR0 : g.R = rmv 7 110 2 12) (hce : d.ce + 1 ≤ 2 ∧ d.so + 6 ≤ 12) {na0 : Nat} {ad0 : Nat → Nat} {res : Rz} (hT : thC g na0 ad0 2 12 res) (hR : RGI g na0 ad0 cX8_letter .int 2 12 res) (hag : AG na0 ad0 d)  (w : Wd) (hq : p_X8_letter_24 d.na w = some res) : XG g d (hP g d w) [] [] 24 := by
  exact x_gthrow C hT hR0 th3 hag (gcc hR0 hce (by decide) (by decide)).2 ⟨rfl, rfl⟩ ⟨Nat.le_of_ble_eq_true rfl, Nat.le_of_ble_eq_true rfl⟩ hq dX8_letter_24 dX8_letter_27 dX8_letter_28 dX8_letter_31
set_option maxRecDepth 100000 in
set_option maxHeartbeats 4000000 in
theorem L_X8_letter {g : Cx} {d : Dl} (C : CX g cX8_letter 3 (some .int) RX8) (hdm : g.dm = 0) (hA : ∀ q : Nat, g.s.heap.size ≤ q → g.A q) (hR0 : g.R = rmv 7 110 2 12) (hce : d.ce + 2 ≤ 2 ∧ d.so + 12 ≤ 12) {na0 : Nat} {ad0 : Nat → Nat} {res : Rz} (hT : thC g na0 ad0 2 12 res) (hR : RGI g na0 ad0 cX8_letter .int 2 12 res) (hag : AG na0 ad0 d) (x1 : Int) (x2 : Int) (w : Wd) (hq : p_X8_letter x1 x2 d.na w = some res) : XG g d (hP g d w) [(0, .ref (d.ad (1))), (1, iV (x1)), (2, iV (x2))] [] 0 := by
  refine x_aload_n C 0 dX8_letter_0 rfl ?_
  refine x_iload_n C 1 dX8_letter_1 rfl ?_
  refine x_gcallV (K := 9) (rm := rmv 6 89 1 6) (mc' := 1) (ms' := 6) (As := [iV (x1)]) (rest := []) C hA hR0 mf_X8_needWord lk_X8_180 rfl (isK_lit hdm rfl rfl) (by decide) ⟨rfl, rfl⟩ ⟨Nat.le_of_ble_eq_true rfl, Nat.le_of_ble_eq_true rfl⟩ rfl rfl (Nat.le_of_ble_eq_true rfl) (gcc hR0 hce (by decide) (by decide)).1 hag (gcc hR0 hce (by decide) (by decide)).2 dX8_letter_2 hR.2 hq (fun _ h => c_X8_needWord g.l g.G hT.2.1 hdm  h) (fun r1 d4 w3 g5 hc1 hc2 hq => ?_)
  try rw [agr g5 (K := 9) (isK_lit hdm rfl rfl) (by decide)]
  have hag := hag.trans g5
  have hce : d4.ce + 1 ≤ 2 ∧ d4.so + 6 ≤ 12 := ⟨by omega, by omega⟩
  refine x_iload_n C 2 dX8_letter_5 rfl ?_
  refine x_if_lt (tgt := 24) C dX8_letter_6 (by decide) hq (fun hq => ?_) (fun hq => ?_)
  · refine XG.sub [] rfl ?_
    exact L_X8_letter_24 C hdm hA hR0 hce hT hR hag _ hq
  · refine x_iload_n C 2 dX8_letter_9 rfl ?_
    refine x_aload_n C 0 dX8_letter_10 rfl ?_
    refine x_getr (K := 9) (k := 4) (o2 := 100) C (isK_lit hdm rfl rfl) (by decide) cl_X8 (by decide) ⟨rfl, rfl, rfl⟩ fl_X8_42 rfl dX8_letter_11 ?_
    refine x_getr (K := 7) (k := 8) (o2 := 107) C (isK_lit hdm rfl rfl) (by decide) cl_X6 (by decide) ⟨rfl, rfl, rfl⟩ fl_X8_186 rfl dX8_letter_14 ?_
    refine x_iload_n C 1 dX8_letter_17 rfl ?_
    refine x_callVi (K := 6) (rm := rmv 0 0 0 0) (As := [iV (x1)]) (rest := [iV (x2)]) C hA hR0 mf_X5_at lk_X8_160 rfl (isK_lit hdm rfl rfl) (by decide) ⟨rfl, rfl⟩ ⟨Nat.le_of_ble_eq_true rfl, Nat.le_of_ble_eq_true rfl⟩ rfl rfl (Nat.le_of_ble_eq_true rfl) (gce hR0 hce) dX8_letter_18 hq (fun _ _ h => c_X5_at g.l g.G hdm (isK_lit hdm rfl rfl) h) (fun r7 w6 _ hq => ?_)
    refine x_icmp_lt (tgt := 32) C dX8_letter_21 (by decide) hq (fun hq => ?_) (fun hq => ?_)
    · refine x_aload_n C 0 dX8_letter_32 rfl ?_
      refine x_getr (K := 9) (k := 4) (o2 := 100) C (isK_lit hdm rfl rfl) (by decide) cl_X8 (by decide) ⟨rfl, rfl, rfl⟩ fl_X8_42 rfl dX8_letter_33 ?_
      refine x_iload_n C 1 dX8_letter_36 rfl ?_
      refine x_iload_n C 2 dX8_letter_37 rfl ?_
      refine x_callVi (K := 7) (rm := rmv 1 21 0 0) (As := [iV (x1), iV (x2)]) (rest := []) C hA hR0 mf_X6_byteOf lk_X8_201 rfl (isK_lit hdm rfl rfl) (by decide) ⟨rfl, rfl⟩ ⟨Nat.le_of_ble_eq_true rfl, Nat.le_of_ble_eq_true rfl⟩ rfl rfl (Nat.le_of_ble_eq_true rfl) (gce hR0 hce) dX8_letter_38 hq (fun _ _ h => c_X6_byteOf g.l g.G hdm (isK_lit hdm rfl rfl) h) (fun r9 w8 _ hq => ?_)
      exact hR.1 _ _ _ _ _ hag (gcd hce) hq rfl dX8_letter_41
    · refine XG.sub [] rfl ?_
      exact L_X8_letter_24 C hdm hA hR0 hce hT hR hag _ hq
set_option maxRecDepth 100000 in
set_option maxHeartbeats 4000000 in
theorem c_X8_letter (l : Launch) (G : Gd) (hfl : l.stackTraces = false) {dm na : Nat} {ad : Nat → Nat} (hdm : dm = 0) {x1 : Int} {x2 : Int} {w : Wd} {res : Rz}  (hq : p_X8_letter x1 x2 na w = some res) : mGI l yX8_letter cX8_letter 3 (some .int) (rmv 7 110 2 12) G dm na ad [.ref (ad (1)), iV (x1), iV (x2)] w res 2 12 := by
  refine met_GI hfl [(0, .ref (ad (1))), (1, iV (x1)), (2, iV (x2))] (by decide) (Nat.le_of_ble_eq_true rfl) rfl .int rfl (fun g d C S hT hR => ?_)
  obtain ⟨rfl, hR0, rfl, rfl, rfl, hA⟩ := S
  exact L_X8_letter (d := (na, ad, 0, 0)) C hdm hA hR0 ⟨Nat.le_of_ble_eq_true rfl, Nat.le_of_ble_eq_true rfl⟩ hT hR (AG.rf (na, ad, 0, 0))  _ _ w hq
set_option maxRecDepth 100000 in
set_option maxHeartbeats 4000000 in
theorem L_X8_needRow_15 {g : Cx} {d : Dl} (C : CX g cX8_needRow 2 none RX8) (hdm : g.dm = 0) (hA : ∀ q : Nat, g.s.heap.size ≤ q → g.A q) (hR0 : g.R = rmv 6 89 1 6) (hce : d.ce + 1 ≤ 1 ∧ d.so + 6 ≤ 6) {na0 : Nat} {ad0 : Nat → Nat} {res : Rz} (hT : thC g na0 ad0 1 6 res) (hR : RGV g na0 ad0 cX8_needRow 1 6 res) (hag : AG na0 ad0 d)  (w : Wd) (hq : p_X8_needRow_15 d.na w = some res) : XG g d (hP g d w) [] [] 15 := by
  exact x_gthrow C hT hR0 th3 hag (gcc hR0 hce (by decide) (by decide)).2 ⟨rfl, rfl⟩ ⟨Nat.le_of_ble_eq_true rfl, Nat.le_of_ble_eq_true rfl⟩ hq dX8_needRow_15 dX8_needRow_18 dX8_needRow_19 dX8_needRow_22
set_option maxRecDepth 100000 in
set_option maxHeartbeats 4000000 in
theorem L_X8_needRow {g : Cx} {d : Dl} (C : CX g cX8_needRow 2 none RX8) (hdm : g.dm = 0) (hA : ∀ q : Nat, g.s.heap.size ≤ q → g.A q) (hR0 : g.R = rmv 6 89 1 6) (hce : d.ce + 1 ≤ 1 ∧ d.so + 6 ≤ 6) {na0 : Nat} {ad0 : Nat → Nat} {res : Rz} (hT : thC g na0 ad0 1 6 res) (hR : RGV g na0 ad0 cX8_needRow 1 6 res) (hag : AG na0 ad0 d) (x1 : Int) (w : Wd) (hq : p_X8_needRow x1 d.na w = some res) : XG g d (hP g d w) [(0, .ref (d.ad (1))), (1, iV (x1))] [] 0 := by
  refine x_iload_n C 1 dX8_needRow_0 rfl ?_
  refine x_if_lt (tgt := 15) C dX8_needRow_1 (by decide) hq (fun hq => ?_) (fun hq => ?_)
  · refine XG.sub [] rfl ?_
    exact L_X8_needRow_15 C hdm hA hR0 hce hT hR hag _ hq
  · refine x_iload_n C 1 dX8_needRow_4 rfl ?_
    refine x_aload_n C 0 dX8_needRow_5 rfl ?_
    refine x_getr (K := 9) (k := 4) (o2 := 100) C (isK_lit hdm rfl rfl) (by decide) cl_X8 (by decide) ⟨rfl, rfl, rfl⟩ fl_X8_42 rfl dX8_needRow_6 ?_
    refine x_get (K := 7) (k := 1) C (isK_lit hdm rfl rfl) (by decide) cl_X6 (by decide) ⟨rfl, rfl, rfl⟩ fl_X8_109 dX8_needRow_9 ?_
    refine x_icmp_lt (tgt := 23) C dX8_needRow_12 (by decide) hq (fun hq => ?_) (fun hq => ?_)
    · exact hR.1 _ _ _ _ hag (gcd hce) hq dX8_needRow_23
    · refine XG.sub [] rfl ?_
      exact L_X8_needRow_15 C hdm hA hR0 hce hT hR hag _ hq
set_option maxRecDepth 100000 in
set_option maxHeartbeats 4000000 in
theorem c_X8_needRow (l : Launch) (G : Gd) (hfl : l.stackTraces = false) {dm na : Nat} {ad : Nat → Nat} (hdm : dm = 0) {x1 : Int} {w : Wd} {res : Rz}  (hq : p_X8_needRow x1 na w = some res) : mGV l yX8_needRow cX8_needRow 2 none (rmv 6 89 1 6) G dm na ad [.ref (ad (1)), iV (x1)] w res 1 6 := by
  refine met_GV hfl [(0, .ref (ad (1))), (1, iV (x1))] (by decide) (Nat.le_of_ble_eq_true rfl) rfl rfl (fun g d C S hT hR => ?_)
  obtain ⟨rfl, hR0, rfl, rfl, rfl, hA⟩ := S
  exact L_X8_needRow (d := (na, ad, 0, 0)) C hdm hA hR0 ⟨Nat.le_of_ble_eq_true rfl, Nat.le_of_ble_eq_true rfl⟩ hT hR (AG.rf (na, ad, 0, 0))  _ w hq
set_option maxRecDepth 100000 in
set_option maxHeartbeats 4000000 in
theorem L_X8_needCell_20 {g : Cx} {d : Dl} (C : CX g cX8_needCell 3 none RX8) (hdm : g.dm = 0) (hA : ∀ q : Nat, g.s.heap.size ≤ q → g.A q) (hR0 : g.R = rmv 7 110 2 12) (hce : d.ce + 1 ≤ 2 ∧ d.so + 6 ≤ 12) {na0 : Nat} {ad0 : Nat → Nat} {res : Rz} (hT : thC g na0 ad0 2 12 res) (hR : RGV g na0 ad0 cX8_needCell 2 12 res) (hag : AG na0 ad0 d)  (w : Wd) (hq : p_X8_needCell_20 d.na w = some res) : XG g d (hP g d w) [] [] 20 := by
  exact x_gthrow C hT hR0 th3 hag (gcc hR0 hce (by decide) (by decide)).2 ⟨rfl, rfl⟩ ⟨Nat.le_of_ble_eq_true rfl, Nat.le_of_ble_eq_true rfl⟩ hq dX8_needCell_20 dX8_needCell_23 dX8_needCell_24 dX8_needCell_27
set_option maxRecDepth 100000 in
set_option maxHeartbeats 4000000 in
theorem L_X8_needCell {g : Cx} {d : Dl} (C : CX g cX8_needCell 3 none RX8) (hdm : g.dm = 0) (hA : ∀ q : Nat, g.s.heap.size ≤ q → g.A q) (hR0 : g.R = rmv 7 110 2 12) (hce : d.ce + 2 ≤ 2 ∧ d.so + 12 ≤ 12) {na0 : Nat} {ad0 : Nat → Nat} {res : Rz} (hT : thC g na0 ad0 2 12 res) (hR : RGV g na0 ad0 cX8_needCell 2 12 res) (hag : AG na0 ad0 d) (x1 : Int) (x2 : Int) (w : Wd) (hq : p_X8_needCell x1 x2 d.na w = some res) : XG g d (hP g d w) [(0, .ref (d.ad (1))), (1, iV (x1)), (2, iV (x2))] [] 0 := by
  refine x_aload_n C 0 dX8_needCell_0 rfl ?_
  refine x_iload_n C 2 dX8_needCell_1 rfl ?_
  refine x_gcallV (K := 9) (rm := rmv 6 89 1 6) (mc' := 1) (ms' := 6) (As := [iV (x2)]) (rest := []) C hA hR0 mf_X8_needRow lk_X8_216 rfl (isK_lit hdm rfl rfl) (by decide) ⟨rfl, rfl⟩ ⟨Nat.le_of_ble_eq_true rfl, Nat.le_of_ble_eq_true rfl⟩ rfl rfl (Nat.le_of_ble_eq_true rfl) (gcc hR0 hce (by decide) (by decide)).1 hag (gcc hR0 hce (by decide) (by decide)).2 dX8_needCell_2 hR.2 hq (fun _ h => c_X8_needRow g.l g.G hT.2.1 hdm  h) (fun r1 d4 w3 g5 hc1 hc2 hq => ?_)
  try rw [agr g5 (K := 9) (isK_lit hdm rfl rfl) (by decide)]
  have hag := hag.trans g5
  have hce : d4.ce + 1 ≤ 2 ∧ d4.so + 6 ≤ 12 := ⟨by omega, by omega⟩
  refine x_iload_n C 1 dX8_needCell_5 rfl ?_
  refine x_if_lt (tgt := 20) C dX8_needCell_6 (by decide) hq (fun hq => ?_) (fun hq => ?_)
  · refine XG.sub [] rfl ?_
    exact L_X8_needCell_20 C hdm hA hR0 hce hT hR hag _ hq
  · refine x_iload_n C 1 dX8_needCell_9 rfl ?_
    refine x_aload_n C 0 dX8_needCell_10 rfl ?_
    refine x_getr (K := 9) (k := 4) (o2 := 100) C (isK_lit hdm rfl rfl) (by decide) cl_X8 (by decide) ⟨rfl, rfl, rfl⟩ fl_X8_42 rfl dX8_needCell_11 ?_
    refine x_get (K := 7) (k := 0) C (isK_lit hdm rfl rfl) (by decide) cl_X6 (by decide) ⟨rfl, rfl, rfl⟩ fl_X8_106 dX8_needCell_14 ?_
    refine x_icmp_lt (tgt := 28) C dX8_needCell_17 (by decide) hq (fun hq => ?_) (fun hq => ?_)
    · exact hR.1 _ _ _ _ hag (gcd hce) hq dX8_needCell_28
    · refine XG.sub [] rfl ?_
      exact L_X8_needCell_20 C hdm hA hR0 hce hT hR hag _ hq
set_option maxRecDepth 100000 in
set_option maxHeartbeats 4000000 in
theorem c_X8_needCell (l : Launch) (G : Gd) (hfl : l.stackTraces = false) {dm na : Nat} {ad : Nat → Nat} (hdm : dm = 0) {x1 : Int} {x2 : Int} {w : Wd} {res : Rz}  (hq : p_X8_needCell x1 x2 na w = some res) : mGV l yX8_needCell cX8_needCell 3 none (rmv 7 110 2 12) G dm na ad [.ref (ad (1)), iV (x1), iV (x2)] w res 2 12 := by
  refine met_GV hfl [(0, .ref (ad (1))), (1, iV (x1)), (2, iV (x2))] (by decide) (Nat.le_of_ble_eq_true rfl) rfl rfl (fun g d C S hT hR => ?_)
  obtain ⟨rfl, hR0, rfl, rfl, rfl, hA⟩ := S
  exact L_X8_needCell (d := (na, ad, 0, 0)) C hdm hA hR0 ⟨Nat.le_of_ble_eq_true rfl, Nat.le_of_ble_eq_true rfl⟩ hT hR (AG.rf (na, ad, 0, 0))  _ _ w hq
set_option maxRecDepth 100000 in
set_option maxHeartbeats 4000000 in
theorem L_X2_wordOn_73 {g : Cx} {d : Dl} (C : CX g cX2_wordOn 7 (some .int) RX2) (hdm : g.dm = 0) (hA : ∀ q : Nat, g.s.heap.size ≤ q → g.A q) (hR0 : g.R = rmv 1 21 0 0) (hce : d.ce ≤ g.R.cells ∧ d.so ≤ g.R.slots) {res : Int × Wd} (hR : rtI g d cX2_wordOn .int res) {o0 : Nat} {o1 : Nat} (h0 : isK d.na g.dm 3 o0) (h1 : isK d.na g.dm 7 o1) {k3 : Int → Int → Int → Wd → Option (Int × Wd)} (hk3 : ∀ (x2 : Int) (x3 : Int) (x4 : Int) (w : Wd), k3 x2 x3 x4 w = some res → XG g d (hP g d w) [(0, .ref (d.ad (o0))), (1, .ref (d.ad (o1))), (2, iV (x2)), (3, iV (x3)), (4, iV (x4))] [] 3) (x2 : Int) (x3 : Int) (x4 : Int) (w : Wd) (hq : p_X2_wordOn_73 o0 o1 k3 x2 x3 x4 w = some res) : XG g d (hP g d w) [(0, .ref (d.ad (o0))), (1, .ref (d.ad (o1))), (2, iV (x2)), (3, iV (x3)), (4, iV (x4))] [] 73 := by
  refine x_iinc (lv' := [(4, iV (x4 + 1)), (0, .ref (d.ad (o0))), (1, .ref (d.ad (o1))), (2, iV (x2)), (3, iV (x3))]) C 4 dX2_wordOn_73 rfl (by decide) rfl ?_
  refine x_goto (tgt := 3) C dX2_wordOn_76 (by decide) ?_
  refine XG.sub [1, 2, 3, 4, 0] rfl ?_
  exact hk3 _ _ _ _ hq
set_option maxRecDepth 100000 in
set_option maxHeartbeats 4000000 in
theorem L_X2_wordOn_50 {g : Cx} {d : Dl} (C : CX g cX2_wordOn 7 (some .int) RX2) (hdm : g.dm = 0) (hA : ∀ q : Nat, g.s.heap.size ≤ q → g.A q) (hR0 : g.R = rmv 1 21 0 0) (hce : d.ce ≤ g.R.cells ∧ d.so ≤ g.R.slots) {res : Int × Wd} (hR : rtI g d cX2_wordOn .int res) {o0 : Nat} {o1 : Nat} (h0 : isK d.na g.dm 3 o0) (h1 : isK d.na g.dm 7 o1) {k3 : Int → Int → Int → Wd → Option (Int × Wd)} (hk3 : ∀ (x2 : Int) (x3 : Int) (x4 : Int) (w : Wd), k3 x2 x3 x4 w = some res → XG g d (hP g d w) [(0, .ref (d.ad (o0))), (1, .ref (d.ad (o1))), (2, iV (x2)), (3, iV (x3)), (4, iV (x4))] [] 3) (x2 : Int) (x3 : Int) (x4 : Int) (s0 : Int) (w : Wd) (hq : p_X2_wordOn_50 o0 o1 k3 x2 x3 x4 s0 w = some res) : XG g d (hP g d w) [(0, .ref (d.ad (o0))), (1, .ref (d.ad (o1))), (2, iV (x2)), (3, iV (x3)), (4, iV (x4))] [iV (s0)] 50 := by
  refine x_istore (lv' := [(6, iV (s0)), (0, .ref (d.ad (o0))), (1, .ref (d.ad (o1))), (2, iV (x2)), (3, iV (x3)), (4, iV (x4))]) C dX2_wordOn_50 (by decide) rfl ?_
  refine x_iload C 0 dX2_wordOn_52 rfl ?_
  refine x_if_eq (tgt := 73) C dX2_wordOn_54 (by decide) hq (fun hq => ?_) (fun hq => ?_)
  · refine XG.sub [1, 2, 3, 4, 5] rfl ?_
    exact L_X2_wordOn_73 C hdm hA hR0 hce hR h0 h1 hk3 _ _ _ _ hq
  · refine x_aload_n C 1 dX2_wordOn_57 rfl ?_
    refine x_getr (K := 3) (k := 0) (o2 := o0 + 1) C h0 (by decide) cl_X2 (by decide) ⟨rfl, rfl, rfl⟩ fl_X2_14 rfl dX2_wordOn_58 ?_
    refine x_iload C 5 dX2_wordOn_61 rfl ?_
    refine x_callVi (K := 6) (rm := rmv 0 0 0 0) (As := [iV (x4)]) (rest := []) C hA hR0 mf_X5_at lk_X2_50 rfl (ik3 h0).1 (by decide) ⟨rfl, rfl⟩ ⟨Nat.le_of_ble_eq_true rfl, Nat.le_of_ble_eq_true rfl⟩ rfl rfl (Nat.le_of_ble_eq_true rfl) hce dX2_wordOn_63 hq (fun _ _ h => c_X5_at g.l g.G hdm (ik3 h0).1 h) (fun r2 w1 _ hq => ?_)
    refine x_iload_n C 4 dX2_wordOn_66 rfl ?_
    refine x_icmp_ne (tgt := 73) C dX2_wordOn_67 (by decide) hq (fun hq => ?_) (fun hq => ?_)
    · refine XG.sub [1, 2, 3, 4, 5] rfl ?_
      exact L_X2_wordOn_73 C hdm hA hR0 hce hR h0 h1 hk3 _ _ _ _ hq
    · refine x_iload C 5 dX2_wordOn_70 rfl ?_
      exact hR _ _ _ _ hq rfl dX2_wordOn_72
set_option maxRecDepth 100000 in
set_option maxHeartbeats 4000000 in
theorem L_X2_wordOn_49 {g : Cx} {d : Dl} (C : CX g cX2_wordOn 7 (some .int) RX2) (hdm : g.dm = 0) (hA : ∀ q : Nat, g.s.heap.size ≤ q → g.A q) (hR0 : g.R = rmv 1 21 0 0) (hce : d.ce ≤ g.R.cells ∧ d.so ≤ g.R.slots) {res : Int × Wd} (hR : rtI g d cX2_wordOn .int res) {o0 : Nat} {o1 : Nat} (h0 : isK d.na g.dm 3 o0) (h1 : isK d.na g.dm 7 o1) {k3 : Int → Int → Int → Wd → Option (Int × Wd)} (hk3 : ∀ (x2 : Int) (x3 : Int) (x4 : Int) (w : Wd), k3 x2 x3 x4 w = some res → XG g d (hP g d w) [(0, .ref (d.ad (o0))), (1, .ref (d.ad (o1))), (2, iV (x2)), (3, iV (x3)), (4, iV (x4))] [] 3) (x2 : Int) (x3 : Int) (x4 : Int) (w : Wd) (hq : p_X2_wordOn_49 o0 o1 k3 x2 x3 x4 w = some res) : XG g d (hP g d w) [(0, .ref (d.ad (o0))), (1, .ref (d.ad (o1))), (2, iV (x2)), (3, iV (x3)), (4, iV (x4))] [] 49 := by
  refine x_iconst C dX2_wordOn_49 ?_
  exact L_X2_wordOn_50 C hdm hA hR0 hce hR h0 h1 hk3 _ _ _ _ _ hq
set_option maxRecDepth 100000 in
set_option maxHeartbeats 4000000 in
theorem L_X2_wordOn_3 {g : Cx} {d : Dl} (C : CX g cX2_wordOn 7 (some .int) RX2) (hdm : g.dm = 0) (hA : ∀ q : Nat, g.s.heap.size ≤ q → g.A q) (hR0 : g.R = rmv 1 21 0 0) (hce : d.ce ≤ g.R.cells ∧ d.so ≤ g.R.slots) {res : Int × Wd} (hR : rtI g d cX2_wordOn .int res) {o0 : Nat} {o1 : Nat} (h0 : isK d.na g.dm 3 o0) (h1 : isK d.na g.dm 7 o1) : ∀ (n : Nat) (x2 : Int) (x3 : Int) (x4 : Int) (w : Wd), p_X2_wordOn_3 o0 o1 n x2 x3 x4 w = some res → XG g d (hP g d w) [(0, .ref (d.ad (o0))), (1, .ref (d.ad (o1))), (2, iV (x2)), (3, iV (x3)), (4, iV (x4))] [] 3 := by
  intro n
  induction n with
  | zero => intro x2 x3 x4 w  hq; exact nomatch (show none = some _ from hq)
  | succ n ih =>
    intro x2 x3 x4 w  hq
    refine x_iload C 4 dX2_wordOn_3 rfl ?_
    refine x_aload_n C 0 dX2_wordOn_5 rfl ?_
    refine x_get (K := 3) (k := 4) C h0 (by decide) cl_X2 (by decide) ⟨rfl, rfl, rfl⟩ fl_X2_29 dX2_wordOn_6 ?_
    refine x_icmp_ge (tgt := 79) C dX2_wordOn_9 (by decide) hq (fun hq => ?_) (fun hq => ?_)
    · refine x_iconst C dX2_wordOn_79 ?_
      exact hR _ _ _ _ hq rfl dX2_wordOn_80
    · refine x_aload_n C 0 dX2_wordOn_12 rfl ?_
      refine x_getr (K := 3) (k := 1) (o2 := o0 + 3) C h0 (by decide) cl_X2 (by decide) ⟨rfl, rfl, rfl⟩ fl_X2_20 rfl dX2_wordOn_13 ?_
      refine x_iload C 4 dX2_wordOn_16 rfl ?_
      refine x_callVi (K := 6) (rm := rmv 0 0 0 0) (As := [iV (x4)]) (rest := []) C hA hR0 mf_X5_at lk_X2_50 rfl (ik3 h0).2.1 (by decide) ⟨rfl, rfl⟩ ⟨Nat.le_of_ble_eq_true rfl, Nat.le_of_ble_eq_true rfl⟩ rfl rfl (Nat.le_of_ble_eq_true rfl) hce dX2_wordOn_18 hq (fun _ _ h => c_X5_at g.l g.G hdm (ik3 h0).2.1 h) (fun r2 w1 _ hq => ?_)
      refine x_istore (lv' := [(5, iV (r2)), (0, .ref (d.ad (o0))), (1, .ref (d.ad (o1))), (2, iV (x2)), (3, iV (x3)), (4, iV (x4))]) C dX2_wordOn_21 (by decide) rfl ?_
      refine x_iload C 0 dX2_wordOn_23 rfl ?_
      refine x_iload_n C 3 dX2_wordOn_25 rfl ?_
      refine x_icmp_gt (tgt := 49) C dX2_wordOn_26 (by decide) hq (fun hq => ?_) (fun hq => ?_)
      · refine XG.sub [1, 2, 3, 4, 5] rfl ?_
        exact L_X2_wordOn_49 C hdm hA hR0 hce hR h0 h1 ih _ _ _ _ hq
      · refine x_iload_n C 3 dX2_wordOn_29 rfl ?_
        refine x_iload C 0 dX2_wordOn_30 rfl ?_
        refine x_aload_n C 2 dX2_wordOn_32 rfl ?_
        refine x_getr (K := 7) (k := 8) (o2 := o1 + 7) C h1 (by decide) cl_X6 (by decide) ⟨rfl, rfl, rfl⟩ fl_X2_79 rfl dX2_wordOn_33 ?_
        refine x_iload C 5 dX2_wordOn_36 rfl ?_
        refine x_callVi (K := 6) (rm := rmv 0 0 0 0) (As := [iV (x4)]) (rest := [iV (r2), iV (x2)]) C hA hR0 mf_X5_at lk_X2_50 rfl (ik7 h1).2.2.2.1 (by decide) ⟨rfl, rfl⟩ ⟨Nat.le_of_ble_eq_true rfl, Nat.le_of_ble_eq_true rfl⟩ rfl rfl (Nat.le_of_ble_eq_true rfl) hce dX2_wordOn_38 hq (fun _ _ h => c_X5_at g.l g.G hdm (ik7 h1).2.2.2.1 h) (fun r4 w3 _ hq => ?_)
        refine x_iadd C dX2_wordOn_41 ?_
        refine x_icmp_ge (tgt := 49) C dX2_wordOn_42 (by decide) hq (fun hq => ?_) (fun hq => ?_)
        · refine XG.sub [1, 2, 3, 4, 5] rfl ?_
          exact L_X2_wordOn_49 C hdm hA hR0 hce hR h0 h1 ih _ _ _ _ hq
        · refine x_iconst C dX2_wordOn_45 ?_
          refine x_goto (tgt := 50) C dX2_wordOn_46 (by decide) ?_
          refine XG.sub [1, 2, 3, 4, 5] rfl ?_
          exact L_X2_wordOn_50 C hdm hA hR0 hce hR h0 h1 ih _ _ _ _ _ hq
set_option maxRecDepth 100000 in
set_option maxHeartbeats 4000000 in
theorem L_X2_wordOn {g : Cx} {d : Dl} (C : CX g cX2_wordOn 7 (some .int) RX2) (hdm : g.dm = 0) (hA : ∀ q : Nat, g.s.heap.size ≤ q → g.A q) (hR0 : g.R = rmv 1 21 0 0) (hce : d.ce ≤ g.R.cells ∧ d.so ≤ g.R.slots) {res : Int × Wd} (hR : rtI g d cX2_wordOn .int res) {o0 : Nat} {o1 : Nat} (h0 : isK d.na g.dm 3 o0) (h1 : isK d.na g.dm 7 o1) (x2 : Int) (x3 : Int) (w : Wd) (hq : p_X2_wordOn o0 o1 x2 x3 w = some res) : XG g d (hP g d w) [(0, .ref (d.ad (o0))), (1, .ref (d.ad (o1))), (2, iV (x2)), (3, iV (x3))] [] 0 := by
  refine x_iconst C dX2_wordOn_0 ?_
  refine x_istore (lv' := [(4, iV (0)), (0, .ref (d.ad (o0))), (1, .ref (d.ad (o1))), (2, iV (x2)), (3, iV (x3))]) C dX2_wordOn_1 (by decide) rfl ?_
  refine XG.sub [1, 2, 3, 4, 0] rfl ?_
  exact L_X2_wordOn_3 C hdm hA hR0 hce hR h0 h1 _ _ _ _ _ hq
set_option maxRecDepth 100000 in
set_option maxHeartbeats 4000000 in
theorem c_X2_wordOn (l : Launch) (G : Gd) {dm na : Nat} {ad : Nat → Nat} (hdm : dm = 0) {o0 : Nat} {o1 : Nat} {x2 : Int} {x3 : Int} {w w' : Wd} {r : Int} (h0 : isK na dm 3 o0) (h1 : isK na dm 7 o1) (hq : p_X2_wordOn o0 o1 x2 x3 w = some (r, w')) : mI l yX2_wordOn cX2_wordOn 7 (some .int) (rmv 1 21 0 0) G dm na ad [.ref (ad (o0)), .ref (ad (o1)), iV (x2), iV (x3)] w r w' := by
  refine met_I [(0, .ref (ad (o0))), (1, .ref (ad (o1))), (2, iV (x2)), (3, iV (x3))] (by decide) (Nat.le_of_ble_eq_true rfl) rfl .int rfl (fun g d C S hR => ?_)
  obtain ⟨rfl, hR0, rfl, rfl, rfl, hA⟩ := S
  exact L_X2_wordOn (d := (na, ad, 0, 0)) C hdm hA hR0 ⟨Nat.zero_le _, Nat.zero_le _⟩ hR h0 h1 _ _ w hq
set_option maxRecDepth 100000 in
set_option maxHeartbeats 4000000 in
theorem L_X8_cell {g : Cx} {d : Dl} (C : CX g cX8_cell 4 (some .int) RX8) (hdm : g.dm = 0) (hA : ∀ q : Nat, g.s.heap.size ≤ q → g.A q) (hR0 : g.R = rmv 8 132 2 12) (hce : d.ce + 2 ≤ 2 ∧ d.so + 12 ≤ 12) {na0 : Nat} {ad0 : Nat → Nat} {res : Rz} (hT : thC g na0 ad0 2 12 res) (hR : RGI g na0 ad0 cX8_cell .int 2 12 res) (hag : AG na0 ad0 d) (x1 : Int) (x2 : Int) (w : Wd) (hq : p_X8_cell x1 x2 d.na w = some res) : XG g d (hP g d w) [(0, .ref (d.ad (1))), (1, iV (x1)), (2, iV (x2))] [] 0 := by
  refine x_aload_n C 0 dX8_cell_0 rfl ?_
  refine x_iload_n C 1 dX8_cell_1 rfl ?_
  refine x_iload_n C 2 dX8_cell_2 rfl ?_
  refine x_gcallV (K := 9) (rm := rmv 7 110 2 12) (mc' := 2) (ms' := 12) (As := [iV (x1), iV (x2)]) (rest := []) C hA hR0 mf_X8_needCell lk_X8_204 rfl (isK_lit hdm rfl rfl) (by decide) ⟨rfl, rfl⟩ ⟨Nat.le_of_ble_eq_true rfl, Nat.le_of_ble_eq_true rfl⟩ rfl rfl (Nat.le_of_ble_eq_true rfl) (gcc hR0 hce (by decide) (by decide)).1 hag (gcc hR0 hce (by decide) (by decide)).2 dX8_cell_3 hR.2 hq (fun _ h => c_X8_needCell g.l g.G hT.2.1 hdm  h) (fun r1 d4 w3 g5 hc1 hc2 hq => ?_)
  try rw [agr g5 (K := 9) (isK_lit hdm rfl rfl) (by decide)]
  have hag := hag.trans g5
  have hce : d4.ce + 0 ≤ 2 ∧ d4.so + 0 ≤ 12 := ⟨by omega, by omega⟩
  refine x_aload_n C 0 dX8_cell_6 rfl ?_
  refine x_getr (K := 9) (k := 4) (o2 := 100) C (isK_lit hdm rfl rfl) (by decide) cl_X8 (by decide) ⟨rfl, rfl, rfl⟩ fl_X8_42 rfl dX8_cell_7 ?_
  refine x_iload_n C 1 dX8_cell_10 rfl ?_
  refine x_iload_n C 2 dX8_cell_11 rfl ?_
  refine x_callVi (K := 7) (rm := rmv 1 21 0 0) (As := [iV (x1), iV (x2)]) (rest := []) C hA hR0 mf_X6_flawed lk_X8_208 rfl (isK_lit hdm rfl rfl) (by decide) ⟨rfl, rfl⟩ ⟨Nat.le_of_ble_eq_true rfl, Nat.le_of_ble_eq_true rfl⟩ rfl rfl (Nat.le_of_ble_eq_true rfl) (gce hR0 hce) dX8_cell_12 hq (fun _ _ h => c_X6_flawed g.l g.G hdm (isK_lit hdm rfl rfl) h) (fun r7 w6 _ hq => ?_)
  refine x_if_eq (tgt := 20) C dX8_cell_15 (by decide) hq (fun hq => ?_) (fun hq => ?_)
  · refine x_aload_n C 0 dX8_cell_20 rfl ?_
    refine x_getr (K := 9) (k := 5) (o2 := 10) C (isK_lit hdm rfl rfl) (by decide) cl_X8 (by decide) ⟨rfl, rfl, rfl⟩ fl_X8_49 rfl dX8_cell_21 ?_
    refine x_aload_n C 0 dX8_cell_24 rfl ?_
    refine x_getr (K := 9) (k := 4) (o2 := 100) C (isK_lit hdm rfl rfl) (by decide) cl_X8 (by decide) ⟨rfl, rfl, rfl⟩ fl_X8_42 rfl dX8_cell_25 ?_
    refine x_iload_n C 1 dX8_cell_28 rfl ?_
    refine x_iload_n C 2 dX8_cell_29 rfl ?_
    refine x_callVi (K := 3) (rm := rmv 1 21 0 0) (As := [.ref (d4.ad (100)), iV (x1), iV (x2)]) (rest := []) C hA hR0 mf_X2_wordOn lk_X8_212 rfl (isK_lit hdm rfl rfl) (by decide) ⟨rfl, rfl⟩ ⟨Nat.le_of_ble_eq_true rfl, Nat.le_of_ble_eq_true rfl⟩ rfl rfl (Nat.le_of_ble_eq_true rfl) (gce hR0 hce) dX8_cell_30 hq (fun _ _ h => c_X2_wordOn g.l g.G hdm (isK_lit hdm rfl rfl) (isK_lit hdm rfl rfl) h) (fun r9 w8 _ hq => ?_)
    refine x_istore_n (lv' := [(3, iV (r9)), (0, .ref (d4.ad (1))), (1, iV (x1)), (2, iV (x2))]) C dX8_cell_33 (by decide) rfl ?_
    refine x_iload_n C 0 dX8_cell_34 rfl ?_
    refine x_iconst C dX8_cell_35 ?_
    refine x_icmp_ne (tgt := 43) C dX8_cell_36 (by decide) hq (fun hq => ?_) (fun hq => ?_)
    · refine x_aload_n C 1 dX8_cell_43 rfl ?_
      refine x_getr (K := 9) (k := 4) (o2 := 100) C (isK_lit hdm rfl rfl) (by decide) cl_X8 (by decide) ⟨rfl, rfl, rfl⟩ fl_X8_42 rfl dX8_cell_44 ?_
      refine x_iload_n C 0 dX8_cell_47 rfl ?_
      refine x_iload_n C 2 dX8_cell_48 rfl ?_
      refine x_aload_n C 1 dX8_cell_49 rfl ?_
      refine x_getr (K := 9) (k := 5) (o2 := 10) C (isK_lit hdm rfl rfl) (by decide) cl_X8 (by decide) ⟨rfl, rfl, rfl⟩ fl_X8_49 rfl dX8_cell_50 ?_
      refine x_getr (K := 3) (k := 1) (o2 := 13) C (isK_lit hdm rfl rfl) (by decide) cl_X2 (by decide) ⟨rfl, rfl, rfl⟩ fl_X8_189 rfl dX8_cell_53 ?_
      refine x_iload_n C 0 dX8_cell_56 rfl ?_
      refine x_callVi (K := 6) (rm := rmv 0 0 0 0) (As := [iV (r9)]) (rest := [iV (x1), iV (r9), .ref (d4.ad (100))]) C hA hR0 mf_X5_at lk_X8_160 rfl (isK_lit hdm rfl rfl) (by decide) ⟨rfl, rfl⟩ ⟨Nat.le_of_ble_eq_true rfl, Nat.le_of_ble_eq_true rfl⟩ rfl rfl (Nat.le_of_ble_eq_true rfl) (gce hR0 hce) dX8_cell_57 hq (fun _ _ h => c_X5_at g.l g.G hdm (isK_lit hdm rfl rfl) h) (fun r11 w10 _ hq => ?_)
      refine x_isub C dX8_cell_60 ?_
      refine x_callVi (K := 7) (rm := rmv 1 21 0 0) (As := [iV (r9), iV (x1 - r11)]) (rest := []) C hA hR0 mf_X6_byteOf lk_X8_201 rfl (isK_lit hdm rfl rfl) (by decide) ⟨rfl, rfl⟩ ⟨Nat.le_of_ble_eq_true rfl, Nat.le_of_ble_eq_true rfl⟩ rfl rfl (Nat.le_of_ble_eq_true rfl) (gce hR0 hce) dX8_cell_61 hq (fun _ _ h => c_X6_byteOf g.l g.G hdm (isK_lit hdm rfl rfl) h) (fun r13 w12 _ hq => ?_)
      exact hR.1 _ _ _ _ _ hag (gcd hce) hq rfl dX8_cell_64
    · refine x_iconst C dX8_cell_39 ?_
      refine x_goto (tgt := 64) C dX8_cell_40 (by decide) ?_
      exact hR.1 _ _ _ _ _ hag (gcd hce) hq rfl dX8_cell_64
  · refine x_iconst C dX8_cell_18 ?_
    exact hR.1 _ _ _ _ _ hag (gcd hce) hq rfl dX8_cell_19
set_option maxRecDepth 100000 in
set_option maxHeartbeats 4000000 in
theorem c_X8_cell (l : Launch) (G : Gd) (hfl : l.stackTraces = false) {dm na : Nat} {ad : Nat → Nat} (hdm : dm = 0) {x1 : Int} {x2 : Int} {w : Wd} {res : Rz}  (hq : p_X8_cell x1 x2 na w = some res) : mGI l yX8_cell cX8_cell 4 (some .int) (rmv 8 132 2 12) G dm na ad [.ref (ad (1)), iV (x1), iV (x2)] w res 2 12 := by
  refine met_GI hfl [(0, .ref (ad (1))), (1, iV (x1)), (2, iV (x2))] (by decide) (Nat.le_of_ble_eq_true rfl) rfl .int rfl (fun g d C S hT hR => ?_)
  obtain ⟨rfl, hR0, rfl, rfl, rfl, hA⟩ := S
  exact L_X8_cell (d := (na, ad, 0, 0)) C hdm hA hR0 ⟨Nat.le_of_ble_eq_true rfl, Nat.le_of_ble_eq_true rfl⟩ hT hR (AG.rf (na, ad, 0, 0))  _ _ w hq
set_option maxRecDepth 100000 in
set_option maxHeartbeats 4000000 in
theorem L_X8_wordAt {g : Cx} {d : Dl} (C : CX g cX8_wordAt 3 (some .int) RX8) (hdm : g.dm = 0) (hA : ∀ q : Nat, g.s.heap.size ≤ q → g.A q) (hR0 : g.R = rmv 8 132 2 12) (hce : d.ce + 2 ≤ 2 ∧ d.so + 12 ≤ 12) {na0 : Nat} {ad0 : Nat → Nat} {res : Rz} (hT : thC g na0 ad0 2 12 res) (hR : RGI g na0 ad0 cX8_wordAt .int 2 12 res) (hag : AG na0 ad0 d) (x1 : Int) (x2 : Int) (w : Wd) (hq : p_X8_wordAt x1 x2 d.na w = some res) : XG g d (hP g d w) [(0, .ref (d.ad (1))), (1, iV (x1)), (2, iV (x2))] [] 0 := by
  refine x_aload_n C 0 dX8_wordAt_0 rfl ?_
  refine x_iload_n C 1 dX8_wordAt_1 rfl ?_
  refine x_iload_n C 2 dX8_wordAt_2 rfl ?_
  refine x_gcallV (K := 9) (rm := rmv 7 110 2 12) (mc' := 2) (ms' := 12) (As := [iV (x1), iV (x2)]) (rest := []) C hA hR0 mf_X8_needCell lk_X8_204 rfl (isK_lit hdm rfl rfl) (by decide) ⟨rfl, rfl⟩ ⟨Nat.le_of_ble_eq_true rfl, Nat.le_of_ble_eq_true rfl⟩ rfl rfl (Nat.le_of_ble_eq_true rfl) (gcc hR0 hce (by decide) (by decide)).1 hag (gcc hR0 hce (by decide) (by decide)).2 dX8_wordAt_3 hR.2 hq (fun _ h => c_X8_needCell g.l g.G hT.2.1 hdm  h) (fun r1 d4 w3 g5 hc1 hc2 hq => ?_)
  try rw [agr g5 (K := 9) (isK_lit hdm rfl rfl) (by decide)]
  have hag := hag.trans g5
  have hce : d4.ce + 0 ≤ 2 ∧ d4.so + 0 ≤ 12 := ⟨by omega, by omega⟩
  refine x_aload_n C 0 dX8_wordAt_6 rfl ?_
  refine x_getr (K := 9) (k := 5) (o2 := 10) C (isK_lit hdm rfl rfl) (by decide) cl_X8 (by decide) ⟨rfl, rfl, rfl⟩ fl_X8_49 rfl dX8_wordAt_7 ?_
  refine x_aload_n C 0 dX8_wordAt_10 rfl ?_
  refine x_getr (K := 9) (k := 4) (o2 := 100) C (isK_lit hdm rfl rfl) (by decide) cl_X8 (by decide) ⟨rfl, rfl, rfl⟩ fl_X8_42 rfl dX8_wordAt_11 ?_
  refine x_iload_n C 1 dX8_wordAt_14 rfl ?_
  refine x_iload_n C 2 dX8_wordAt_15 rfl ?_
  refine x_callVi (K := 3) (rm := rmv 1 21 0 0) (As := [.ref (d4.ad (100)), iV (x1), iV (x2)]) (rest := []) C hA hR0 mf_X2_wordOn lk_X8_212 rfl (isK_lit hdm rfl rfl) (by decide) ⟨rfl, rfl⟩ ⟨Nat.le_of_ble_eq_true rfl, Nat.le_of_ble_eq_true rfl⟩ rfl rfl (Nat.le_of_ble_eq_true rfl) (gce hR0 hce) dX8_wordAt_16 hq (fun _ _ h => c_X2_wordOn g.l g.G hdm (isK_lit hdm rfl rfl) (isK_lit hdm rfl rfl) h) (fun r7 w6 _ hq => ?_)
  exact hR.1 _ _ _ _ _ hag (gcd hce) hq rfl dX8_wordAt_19
set_option maxRecDepth 100000 in
set_option maxHeartbeats 4000000 in
theorem c_X8_wordAt (l : Launch) (G : Gd) (hfl : l.stackTraces = false) {dm na : Nat} {ad : Nat → Nat} (hdm : dm = 0) {x1 : Int} {x2 : Int} {w : Wd} {res : Rz}  (hq : p_X8_wordAt x1 x2 na w = some res) : mGI l yX8_wordAt cX8_wordAt 3 (some .int) (rmv 8 132 2 12) G dm na ad [.ref (ad (1)), iV (x1), iV (x2)] w res 2 12 := by
  refine met_GI hfl [(0, .ref (ad (1))), (1, iV (x1)), (2, iV (x2))] (by decide) (Nat.le_of_ble_eq_true rfl) rfl .int rfl (fun g d C S hT hR => ?_)
  obtain ⟨rfl, hR0, rfl, rfl, rfl, hA⟩ := S
  exact L_X8_wordAt (d := (na, ad, 0, 0)) C hdm hA hR0 ⟨Nat.le_of_ble_eq_true rfl, Nat.le_of_ble_eq_true rfl⟩ hT hR (AG.rf (na, ad, 0, 0))  _ _ w hq
set_option maxRecDepth 100000 in
set_option maxHeartbeats 4000000 in
theorem L_X8_freeIn_52 {g : Cx} {d : Dl} (C : CX g cX8_freeIn 4 (some .int) RX8) (hdm : g.dm = 0) (hA : ∀ q : Nat, g.s.heap.size ≤ q → g.A q) (hR0 : g.R = rmv 7 110 1 6) (hce : d.ce + 0 ≤ 1 ∧ d.so + 0 ≤ 6) {na0 : Nat} {ad0 : Nat → Nat} {res : Rz} (hT : thC g na0 ad0 1 6 res) (hR : RGI g na0 ad0 cX8_freeIn .int 1 6 res) (hag : AG na0 ad0 d) {k9 : Int → Int → Int → Nat → Wd → Option (Rz)} (hk9 : ∀ (x1 : Int) (x2 : Int) (x3 : Int) (w : Wd), k9 x1 x2 x3 d.na w = some res → XG g d (hP g d w) [(0, .ref (d.ad (1))), (1, iV (x1)), (2, iV (x2)), (3, iV (x3))] [] 9) (x1 : Int) (x2 : Int) (x3 : Int) (w : Wd) (hq : p_X8_freeIn_52 k9 x1 x2 x3 d.na w = some res) : XG g d (hP g d w) [(0, .ref (d.ad (1))), (1, iV (x1)), (2, iV (x2)), (3, iV (x3))] [] 52 := by
  refine x_iinc (lv' := [(3, iV (x3 + 1)), (0, .ref (d.ad (1))), (1, iV (x1)), (2, iV (x2))]) C 3 dX8_freeIn_52 rfl (by decide) rfl ?_
  refine x_goto (tgt := 9) C dX8_freeIn_55 (by decide) ?_
  refine XG.sub [1, 2, 3, 0] rfl ?_
  exact hk9 _ _ _ _ hq
set_option maxRecDepth 100000 in
set_option maxHeartbeats 4000000 in
theorem L_X8_freeIn_9 {g : Cx} {d : Dl} (C : CX g cX8_freeIn 4 (some .int) RX8) (hdm : g.dm = 0) (hA : ∀ q : Nat, g.s.heap.size ≤ q → g.A q) (hR0 : g.R = rmv 7 110 1 6) (hce : d.ce + 0 ≤ 1 ∧ d.so + 0 ≤ 6) {na0 : Nat} {ad0 : Nat → Nat} {res : Rz} (hT : thC g na0 ad0 1 6 res) (hR : RGI g na0 ad0 cX8_freeIn .int 1 6 res) (hag : AG na0 ad0 d) : ∀ (n : Nat) (x1 : Int) (x2 : Int) (x3 : Int) (w : Wd), p_X8_freeIn_9 n x1 x2 x3 d.na w = some res → XG g d (hP g d w) [(0, .ref (d.ad (1))), (1, iV (x1)), (2, iV (x2)), (3, iV (x3))] [] 9 := by
  intro n
  induction n with
  | zero => intro x1 x2 x3 w  hq; exact nomatch (show none = some _ from hq)
  | succ n ih =>
    intro x1 x2 x3 w  hq
    refine x_iload_n C 3 dX8_freeIn_9 rfl ?_
    refine x_aload_n C 0 dX8_freeIn_10 rfl ?_
    refine x_getr (K := 9) (k := 4) (o2 := 100) C (isK_lit hdm rfl rfl) (by decide) cl_X8 (by decide) ⟨rfl, rfl, rfl⟩ fl_X8_42 rfl dX8_freeIn_11 ?_
    refine x_get (K := 7) (k := 0) C (isK_lit hdm rfl rfl) (by decide) cl_X6 (by decide) ⟨rfl, rfl, rfl⟩ fl_X8_106 dX8_freeIn_14 ?_
    refine x_icmp_ge (tgt := 58) C dX8_freeIn_17 (by decide) hq (fun hq => ?_) (fun hq => ?_)
    · refine x_iload_n C 2 dX8_freeIn_58 rfl ?_
      exact hR.1 _ _ _ _ _ hag (gcd hce) hq rfl dX8_freeIn_59
    · refine x_aload_n C 0 dX8_freeIn_20 rfl ?_
      refine x_getr (K := 9) (k := 4) (o2 := 100) C (isK_lit hdm rfl rfl) (by decide) cl_X8 (by decide) ⟨rfl, rfl, rfl⟩ fl_X8_42 rfl dX8_freeIn_21 ?_
      refine x_iload_n C 3 dX8_freeIn_24 rfl ?_
      refine x_iload_n C 1 dX8_freeIn_25 rfl ?_
      refine x_callVi (K := 7) (rm := rmv 1 21 0 0) (As := [iV (x3), iV (x1)]) (rest := []) C hA hR0 mf_X6_flawed lk_X8_208 rfl (isK_lit hdm rfl rfl) (by decide) ⟨rfl, rfl⟩ ⟨Nat.le_of_ble_eq_true rfl, Nat.le_of_ble_eq_true rfl⟩ rfl rfl (Nat.le_of_ble_eq_true rfl) (gce hR0 hce) dX8_freeIn_26 hq (fun _ _ h => c_X6_flawed g.l g.G hdm (isK_lit hdm rfl rfl) h) (fun r2 w1 _ hq => ?_)
      refine x_if_ne (tgt := 52) C dX8_freeIn_29 (by decide) hq (fun hq => ?_) (fun hq => ?_)
      · exact L_X8_freeIn_52 C hdm hA hR0 hce hT hR hag ih _ _ _ _ hq
      · refine x_aload_n C 0 dX8_freeIn_32 rfl ?_
        refine x_getr (K := 9) (k := 5) (o2 := 10) C (isK_lit hdm rfl rfl) (by decide) cl_X8 (by decide) ⟨rfl, rfl, rfl⟩ fl_X8_49 rfl dX8_freeIn_33 ?_
        refine x_aload_n C 0 dX8_freeIn_36 rfl ?_
        refine x_getr (K := 9) (k := 4) (o2 := 100) C (isK_lit hdm rfl rfl) (by decide) cl_X8 (by decide) ⟨rfl, rfl, rfl⟩ fl_X8_42 rfl dX8_freeIn_37 ?_
        refine x_iload_n C 3 dX8_freeIn_40 rfl ?_
        refine x_iload_n C 1 dX8_freeIn_41 rfl ?_
        refine x_callVi (K := 3) (rm := rmv 1 21 0 0) (As := [.ref (d.ad (100)), iV (x3), iV (x1)]) (rest := []) C hA hR0 mf_X2_wordOn lk_X8_212 rfl (isK_lit hdm rfl rfl) (by decide) ⟨rfl, rfl⟩ ⟨Nat.le_of_ble_eq_true rfl, Nat.le_of_ble_eq_true rfl⟩ rfl rfl (Nat.le_of_ble_eq_true rfl) (gce hR0 hce) dX8_freeIn_42 hq (fun _ _ h => c_X2_wordOn g.l g.G hdm (isK_lit hdm rfl rfl) (isK_lit hdm rfl rfl) h) (fun r4 w3 _ hq => ?_)
        refine x_iconst C dX8_freeIn_45 ?_
        refine x_icmp_ne (tgt := 52) C dX8_freeIn_46 (by decide) hq (fun hq => ?_) (fun hq => ?_)
        · exact L_X8_freeIn_52 C hdm hA hR0 hce hT hR hag ih _ _ _ _ hq
        · refine x_iinc (lv' := [(2, iV (x2 + 1)), (0, .ref (d.ad (1))), (1, iV (x1)), (3, iV (x3))]) C 2 dX8_freeIn_49 rfl (by decide) rfl ?_
          refine XG.sub [1, 2, 0, 3] rfl ?_
          exact L_X8_freeIn_52 C hdm hA hR0 hce hT hR hag ih _ _ _ _ hq
set_option maxRecDepth 100000 in
set_option maxHeartbeats 4000000 in
theorem L_X8_freeIn {g : Cx} {d : Dl} (C : CX g cX8_freeIn 4 (some .int) RX8) (hdm : g.dm = 0) (hA : ∀ q : Nat, g.s.heap.size ≤ q → g.A q) (hR0 : g.R = rmv 7 110 1 6) (hce : d.ce + 1 ≤ 1 ∧ d.so + 6 ≤ 6) {na0 : Nat} {ad0 : Nat → Nat} {res : Rz} (hT : thC g na0 ad0 1 6 res) (hR : RGI g na0 ad0 cX8_freeIn .int 1 6 res) (hag : AG na0 ad0 d) (x1 : Int) (w : Wd) (hq : p_X8_freeIn x1 d.na w = some res) : XG g d (hP g d w) [(0, .ref (d.ad (1))), (1, iV (x1))] [] 0 := by
  refine x_aload_n C 0 dX8_freeIn_0 rfl ?_
  refine x_iload_n C 1 dX8_freeIn_1 rfl ?_
  refine x_gcallV (K := 9) (rm := rmv 6 89 1 6) (mc' := 1) (ms' := 6) (As := [iV (x1)]) (rest := []) C hA hR0 mf_X8_needRow lk_X8_216 rfl (isK_lit hdm rfl rfl) (by decide) ⟨rfl, rfl⟩ ⟨Nat.le_of_ble_eq_true rfl, Nat.le_of_ble_eq_true rfl⟩ rfl rfl (Nat.le_of_ble_eq_true rfl) (gcc hR0 hce (by decide) (by decide)).1 hag (gcc hR0 hce (by decide) (by decide)).2 dX8_freeIn_2 hR.2 hq (fun _ h => c_X8_needRow g.l g.G hT.2.1 hdm  h) (fun r1 d4 w3 g5 hc1 hc2 hq => ?_)
  try rw [agr g5 (K := 9) (isK_lit hdm rfl rfl) (by decide)]
  have hag := hag.trans g5
  have hce : d4.ce + 0 ≤ 1 ∧ d4.so + 0 ≤ 6 := ⟨by omega, by omega⟩
  refine x_iconst C dX8_freeIn_5 ?_
  refine x_istore_n (lv' := [(2, iV (0)), (0, .ref (d4.ad (1))), (1, iV (x1))]) C dX8_freeIn_6 (by decide) rfl ?_
  refine x_iconst C dX8_freeIn_7 ?_
  refine x_istore_n (lv' := [(3, iV (0)), (2, iV (0)), (0, .ref (d4.ad (1))), (1, iV (x1))]) C dX8_freeIn_8 (by decide) rfl ?_
  refine XG.sub [2, 3, 1, 0] rfl ?_
  exact L_X8_freeIn_9 C hdm hA hR0 hce hT hR hag _ _ _ _ _ hq
set_option maxRecDepth 100000 in
set_option maxHeartbeats 4000000 in
theorem c_X8_freeIn (l : Launch) (G : Gd) (hfl : l.stackTraces = false) {dm na : Nat} {ad : Nat → Nat} (hdm : dm = 0) {x1 : Int} {w : Wd} {res : Rz}  (hq : p_X8_freeIn x1 na w = some res) : mGI l yX8_freeIn cX8_freeIn 4 (some .int) (rmv 7 110 1 6) G dm na ad [.ref (ad (1)), iV (x1)] w res 1 6 := by
  refine met_GI hfl [(0, .ref (ad (1))), (1, iV (x1))] (by decide) (Nat.le_of_ble_eq_true rfl) rfl .int rfl (fun g d C S hT hR => ?_)
  obtain ⟨rfl, hR0, rfl, rfl, rfl, hA⟩ := S
  exact L_X8_freeIn (d := (na, ad, 0, 0)) C hdm hA hR0 ⟨Nat.le_of_ble_eq_true rfl, Nat.le_of_ble_eq_true rfl⟩ hT hR (AG.rf (na, ad, 0, 0))  _ w hq
set_option maxRecDepth 100000 in
set_option maxHeartbeats 4000000 in
theorem L_X8_firstMissing {g : Cx} {d : Dl} (C : CX g cX8_firstMissing 1 (some .int) RX8) (hdm : g.dm = 0) (hA : ∀ q : Nat, g.s.heap.size ≤ q → g.A q) (hR0 : g.R = rmv 0 0 0 0) (hce : d.ce ≤ g.R.cells ∧ d.so ≤ g.R.slots) {res : Int × Wd} (hR : rtI g d cX8_firstMissing .int res)  (w : Wd) (hq : p_X8_firstMissing  w = some res) : XG g d (hP g d w) [(0, .ref (d.ad (1)))] [] 0 := by
  refine x_aload_n C 0 dX8_firstMissing_0 rfl ?_
  refine x_getr (K := 9) (k := 5) (o2 := 10) C (isK_lit hdm rfl rfl) (by decide) cl_X8 (by decide) ⟨rfl, rfl, rfl⟩ fl_X8_49 rfl dX8_firstMissing_1 ?_
  refine x_get (K := 3) (k := 4) C (isK_lit hdm rfl rfl) (by decide) cl_X2 (by decide) ⟨rfl, rfl, rfl⟩ fl_X8_97 dX8_firstMissing_4 ?_
  refine x_aload_n C 0 dX8_firstMissing_7 rfl ?_
  refine x_getr (K := 9) (k := 4) (o2 := 100) C (isK_lit hdm rfl rfl) (by decide) cl_X8 (by decide) ⟨rfl, rfl, rfl⟩ fl_X8_42 rfl dX8_firstMissing_8 ?_
  refine x_get (K := 7) (k := 7) C (isK_lit hdm rfl rfl) (by decide) cl_X6 (by decide) ⟨rfl, rfl, rfl⟩ fl_X8_122 dX8_firstMissing_11 ?_
  refine x_icmp_ge (tgt := 27) C dX8_firstMissing_14 (by decide) hq (fun hq => ?_) (fun hq => ?_)
  · refine x_iconst C dX8_firstMissing_27 ?_
    exact hR _ _ _ _ hq rfl dX8_firstMissing_28
  · refine x_aload_n C 0 dX8_firstMissing_17 rfl ?_
    refine x_getr (K := 9) (k := 5) (o2 := 10) C (isK_lit hdm rfl rfl) (by decide) cl_X8 (by decide) ⟨rfl, rfl, rfl⟩ fl_X8_49 rfl dX8_firstMissing_18 ?_
    refine x_get (K := 3) (k := 4) C (isK_lit hdm rfl rfl) (by decide) cl_X2 (by decide) ⟨rfl, rfl, rfl⟩ fl_X8_97 dX8_firstMissing_21 ?_
    refine x_goto (tgt := 28) C dX8_firstMissing_24 (by decide) ?_
    exact hR _ _ _ _ hq rfl dX8_firstMissing_28
set_option maxRecDepth 100000 in
set_option maxHeartbeats 4000000 in
theorem c_X8_firstMissing (l : Launch) (G : Gd) {dm na : Nat} {ad : Nat → Nat} (hdm : dm = 0)  {w w' : Wd} {r : Int}  (hq : p_X8_firstMissing  w = some (r, w')) : mI l yX8_firstMissing cX8_firstMissing 1 (some .int) (rmv 0 0 0 0) G dm na ad [.ref (ad (1))] w r w' := by
  refine met_I [(0, .ref (ad (1)))] (by decide) (Nat.le_of_ble_eq_true rfl) rfl .int rfl (fun g d C S hR => ?_)
  obtain ⟨rfl, hR0, rfl, rfl, rfl, hA⟩ := S
  exact L_X8_firstMissing (d := (na, ad, 0, 0)) C hdm hA hR0 ⟨Nat.zero_le _, Nat.zero_le _⟩ hR   w hq
set_option maxRecDepth 100000 in
set_option maxHeartbeats 4000000 in
theorem L_X8_strokesLeft {g : Cx} {d : Dl} (C : CX g cX8_strokesLeft 1 (some .int) RX8) (hdm : g.dm = 0) (hA : ∀ q : Nat, g.s.heap.size ≤ q → g.A q) (hR0 : g.R = rmv 2 45 0 0) (hce : d.ce ≤ g.R.cells ∧ d.so ≤ g.R.slots) {res : Int × Wd} (hR : rtI g d cX8_strokesLeft .int res)  (w : Wd) (hq : p_X8_strokesLeft  w = some res) : XG g d (hP g d w) [(0, .ref (d.ad (1)))] [] 0 := by
  refine x_aload_n C 0 dX8_strokesLeft_0 rfl ?_
  refine x_getr (K := 9) (k := 5) (o2 := 10) C (isK_lit hdm rfl rfl) (by decide) cl_X8 (by decide) ⟨rfl, rfl, rfl⟩ fl_X8_49 rfl dX8_strokesLeft_1 ?_
  refine x_aload_n C 0 dX8_strokesLeft_4 rfl ?_
  refine x_getr (K := 9) (k := 4) (o2 := 100) C (isK_lit hdm rfl rfl) (by decide) cl_X8 (by decide) ⟨rfl, rfl, rfl⟩ fl_X8_42 rfl dX8_strokesLeft_5 ?_
  refine x_get (K := 7) (k := 11) C (isK_lit hdm rfl rfl) (by decide) cl_X6 (by decide) ⟨rfl, rfl, rfl⟩ fl_X8_128 dX8_strokesLeft_8 ?_
  refine x_aload_n C 0 dX8_strokesLeft_11 rfl ?_
  refine x_getr (K := 9) (k := 5) (o2 := 10) C (isK_lit hdm rfl rfl) (by decide) cl_X8 (by decide) ⟨rfl, rfl, rfl⟩ fl_X8_49 rfl dX8_strokesLeft_12 ?_
  refine x_get (K := 3) (k := 5) C (isK_lit hdm rfl rfl) (by decide) cl_X2 (by decide) ⟨rfl, rfl, rfl⟩ fl_X8_125 dX8_strokesLeft_15 ?_
  refine x_callVi (K := 3) (rm := rmv 1 21 0 0) (As := [iV (gF w 100 11), iV (gF w 10 5)]) (rest := []) C hA hR0 mf_X2_costsOf lk_X8_219 rfl (isK_lit hdm rfl rfl) (by decide) ⟨rfl, rfl⟩ ⟨Nat.le_of_ble_eq_true rfl, Nat.le_of_ble_eq_true rfl⟩ rfl rfl (Nat.le_of_ble_eq_true rfl) hce dX8_strokesLeft_18 hq (fun _ _ h => c_X2_costsOf g.l g.G hdm (isK_lit hdm rfl rfl) h) (fun r2 w1 _ hq => ?_)
  exact hR _ _ _ _ hq rfl dX8_strokesLeft_21
set_option maxRecDepth 100000 in
set_option maxHeartbeats 4000000 in
theorem c_X8_strokesLeft (l : Launch) (G : Gd) {dm na : Nat} {ad : Nat → Nat} (hdm : dm = 0)  {w w' : Wd} {r : Int}  (hq : p_X8_strokesLeft  w = some (r, w')) : mI l yX8_strokesLeft cX8_strokesLeft 1 (some .int) (rmv 2 45 0 0) G dm na ad [.ref (ad (1))] w r w' := by
  refine met_I [(0, .ref (ad (1)))] (by decide) (Nat.le_of_ble_eq_true rfl) rfl .int rfl (fun g d C S hR => ?_)
  obtain ⟨rfl, hR0, rfl, rfl, rfl, hA⟩ := S
  exact L_X8_strokesLeft (d := (na, ad, 0, 0)) C hdm hA hR0 ⟨Nat.zero_le _, Nat.zero_le _⟩ hR   w hq
set_option maxRecDepth 100000 in
set_option maxHeartbeats 4000000 in
theorem L_X8_dear_61 {g : Cx} {d : Dl} (C : CX g cX8_dear 4 (some .int) RX8) (hdm : g.dm = 0) (hA : ∀ q : Nat, g.s.heap.size ≤ q → g.A q) (hR0 : g.R = rmv 2 45 0 0) (hce : d.ce ≤ g.R.cells ∧ d.so ≤ g.R.slots) {res : Int × Wd} (hR : rtI g d cX8_dear .int res) {k4 : Int → Int → Wd → Option (Int × Wd)} (hk4 : ∀ (x1 : Int) (x2 : Int) (w : Wd), k4 x1 x2 w = some res → XG g d (hP g d w) [(0, .ref (d.ad (1))), (1, iV (x1)), (2, iV (x2))] [] 4) (x1 : Int) (x2 : Int) (w : Wd) (hq : p_X8_dear_61 k4 x1 x2 w = some res) : XG g d (hP g d w) [(0, .ref (d.ad (1))), (1, iV (x1)), (2, iV (x2))] [] 61 := by
  refine x_iinc (lv' := [(2, iV (x2 + 1)), (0, .ref (d.ad (1))), (1, iV (x1))]) C 2 dX8_dear_61 rfl (by decide) rfl ?_
  refine x_goto (tgt := 4) C dX8_dear_64 (by decide) ?_
  refine XG.sub [1, 2, 0] rfl ?_
  exact hk4 _ _ _ hq
set_option maxRecDepth 100000 in
set_option maxHeartbeats 4000000 in
theorem L_X8_dear_4 {g : Cx} {d : Dl} (C : CX g cX8_dear 4 (some .int) RX8) (hdm : g.dm = 0) (hA : ∀ q : Nat, g.s.heap.size ≤ q → g.A q) (hR0 : g.R = rmv 2 45 0 0) (hce : d.ce ≤ g.R.cells ∧ d.so ≤ g.R.slots) {res : Int × Wd} (hR : rtI g d cX8_dear .int res) : ∀ (n : Nat) (x1 : Int) (x2 : Int) (w : Wd), p_X8_dear_4 n x1 x2 w = some res → XG g d (hP g d w) [(0, .ref (d.ad (1))), (1, iV (x1)), (2, iV (x2))] [] 4 := by
  intro n
  induction n with
  | zero => intro x1 x2 w  hq; exact nomatch (show none = some _ from hq)
  | succ n ih =>
    intro x1 x2 w  hq
    refine x_iload_n C 2 dX8_dear_4 rfl ?_
    refine x_aload_n C 0 dX8_dear_5 rfl ?_
    refine x_getr (K := 9) (k := 5) (o2 := 10) C (isK_lit hdm rfl rfl) (by decide) cl_X8 (by decide) ⟨rfl, rfl, rfl⟩ fl_X8_49 rfl dX8_dear_6 ?_
    refine x_get (K := 3) (k := 5) C (isK_lit hdm rfl rfl) (by decide) cl_X2 (by decide) ⟨rfl, rfl, rfl⟩ fl_X8_125 dX8_dear_9 ?_
    refine x_icmp_ge (tgt := 67) C dX8_dear_12 (by decide) hq (fun hq => ?_) (fun hq => ?_)
    · refine x_iload_n C 1 dX8_dear_67 rfl ?_
      exact hR _ _ _ _ hq rfl dX8_dear_68
    · refine x_aload_n C 0 dX8_dear_15 rfl ?_
      refine x_getr (K := 9) (k := 5) (o2 := 10) C (isK_lit hdm rfl rfl) (by decide) cl_X8 (by decide) ⟨rfl, rfl, rfl⟩ fl_X8_49 rfl dX8_dear_16 ?_
      refine x_getr (K := 3) (k := 2) (o2 := 15) C (isK_lit hdm rfl rfl) (by decide) cl_X2 (by decide) ⟨rfl, rfl, rfl⟩ fl_X8_238 rfl dX8_dear_19 ?_
      refine x_iload_n C 2 dX8_dear_22 rfl ?_
      refine x_callVi (K := 6) (rm := rmv 0 0 0 0) (As := [iV (x2)]) (rest := []) C hA hR0 mf_X5_at lk_X8_160 rfl (isK_lit hdm rfl rfl) (by decide) ⟨rfl, rfl⟩ ⟨Nat.le_of_ble_eq_true rfl, Nat.le_of_ble_eq_true rfl⟩ rfl rfl (Nat.le_of_ble_eq_true rfl) hce dX8_dear_23 hq (fun _ _ h => c_X5_at g.l g.G hdm (isK_lit hdm rfl rfl) h) (fun r2 w1 _ hq => ?_)
      refine x_istore_n (lv' := [(3, iV (r2)), (0, .ref (d.ad (1))), (1, iV (x1)), (2, iV (x2))]) C dX8_dear_26 (by decide) rfl ?_
      refine x_aload_n C 1 dX8_dear_27 rfl ?_
      refine x_getr (K := 9) (k := 4) (o2 := 100) C (isK_lit hdm rfl rfl) (by decide) cl_X8 (by decide) ⟨rfl, rfl, rfl⟩ fl_X8_42 rfl dX8_dear_28 ?_
      refine x_iload_n C 0 dX8_dear_31 rfl ?_
      refine x_bipush (v := 100) C dX8_dear_32 (by decide +kernel) ?_
      refine x_irem C (by decide +kernel) dX8_dear_34 ?_
      refine x_iload_n C 0 dX8_dear_35 rfl ?_
      refine x_bipush (v := 100) C dX8_dear_36 (by decide +kernel) ?_
      refine x_idiv C (by decide +kernel) dX8_dear_38 ?_
      refine x_callVi (K := 7) (rm := rmv 1 21 0 0) (As := [iV (rm32 r2 100), iV (dv32 r2 100)]) (rest := []) C hA hR0 mf_X6_touched lk_X8_272 rfl (isK_lit hdm rfl rfl) (by decide) ⟨rfl, rfl⟩ ⟨Nat.le_of_ble_eq_true rfl, Nat.le_of_ble_eq_true rfl⟩ rfl rfl (Nat.le_of_ble_eq_true rfl) hce dX8_dear_39 hq (fun _ _ h => c_X6_touched g.l g.G hdm (isK_lit hdm rfl rfl) h) (fun r4 w3 _ hq => ?_)
      refine x_if_eq (tgt := 61) C dX8_dear_42 (by decide) hq (fun hq => ?_) (fun hq => ?_)
      · refine XG.sub [1, 2, 3] rfl ?_
        exact L_X8_dear_61 C hdm hA hR0 hce hR ih _ _ _ hq
      · refine x_iload_n C 2 dX8_dear_45 rfl ?_
        refine x_aload_n C 1 dX8_dear_46 rfl ?_
        refine x_getr (K := 9) (k := 5) (o2 := 10) C (isK_lit hdm rfl rfl) (by decide) cl_X8 (by decide) ⟨rfl, rfl, rfl⟩ fl_X8_49 rfl dX8_dear_47 ?_
        refine x_getr (K := 3) (k := 3) (o2 := 17) C (isK_lit hdm rfl rfl) (by decide) cl_X2 (by decide) ⟨rfl, rfl, rfl⟩ fl_X8_229 rfl dX8_dear_50 ?_
        refine x_iload_n C 3 dX8_dear_53 rfl ?_
        refine x_callVi (K := 6) (rm := rmv 0 0 0 0) (As := [iV (x2)]) (rest := [iV (x1)]) C hA hR0 mf_X5_at lk_X8_160 rfl (isK_lit hdm rfl rfl) (by decide) ⟨rfl, rfl⟩ ⟨Nat.le_of_ble_eq_true rfl, Nat.le_of_ble_eq_true rfl⟩ rfl rfl (Nat.le_of_ble_eq_true rfl) hce dX8_dear_54 hq (fun _ _ h => c_X5_at g.l g.G hdm (isK_lit hdm rfl rfl) h) (fun r6 w5 _ hq => ?_)
        refine x_iconst C dX8_dear_57 ?_
        refine x_idiv C (by decide +kernel) dX8_dear_58 ?_
        refine x_iadd C dX8_dear_59 ?_
        refine x_istore_n (lv' := [(1, iV (x1 + (dv32 r6 2))), (3, iV (r2)), (0, .ref (d.ad (1))), (2, iV (x2))]) C dX8_dear_60 (by decide) rfl ?_
        refine XG.sub [2, 0, 3] rfl ?_
        exact L_X8_dear_61 C hdm hA hR0 hce hR ih _ _ _ hq
set_option maxRecDepth 100000 in
set_option maxHeartbeats 4000000 in
theorem L_X8_dear {g : Cx} {d : Dl} (C : CX g cX8_dear 4 (some .int) RX8) (hdm : g.dm = 0) (hA : ∀ q : Nat, g.s.heap.size ≤ q → g.A q) (hR0 : g.R = rmv 2 45 0 0) (hce : d.ce ≤ g.R.cells ∧ d.so ≤ g.R.slots) {res : Int × Wd} (hR : rtI g d cX8_dear .int res)  (w : Wd) (hq : p_X8_dear  w = some res) : XG g d (hP g d w) [(0, .ref (d.ad (1)))] [] 0 := by
  refine x_iconst C dX8_dear_0 ?_
  refine x_istore_n (lv' := [(1, iV (0)), (0, .ref (d.ad (1)))]) C dX8_dear_1 (by decide) rfl ?_
  refine x_iconst C dX8_dear_2 ?_
  refine x_istore_n (lv' := [(2, iV (0)), (1, iV (0)), (0, .ref (d.ad (1)))]) C dX8_dear_3 (by decide) rfl ?_
  refine XG.sub [2, 1, 0] rfl ?_
  exact L_X8_dear_4 C hdm hA hR0 hce hR _ _ _ _ hq
set_option maxRecDepth 100000 in
set_option maxHeartbeats 4000000 in
theorem c_X8_dear (l : Launch) (G : Gd) {dm na : Nat} {ad : Nat → Nat} (hdm : dm = 0)  {w w' : Wd} {r : Int}  (hq : p_X8_dear  w = some (r, w')) : mI l yX8_dear cX8_dear 4 (some .int) (rmv 2 45 0 0) G dm na ad [.ref (ad (1))] w r w' := by
  refine met_I [(0, .ref (ad (1)))] (by decide) (Nat.le_of_ble_eq_true rfl) rfl .int rfl (fun g d C S hR => ?_)
  obtain ⟨rfl, hR0, rfl, rfl, rfl, hA⟩ := S
  exact L_X8_dear (d := (na, ad, 0, 0)) C hdm hA hR0 ⟨Nat.zero_le _, Nat.zero_le _⟩ hR   w hq
set_option maxRecDepth 100000 in
set_option maxHeartbeats 4000000 in
theorem L_X8_carvedShare {g : Cx} {d : Dl} (C : CX g cX8_carvedShare 1 (some .float) RX8) (hdm : g.dm = 0) (hA : ∀ q : Nat, g.s.heap.size ≤ q → g.A q) (hR0 : g.R = rmv 0 0 0 0) (hce : d.ce ≤ g.R.cells ∧ d.so ≤ g.R.slots) {res : UInt32 × Wd} (hR : rtF g d cX8_carvedShare res)  (w : Wd) (hq : p_X8_carvedShare  w = some res) : XG g d (hP g d w) [(0, .ref (d.ad (1)))] [] 0 := by
  refine x_aload_n C 0 dX8_carvedShare_0 rfl ?_
  refine x_getr (K := 9) (k := 5) (o2 := 10) C (isK_lit hdm rfl rfl) (by decide) cl_X8 (by decide) ⟨rfl, rfl, rfl⟩ fl_X8_49 rfl dX8_carvedShare_1 ?_
  refine x_get (K := 3) (k := 5) C (isK_lit hdm rfl rfl) (by decide) cl_X2 (by decide) ⟨rfl, rfl, rfl⟩ fl_X8_125 dX8_carvedShare_4 ?_
  refine x_if_ne (tgt := 14) C dX8_carvedShare_7 (by decide) hq (fun hq => ?_) (fun hq => ?_)
  · refine x_aload_n C 0 dX8_carvedShare_14 rfl ?_
    refine x_getr (K := 9) (k := 4) (o2 := 100) C (isK_lit hdm rfl rfl) (by decide) cl_X8 (by decide) ⟨rfl, rfl, rfl⟩ fl_X8_42 rfl dX8_carvedShare_15 ?_
    refine x_get (K := 7) (k := 11) C (isK_lit hdm rfl rfl) (by decide) cl_X6 (by decide) ⟨rfl, rfl, rfl⟩ fl_X8_128 dX8_carvedShare_18 ?_
    refine x_i2f C dX8_carvedShare_21 ?_
    refine x_aload_n C 0 dX8_carvedShare_22 rfl ?_
    refine x_getr (K := 9) (k := 5) (o2 := 10) C (isK_lit hdm rfl rfl) (by decide) cl_X8 (by decide) ⟨rfl, rfl, rfl⟩ fl_X8_49 rfl dX8_carvedShare_23 ?_
    refine x_get (K := 3) (k := 5) C (isK_lit hdm rfl rfl) (by decide) cl_X2 (by decide) ⟨rfl, rfl, rfl⟩ fl_X8_125 dX8_carvedShare_26 ?_
    refine x_i2f C dX8_carvedShare_29 ?_
    refine x_fdiv C dX8_carvedShare_30 hq (fun v2 hq => ?_)
    exact hR _ _ _ _ hq dX8_carvedShare_31
  · refine x_fconst1 C dX8_carvedShare_10 ?_
    refine x_goto (tgt := 31) C dX8_carvedShare_11 (by decide) ?_
    exact hR _ _ _ _ hq dX8_carvedShare_31
set_option maxRecDepth 100000 in
set_option maxHeartbeats 4000000 in
theorem c_X8_carvedShare (l : Launch) (G : Gd) {dm na : Nat} {ad : Nat → Nat} (hdm : dm = 0)  {w w' : Wd} {r : UInt32}  (hq : p_X8_carvedShare  w = some (r, w')) : mF l yX8_carvedShare cX8_carvedShare 1 (some .float) (rmv 0 0 0 0) G dm na ad [.ref (ad (1))] w r w' := by
  refine met_F [(0, .ref (ad (1)))] (by decide) (Nat.le_of_ble_eq_true rfl) rfl rfl (fun g d C S hR => ?_)
  obtain ⟨rfl, hR0, rfl, rfl, rfl, hA⟩ := S
  exact L_X8_carvedShare (d := (na, ad, 0, 0)) C hdm hA hR0 ⟨Nat.zero_le _, Nat.zero_le _⟩ hR   w hq
set_option maxRecDepth 100000 in
set_option maxHeartbeats 4000000 in
theorem L_X8_meanStrokes {g : Cx} {d : Dl} (C : CX g cX8_meanStrokes 2 (some .double) RX8) (hdm : g.dm = 0) (hA : ∀ q : Nat, g.s.heap.size ≤ q → g.A q) (hR0 : g.R = rmv 2 45 0 0) (hce : d.ce ≤ g.R.cells ∧ d.so ≤ g.R.slots) {res : UInt64 × Wd} (hR : rtD g d cX8_meanStrokes res)  (w : Wd) (hq : p_X8_meanStrokes  w = some res) : XG g d (hP g d w) [(0, .ref (d.ad (1)))] [] 0 := by
  refine x_aload_n C 0 dX8_meanStrokes_0 rfl ?_
  refine x_getr (K := 9) (k := 5) (o2 := 10) C (isK_lit hdm rfl rfl) (by decide) cl_X8 (by decide) ⟨rfl, rfl, rfl⟩ fl_X8_49 rfl dX8_meanStrokes_1 ?_
  refine x_iconst C dX8_meanStrokes_4 ?_
  refine x_aload_n C 0 dX8_meanStrokes_5 rfl ?_
  refine x_getr (K := 9) (k := 5) (o2 := 10) C (isK_lit hdm rfl rfl) (by decide) cl_X8 (by decide) ⟨rfl, rfl, rfl⟩ fl_X8_49 rfl dX8_meanStrokes_6 ?_
  refine x_get (K := 3) (k := 5) C (isK_lit hdm rfl rfl) (by decide) cl_X2 (by decide) ⟨rfl, rfl, rfl⟩ fl_X8_125 dX8_meanStrokes_9 ?_
  refine x_callVi (K := 3) (rm := rmv 1 21 0 0) (As := [iV (0), iV (gF w 10 5)]) (rest := []) C hA hR0 mf_X2_costsOf lk_X8_219 rfl (isK_lit hdm rfl rfl) (by decide) ⟨rfl, rfl⟩ ⟨Nat.le_of_ble_eq_true rfl, Nat.le_of_ble_eq_true rfl⟩ rfl rfl (Nat.le_of_ble_eq_true rfl) hce dX8_meanStrokes_12 hq (fun _ _ h => c_X2_costsOf g.l g.G hdm (isK_lit hdm rfl rfl) h) (fun r2 w1 _ hq => ?_)
  refine x_istore_n (lv' := [(1, iV (r2)), (0, .ref (d.ad (1)))]) C dX8_meanStrokes_15 (by decide) rfl ?_
  refine x_aload_n C 1 dX8_meanStrokes_16 rfl ?_
  refine x_getr (K := 9) (k := 5) (o2 := 10) C (isK_lit hdm rfl rfl) (by decide) cl_X8 (by decide) ⟨rfl, rfl, rfl⟩ fl_X8_49 rfl dX8_meanStrokes_17 ?_
  refine x_get (K := 3) (k := 5) C (isK_lit hdm rfl rfl) (by decide) cl_X2 (by decide) ⟨rfl, rfl, rfl⟩ fl_X8_125 dX8_meanStrokes_20 ?_
  refine x_if_ne (tgt := 30) C dX8_meanStrokes_23 (by decide) hq (fun hq => ?_) (fun hq => ?_)
  · refine x_iload_n C 0 dX8_meanStrokes_30 rfl ?_
    refine x_i2d C dX8_meanStrokes_31 ?_
    refine x_aload_n C 1 dX8_meanStrokes_32 rfl ?_
    refine x_getr (K := 9) (k := 5) (o2 := 10) C (isK_lit hdm rfl rfl) (by decide) cl_X8 (by decide) ⟨rfl, rfl, rfl⟩ fl_X8_49 rfl dX8_meanStrokes_33 ?_
    refine x_get (K := 3) (k := 5) C (isK_lit hdm rfl rfl) (by decide) cl_X2 (by decide) ⟨rfl, rfl, rfl⟩ fl_X8_125 dX8_meanStrokes_36 ?_
    refine x_i2d C dX8_meanStrokes_39 ?_
    refine x_ddiv C dX8_meanStrokes_40 hq (fun v4 hq => ?_)
    exact hR _ _ _ _ hq dX8_meanStrokes_41
  · refine x_dconst0 C dX8_meanStrokes_26 ?_
    refine x_goto (tgt := 41) C dX8_meanStrokes_27 (by decide) ?_
    exact hR _ _ _ _ hq dX8_meanStrokes_41
set_option maxRecDepth 100000 in
set_option maxHeartbeats 4000000 in
theorem c_X8_meanStrokes (l : Launch) (G : Gd) {dm na : Nat} {ad : Nat → Nat} (hdm : dm = 0)  {w w' : Wd} {r : UInt64}  (hq : p_X8_meanStrokes  w = some (r, w')) : mD l yX8_meanStrokes cX8_meanStrokes 2 (some .double) (rmv 2 45 0 0) G dm na ad [.ref (ad (1))] w r w' := by
  refine met_D [(0, .ref (ad (1)))] (by decide) (Nat.le_of_ble_eq_true rfl) rfl rfl (fun g d C S hR => ?_)
  obtain ⟨rfl, hR0, rfl, rfl, rfl, hA⟩ := S
  exact L_X8_meanStrokes (d := (na, ad, 0, 0)) C hdm hA hR0 ⟨Nat.zero_le _, Nat.zero_le _⟩ hR   w hq
set_option maxRecDepth 100000 in
set_option maxHeartbeats 4000000 in
theorem L_X8_takeInputWords_19 {g : Cx} {d : Dl} (C : CX g cX8_takeInputWords 4 (some .int) RX8) (hdm : g.dm = 0) (hA : ∀ q : Nat, g.s.heap.size ≤ q → g.A q) (hR0 : g.R = rmv 3 62 0 0) (hce : d.ce ≤ g.R.cells ∧ d.so ≤ g.R.slots) {res : Int × Wd} (hR : rtI g d cX8_takeInputWords .int res) : ∀ (n : Nat) (x2 : Int) (x3 : Int) (w : Wd), p_X8_takeInputWords_19 n x2 x3 w = some res → XG g d (hP g d w) [(0, .ref (d.ad (1))), (2, iV (x2)), (3, iV (x3))] [] 19 := by
  intro n
  induction n with
  | zero => intro x2 x3 w  hq; exact nomatch (show none = some _ from hq)
  | succ n ih =>
    intro x2 x3 w  hq
    refine x_iload_n C 2 dX8_takeInputWords_19 rfl ?_
    refine x_sipush (v := 500) C dX8_takeInputWords_20 (by decide +kernel) ?_
    refine x_icmp_ge (tgt := 109) C dX8_takeInputWords_23 (by decide) hq (fun hq => ?_) (fun hq => ?_)
    · refine x_iload_n C 1 dX8_takeInputWords_109 rfl ?_
      exact hR _ _ _ _ hq rfl dX8_takeInputWords_110
    · refine x_aload_n C 0 dX8_takeInputWords_26 rfl ?_
      refine x_getr (K := 9) (k := 2) (o2 := 8) C (isK_lit hdm rfl rfl) (by decide) cl_X8 (by decide) ⟨rfl, rfl, rfl⟩ fl_X8_26 rfl dX8_takeInputWords_27 ?_
      refine x_get (K := 8) (k := 1) C (isK_lit hdm rfl rfl) (by decide) cl_X7 (by decide) ⟨rfl, rfl, rfl⟩ fl_X8_353 dX8_takeInputWords_30 ?_
      refine x_if_eq (tgt := 109) C dX8_takeInputWords_33 (by decide) hq (fun hq => ?_) (fun hq => ?_)
      · refine x_iload_n C 1 dX8_takeInputWords_109 rfl ?_
        exact hR _ _ _ _ hq rfl dX8_takeInputWords_110
      · refine x_aload_n C 0 dX8_takeInputWords_36 rfl ?_
        refine x_getr (K := 9) (k := 2) (o2 := 8) C (isK_lit hdm rfl rfl) (by decide) cl_X8 (by decide) ⟨rfl, rfl, rfl⟩ fl_X8_26 rfl dX8_takeInputWords_37 ?_
        refine x_callVi (K := 8) (rm := rmv 0 0 0 0) (As := []) (rest := []) C hA hR0 mf_X7_isPlainWord lk_X8_356 rfl (isK_lit hdm rfl rfl) (by decide) ⟨rfl, rfl⟩ ⟨Nat.le_of_ble_eq_true rfl, Nat.le_of_ble_eq_true rfl⟩ rfl rfl (Nat.le_of_ble_eq_true rfl) hce dX8_takeInputWords_40 hq (fun _ _ h => c_X7_isPlainWord g.l g.G hdm  h) (fun r2 w1 _ hq => ?_)
        refine x_if_eq (tgt := 63) C dX8_takeInputWords_43 (by decide) hq (fun hq => ?_) (fun hq => ?_)
        · refine x_iconst C dX8_takeInputWords_63 ?_
          exact hR _ _ _ _ hq rfl dX8_takeInputWords_64
        · refine x_aload_n C 0 dX8_takeInputWords_46 rfl ?_
          refine x_getr (K := 9) (k := 2) (o2 := 8) C (isK_lit hdm rfl rfl) (by decide) cl_X8 (by decide) ⟨rfl, rfl, rfl⟩ fl_X8_26 rfl dX8_takeInputWords_47 ?_
          refine x_get (K := 8) (k := 3) C (isK_lit hdm rfl rfl) (by decide) cl_X7 (by decide) ⟨rfl, rfl, rfl⟩ fl_X8_359 dX8_takeInputWords_50 ?_
          refine x_aload_n C 0 dX8_takeInputWords_53 rfl ?_
          refine x_getr (K := 9) (k := 4) (o2 := 100) C (isK_lit hdm rfl rfl) (by decide) cl_X8 (by decide) ⟨rfl, rfl, rfl⟩ fl_X8_42 rfl dX8_takeInputWords_54 ?_
          refine x_get (K := 7) (k := 0) C (isK_lit hdm rfl rfl) (by decide) cl_X6 (by decide) ⟨rfl, rfl, rfl⟩ fl_X8_106 dX8_takeInputWords_57 ?_
          refine x_icmp_le (tgt := 65) C dX8_takeInputWords_60 (by decide) hq (fun hq => ?_) (fun hq => ?_)
          · refine x_aload_n C 0 dX8_takeInputWords_65 rfl ?_
            refine x_getr (K := 9) (k := 6) (o2 := 116) C (isK_lit hdm rfl rfl) (by decide) cl_X8 (by decide) ⟨rfl, rfl, rfl⟩ fl_X8_53 rfl dX8_takeInputWords_66 ?_
            refine x_aload_n C 0 dX8_takeInputWords_69 rfl ?_
            refine x_getr (K := 9) (k := 0) (o2 := 2) C (isK_lit hdm rfl rfl) (by decide) cl_X8 (by decide) ⟨rfl, rfl, rfl⟩ fl_X8_14 rfl dX8_takeInputWords_70 ?_
            refine x_getr (K := 1) (k := 0) (o2 := 3) C (isK_lit hdm rfl rfl) (by decide) cl_X0 (by decide) ⟨rfl, rfl, rfl⟩ fl_X8_312 rfl dX8_takeInputWords_73 ?_
            refine x_aload_n C 0 dX8_takeInputWords_76 rfl ?_
            refine x_getr (K := 9) (k := 2) (o2 := 8) C (isK_lit hdm rfl rfl) (by decide) cl_X8 (by decide) ⟨rfl, rfl, rfl⟩ fl_X8_26 rfl dX8_takeInputWords_77 ?_
            refine x_get (K := 8) (k := 2) C (isK_lit hdm rfl rfl) (by decide) cl_X7 (by decide) ⟨rfl, rfl, rfl⟩ fl_X8_360 dX8_takeInputWords_80 ?_
            refine x_aload_n C 0 dX8_takeInputWords_83 rfl ?_
            refine x_getr (K := 9) (k := 2) (o2 := 8) C (isK_lit hdm rfl rfl) (by decide) cl_X8 (by decide) ⟨rfl, rfl, rfl⟩ fl_X8_26 rfl dX8_takeInputWords_84 ?_
            refine x_get (K := 8) (k := 3) C (isK_lit hdm rfl rfl) (by decide) cl_X7 (by decide) ⟨rfl, rfl, rfl⟩ fl_X8_359 dX8_takeInputWords_87 ?_
            refine x_callVv (K := 7) (rm := rmv 1 22 0 0) (As := [.ref (d.ad (3)), iV (gF w1 8 2), iV (gF w1 8 3)]) (rest := []) C hA hR0 mf_X6_takeWord lk_X8_363 rfl (isK_lit hdm rfl rfl) (by decide) ⟨rfl, rfl⟩ ⟨Nat.le_of_ble_eq_true rfl, Nat.le_of_ble_eq_true rfl⟩ rfl rfl (Nat.le_of_ble_eq_true rfl) hce dX8_takeInputWords_90 hq (fun _ h => c_X6_takeWord g.l g.G hdm (isK_lit hdm rfl rfl) (isK_lit hdm rfl rfl) h) (fun w3 _ hq => ?_)
            refine x_iinc (lv' := [(2, iV (x2 + 1)), (0, .ref (d.ad (1))), (3, iV (x3))]) C 1 dX8_takeInputWords_93 rfl (by decide) rfl ?_
            refine x_aload_n C 1 dX8_takeInputWords_96 rfl ?_
            refine x_getr (K := 9) (k := 2) (o2 := 8) C (isK_lit hdm rfl rfl) (by decide) cl_X8 (by decide) ⟨rfl, rfl, rfl⟩ fl_X8_26 rfl dX8_takeInputWords_97 ?_
            refine x_callVv (K := 8) (rm := rmv 1 21 0 0) (As := []) (rest := []) C hA hR0 mf_X7_step lk_X8_367 rfl (isK_lit hdm rfl rfl) (by decide) ⟨rfl, rfl⟩ ⟨Nat.le_of_ble_eq_true rfl, Nat.le_of_ble_eq_true rfl⟩ rfl rfl (Nat.le_of_ble_eq_true rfl) hce dX8_takeInputWords_100 hq (fun _ h => c_X7_step g.l g.G hdm  h) (fun w4 _ hq => ?_)
            refine x_iinc (lv' := [(3, iV (x3 + 1)), (2, iV (x2 + 1)), (0, .ref (d.ad (1)))]) C 2 dX8_takeInputWords_103 rfl (by decide) rfl ?_
            refine x_goto (tgt := 19) C dX8_takeInputWords_106 (by decide) ?_
            refine XG.sub [2, 1, 0] rfl ?_
            exact ih _ _ _ hq
          · refine x_iconst C dX8_takeInputWords_63 ?_
            exact hR _ _ _ _ hq rfl dX8_takeInputWords_64
set_option maxRecDepth 100000 in
set_option maxHeartbeats 4000000 in
theorem L_X8_takeInputWords {g : Cx} {d : Dl} (C : CX g cX8_takeInputWords 4 (some .int) RX8) (hdm : g.dm = 0) (hA : ∀ q : Nat, g.s.heap.size ≤ q → g.A q) (hR0 : g.R = rmv 3 62 0 0) (hce : d.ce ≤ g.R.cells ∧ d.so ≤ g.R.slots) {res : Int × Wd} (hR : rtI g d cX8_takeInputWords .int res) (x1 : Int) (w : Wd) (hq : p_X8_takeInputWords x1 w = some res) : XG g d (hP g d w) [(0, .ref (d.ad (1))), (1, iV (x1))] [] 0 := by
  refine x_aload_n C 0 dX8_takeInputWords_0 rfl ?_
  refine x_getr (K := 9) (k := 6) (o2 := 116) C (isK_lit hdm rfl rfl) (by decide) cl_X8 (by decide) ⟨rfl, rfl, rfl⟩ fl_X8_53 rfl dX8_takeInputWords_1 ?_
  refine x_iload_n C 1 dX8_takeInputWords_4 rfl ?_
  refine x_callVv (K := 7) (rm := rmv 1 22 0 0) (As := [iV (x1)]) (rest := []) C hA hR0 mf_X6_openPart lk_X8_347 rfl (isK_lit hdm rfl rfl) (by decide) ⟨rfl, rfl⟩ ⟨Nat.le_of_ble_eq_true rfl, Nat.le_of_ble_eq_true rfl⟩ rfl rfl (Nat.le_of_ble_eq_true rfl) hce dX8_takeInputWords_5 hq (fun _ h => c_X6_openPart g.l g.G hdm (isK_lit hdm rfl rfl) h) (fun w1 _ hq => ?_)
  refine x_iconst C dX8_takeInputWords_8 ?_
  refine x_istore_n (lv' := [(2, iV (0)), (0, .ref (d.ad (1))), (1, iV (x1))]) C dX8_takeInputWords_9 (by decide) rfl ?_
  refine x_aload_n C 1 dX8_takeInputWords_10 rfl ?_
  refine x_getr (K := 9) (k := 2) (o2 := 8) C (isK_lit hdm rfl rfl) (by decide) cl_X8 (by decide) ⟨rfl, rfl, rfl⟩ fl_X8_26 rfl dX8_takeInputWords_11 ?_
  refine x_callVv (K := 8) (rm := rmv 2 42 0 0) (As := []) (rest := []) C hA hR0 mf_X7_restart lk_X8_350 rfl (isK_lit hdm rfl rfl) (by decide) ⟨rfl, rfl⟩ ⟨Nat.le_of_ble_eq_true rfl, Nat.le_of_ble_eq_true rfl⟩ rfl rfl (Nat.le_of_ble_eq_true rfl) hce dX8_takeInputWords_14 hq (fun _ h => c_X7_restart g.l g.G hdm  h) (fun w2 _ hq => ?_)
  refine x_iconst C dX8_takeInputWords_17 ?_
  refine x_istore_n (lv' := [(3, iV (0)), (2, iV (0)), (0, .ref (d.ad (1))), (1, iV (x1))]) C dX8_takeInputWords_18 (by decide) rfl ?_
  refine XG.sub [2, 1, 0] rfl ?_
  exact L_X8_takeInputWords_19 C hdm hA hR0 hce hR _ _ _ _ hq
set_option maxRecDepth 100000 in
set_option maxHeartbeats 4000000 in
theorem c_X8_takeInputWords (l : Launch) (G : Gd) {dm na : Nat} {ad : Nat → Nat} (hdm : dm = 0) {x1 : Int} {w w' : Wd} {r : Int}  (hq : p_X8_takeInputWords x1 w = some (r, w')) : mI l yX8_takeInputWords cX8_takeInputWords 4 (some .int) (rmv 3 62 0 0) G dm na ad [.ref (ad (1)), iV (x1)] w r w' := by
  refine met_I [(0, .ref (ad (1))), (1, iV (x1))] (by decide) (Nat.le_of_ble_eq_true rfl) rfl .int rfl (fun g d C S hR => ?_)
  obtain ⟨rfl, hR0, rfl, rfl, rfl, hA⟩ := S
  exact L_X8_takeInputWords (d := (na, ad, 0, 0)) C hdm hA hR0 ⟨Nat.zero_le _, Nat.zero_le _⟩ hR  _ w hq
set_option maxRecDepth 100000 in
set_option maxHeartbeats 4000000 in
theorem L_X8_addPart_72 {g : Cx} {d : Dl} (C : CX g cX8_addPart 3 (some .int) RX8) (hdm : g.dm = 0) (hA : ∀ q : Nat, g.s.heap.size ≤ q → g.A q) (hR0 : g.R = rmv 6 139 12 834) (hce : d.ce + 1 ≤ 12 ∧ d.so + 6 ≤ 834) {na0 : Nat} {ad0 : Nat → Nat} {res : Rz} (hT : thC g na0 ad0 12 834 res) (hR : RGI g na0 ad0 cX8_addPart .int 12 834 res) (hag : AG na0 ad0 d)  (w : Wd) (hq : p_X8_addPart_72 d.na w = some res) : XG g d (hP g d w) [] [] 72 := by
  exact x_gthrow C hT hR0 th1 hag (gcc hR0 hce (by decide) (by decide)).2 ⟨rfl, rfl⟩ ⟨Nat.le_of_ble_eq_true rfl, Nat.le_of_ble_eq_true rfl⟩ hq dX8_addPart_72 dX8_addPart_75 dX8_addPart_76 dX8_addPart_79
set_option maxRecDepth 100000 in
set_option maxHeartbeats 4000000 in
theorem L_X8_addPart_38 {g : Cx} {d : Dl} (C : CX g cX8_addPart 3 (some .int) RX8) (hdm : g.dm = 0) (hA : ∀ q : Nat, g.s.heap.size ≤ q → g.A q) (hR0 : g.R = rmv 6 139 12 834) (hce : d.ce + 1 ≤ 12 ∧ d.so + 6 ≤ 834) {na0 : Nat} {ad0 : Nat → Nat} {res : Rz} (hT : thC g na0 ad0 12 834 res) (hR : RGI g na0 ad0 cX8_addPart .int 12 834 res) (hag : AG na0 ad0 d)  (w : Wd) (hq : p_X8_addPart_38 d.na w = some res) : XG g d (hP g d w) [] [] 38 := by
  exact x_gthrow C hT hR0 th2 hag (gcc hR0 hce (by decide) (by decide)).2 ⟨rfl, rfl⟩ ⟨Nat.le_of_ble_eq_true rfl, Nat.le_of_ble_eq_true rfl⟩ hq dX8_addPart_38 dX8_addPart_41 dX8_addPart_42 dX8_addPart_45
set_option maxRecDepth 100000 in
set_option maxHeartbeats 4000000 in
theorem L_X8_addPart {g : Cx} {d : Dl} (C : CX g cX8_addPart 3 (some .int) RX8) (hdm : g.dm = 0) (hA : ∀ q : Nat, g.s.heap.size ≤ q → g.A q) (hR0 : g.R = rmv 6 139 12 834) (hce : d.ce + 12 ≤ 12 ∧ d.so + 834 ≤ 834) {na0 : Nat} {ad0 : Nat → Nat} {res : Rz} (hT : thC g na0 ad0 12 834 res) (hR : RGI g na0 ad0 cX8_addPart .int 12 834 res) (hag : AG na0 ad0 d) (x1 : Int) (w : Wd) (hq : p_X8_addPart x1 d.na w = some res) : XG g d (hP g d w) [(0, .ref (d.ad (1))), (1, iV (x1))] [] 0 := by
  refine x_aload_n C 0 dX8_addPart_0 rfl ?_
  refine x_getr (K := 9) (k := 6) (o2 := 116) C (isK_lit hdm rfl rfl) (by decide) cl_X8 (by decide) ⟨rfl, rfl, rfl⟩ fl_X8_53 rfl dX8_addPart_1 ?_
  refine x_aload_n C 0 dX8_addPart_4 rfl ?_
  refine x_getr (K := 9) (k := 4) (o2 := 100) C (isK_lit hdm rfl rfl) (by decide) cl_X8 (by decide) ⟨rfl, rfl, rfl⟩ fl_X8_42 rfl dX8_addPart_5 ?_
  refine x_callVv (K := 7) (rm := rmv 2 44 0 0) (As := [.ref (d.ad (100))]) (rest := []) C hA hR0 mf_X6_copy lk_X8_241 rfl (isK_lit hdm rfl rfl) (by decide) ⟨rfl, rfl⟩ ⟨Nat.le_of_ble_eq_true rfl, Nat.le_of_ble_eq_true rfl⟩ rfl rfl (Nat.le_of_ble_eq_true rfl) (gce hR0 hce) dX8_addPart_8 hq (fun _ h => c_X6_copy g.l g.G hdm (isK_lit hdm rfl rfl) (isK_lit hdm rfl rfl) h) (fun w1 _ hq => ?_)
  refine x_aload_n C 0 dX8_addPart_11 rfl ?_
  refine x_iload_n C 1 dX8_addPart_12 rfl ?_
  refine x_callVi (K := 9) (rm := rmv 3 62 0 0) (As := [iV (x1)]) (rest := []) C hA hR0 mf_X8_takeInputWords lk_X8_275 rfl (isK_lit hdm rfl rfl) (by decide) ⟨rfl, rfl⟩ ⟨Nat.le_of_ble_eq_true rfl, Nat.le_of_ble_eq_true rfl⟩ rfl rfl (Nat.le_of_ble_eq_true rfl) (gce hR0 hce) dX8_addPart_13 hq (fun _ _ h => c_X8_takeInputWords g.l g.G hdm  h) (fun r3 w2 _ hq => ?_)
  refine x_istore_n (lv' := [(2, iV (r3)), (0, .ref (d.ad (1))), (1, iV (x1))]) C dX8_addPart_16 (by decide) rfl ?_
  refine x_aload_n C 1 dX8_addPart_17 rfl ?_
  refine x_getr (K := 9) (k := 0) (o2 := 2) C (isK_lit hdm rfl rfl) (by decide) cl_X8 (by decide) ⟨rfl, rfl, rfl⟩ fl_X8_14 rfl dX8_addPart_18 ?_
  refine x_iconst C dX8_addPart_21 ?_
  refine x_put (K := 1) (k := 1) C (isK_lit hdm rfl rfl) (by decide) cl_X0 (by decide) ⟨rfl, rfl, rfl, rfl⟩ fl_X8_77 ⟨rfl, rfl⟩ dX8_addPart_22 ?_
  refine x_iload_n C 0 dX8_addPart_25 rfl ?_
  refine x_if_eq (tgt := 38) C dX8_addPart_26 (by decide) hq (fun hq => ?_) (fun hq => ?_)
  · refine XG.sub [] rfl ?_
    have hce : d.ce + 1 ≤ 12 ∧ d.so + 6 ≤ 834 := ⟨by omega, by omega⟩
    exact L_X8_addPart_38 C hdm hA hR0 hce hT hR hag _ hq
  · refine x_iload_n C 2 dX8_addPart_29 rfl ?_
    refine x_if_lt (tgt := 38) C dX8_addPart_30 (by decide) hq (fun hq => ?_) (fun hq => ?_)
    · refine XG.sub [] rfl ?_
      have hce : d.ce + 1 ≤ 12 ∧ d.so + 6 ≤ 834 := ⟨by omega, by omega⟩
      exact L_X8_addPart_38 C hdm hA hR0 hce hT hR hag _ hq
    · refine x_iload_n C 2 dX8_addPart_33 rfl ?_
      refine x_iconst C dX8_addPart_34 ?_
      refine x_icmp_le (tgt := 46) C dX8_addPart_35 (by decide) hq (fun hq => ?_) (fun hq => ?_)
      · refine x_aload_n C 1 dX8_addPart_46 rfl ?_
        refine x_getr (K := 9) (k := 4) (o2 := 100) C (isK_lit hdm rfl rfl) (by decide) cl_X8 (by decide) ⟨rfl, rfl, rfl⟩ fl_X8_42 rfl dX8_addPart_47 ?_
        refine x_get (K := 7) (k := 4) C (isK_lit hdm rfl rfl) (by decide) cl_X6 (by decide) ⟨rfl, rfl, rfl⟩ fl_X8_119 dX8_addPart_50 ?_
        refine x_bipush (v := 10) C dX8_addPart_53 (by decide +kernel) ?_
        refine x_icmp_ge (tgt := 72) C dX8_addPart_55 (by decide) hq (fun hq => ?_) (fun hq => ?_)
        · refine XG.sub [] rfl ?_
          have hce : d.ce + 1 ≤ 12 ∧ d.so + 6 ≤ 834 := ⟨by omega, by omega⟩
          exact L_X8_addPart_72 C hdm hA hR0 hce hT hR hag _ hq
        · refine x_aload_n C 1 dX8_addPart_58 rfl ?_
          refine x_getr (K := 9) (k := 4) (o2 := 100) C (isK_lit hdm rfl rfl) (by decide) cl_X8 (by decide) ⟨rfl, rfl, rfl⟩ fl_X8_42 rfl dX8_addPart_59 ?_
          refine x_get (K := 7) (k := 7) C (isK_lit hdm rfl rfl) (by decide) cl_X6 (by decide) ⟨rfl, rfl, rfl⟩ fl_X8_122 dX8_addPart_62 ?_
          refine x_iload_n C 0 dX8_addPart_65 rfl ?_
          refine x_iadd C dX8_addPart_66 ?_
          refine x_bipush (v := 60) C dX8_addPart_67 (by decide +kernel) ?_
          refine x_icmp_le (tgt := 80) C dX8_addPart_69 (by decide) hq (fun hq => ?_) (fun hq => ?_)
          · refine x_aload_n C 1 dX8_addPart_80 rfl ?_
            refine x_gcallV (K := 9) (rm := rmv 5 119 12 834) (mc' := 12) (ms' := 834) (As := []) (rest := []) C hA hR0 mf_X8_settle lk_X8_94 rfl (isK_lit hdm rfl rfl) (by decide) ⟨rfl, rfl⟩ ⟨Nat.le_of_ble_eq_true rfl, Nat.le_of_ble_eq_true rfl⟩ rfl rfl (Nat.le_of_ble_eq_true rfl) (gcc hR0 hce (by decide) (by decide)).1 hag (gcc hR0 hce (by decide) (by decide)).2 dX8_addPart_81 hR.2 hq (fun _ h => c_X8_settle g.l g.G hT.2.1 hdm  h) (fun r4 d7 w6 g8 hc1 hc2 hq => ?_)
            try rw [agr g8 (K := 9) (isK_lit hdm rfl rfl) (by decide)]
            have hag := hag.trans g8
            have hce : d7.ce + 0 ≤ 12 ∧ d7.so + 0 ≤ 834 := ⟨by omega, by omega⟩
            refine x_aload_n C 1 dX8_addPart_84 rfl ?_
            refine x_getr (K := 9) (k := 4) (o2 := 100) C (isK_lit hdm rfl rfl) (by decide) cl_X8 (by decide) ⟨rfl, rfl, rfl⟩ fl_X8_42 rfl dX8_addPart_85 ?_
            refine x_get (K := 7) (k := 4) C (isK_lit hdm rfl rfl) (by decide) cl_X6 (by decide) ⟨rfl, rfl, rfl⟩ fl_X8_119 dX8_addPart_88 ?_
            refine x_iconst C dX8_addPart_91 ?_
            refine x_isub C dX8_addPart_92 ?_
            exact hR.1 _ _ _ _ _ hag (gcd hce) hq rfl dX8_addPart_93
          · refine XG.sub [] rfl ?_
            have hce : d.ce + 1 ≤ 12 ∧ d.so + 6 ≤ 834 := ⟨by omega, by omega⟩
            exact L_X8_addPart_72 C hdm hA hR0 hce hT hR hag _ hq
      · refine XG.sub [] rfl ?_
        have hce : d.ce + 1 ≤ 12 ∧ d.so + 6 ≤ 834 := ⟨by omega, by omega⟩
        exact L_X8_addPart_38 C hdm hA hR0 hce hT hR hag _ hq
set_option maxRecDepth 100000 in
set_option maxHeartbeats 4000000 in
theorem c_X8_addPart (l : Launch) (G : Gd) (hfl : l.stackTraces = false) {dm na : Nat} {ad : Nat → Nat} (hdm : dm = 0) {x1 : Int} {w : Wd} {res : Rz}  (hq : p_X8_addPart x1 na w = some res) : mGI l yX8_addPart cX8_addPart 3 (some .int) (rmv 6 139 12 834) G dm na ad [.ref (ad (1)), iV (x1)] w res 12 834 := by
  refine met_GI hfl [(0, .ref (ad (1))), (1, iV (x1))] (by decide) (Nat.le_of_ble_eq_true rfl) rfl .int rfl (fun g d C S hT hR => ?_)
  obtain ⟨rfl, hR0, rfl, rfl, rfl, hA⟩ := S
  exact L_X8_addPart (d := (na, ad, 0, 0)) C hdm hA hR0 ⟨Nat.le_of_ble_eq_true rfl, Nat.le_of_ble_eq_true rfl⟩ hT hR (AG.rf (na, ad, 0, 0))  _ w hq
set_option maxRecDepth 100000 in
set_option maxHeartbeats 4000000 in
theorem L_X8_needPart_15 {g : Cx} {d : Dl} (C : CX g cX8_needPart 2 none RX8) (hdm : g.dm = 0) (hA : ∀ q : Nat, g.s.heap.size ≤ q → g.A q) (hR0 : g.R = rmv 6 89 1 6) (hce : d.ce + 1 ≤ 1 ∧ d.so + 6 ≤ 6) {na0 : Nat} {ad0 : Nat → Nat} {res : Rz} (hT : thC g na0 ad0 1 6 res) (hR : RGV g na0 ad0 cX8_needPart 1 6 res) (hag : AG na0 ad0 d)  (w : Wd) (hq : p_X8_needPart_15 d.na w = some res) : XG g d (hP g d w) [] [] 15 := by
  exact x_gthrow C hT hR0 th3 hag (gcc hR0 hce (by decide) (by decide)).2 ⟨rfl, rfl⟩ ⟨Nat.le_of_ble_eq_true rfl, Nat.le_of_ble_eq_true rfl⟩ hq dX8_needPart_15 dX8_needPart_18 dX8_needPart_19 dX8_needPart_22
set_option maxRecDepth 100000 in
set_option maxHeartbeats 4000000 in
theorem L_X8_needPart {g : Cx} {d : Dl} (C : CX g cX8_needPart 2 none RX8) (hdm : g.dm = 0) (hA : ∀ q : Nat, g.s.heap.size ≤ q → g.A q) (hR0 : g.R = rmv 6 89 1 6) (hce : d.ce + 1 ≤ 1 ∧ d.so + 6 ≤ 6) {na0 : Nat} {ad0 : Nat → Nat} {res : Rz} (hT : thC g na0 ad0 1 6 res) (hR : RGV g na0 ad0 cX8_needPart 1 6 res) (hag : AG na0 ad0 d) (x1 : Int) (w : Wd) (hq : p_X8_needPart x1 d.na w = some res) : XG g d (hP g d w) [(0, .ref (d.ad (1))), (1, iV (x1))] [] 0 := by
  refine x_iload_n C 1 dX8_needPart_0 rfl ?_
  refine x_if_lt (tgt := 15) C dX8_needPart_1 (by decide) hq (fun hq => ?_) (fun hq => ?_)
  · refine XG.sub [] rfl ?_
    exact L_X8_needPart_15 C hdm hA hR0 hce hT hR hag _ hq
  · refine x_iload_n C 1 dX8_needPart_4 rfl ?_
    refine x_aload_n C 0 dX8_needPart_5 rfl ?_
    refine x_getr (K := 9) (k := 4) (o2 := 100) C (isK_lit hdm rfl rfl) (by decide) cl_X8 (by decide) ⟨rfl, rfl, rfl⟩ fl_X8_42 rfl dX8_needPart_6 ?_
    refine x_get (K := 7) (k := 4) C (isK_lit hdm rfl rfl) (by decide) cl_X6 (by decide) ⟨rfl, rfl, rfl⟩ fl_X8_119 dX8_needPart_9 ?_
    refine x_icmp_lt (tgt := 23) C dX8_needPart_12 (by decide) hq (fun hq => ?_) (fun hq => ?_)
    · exact hR.1 _ _ _ _ hag (gcd hce) hq dX8_needPart_23
    · refine XG.sub [] rfl ?_
      exact L_X8_needPart_15 C hdm hA hR0 hce hT hR hag _ hq
set_option maxRecDepth 100000 in
set_option maxHeartbeats 4000000 in
theorem c_X8_needPart (l : Launch) (G : Gd) (hfl : l.stackTraces = false) {dm na : Nat} {ad : Nat → Nat} (hdm : dm = 0) {x1 : Int} {w : Wd} {res : Rz}  (hq : p_X8_needPart x1 na w = some res) : mGV l yX8_needPart cX8_needPart 2 none (rmv 6 89 1 6) G dm na ad [.ref (ad (1)), iV (x1)] w res 1 6 := by
  refine met_GV hfl [(0, .ref (ad (1))), (1, iV (x1))] (by decide) (Nat.le_of_ble_eq_true rfl) rfl rfl (fun g d C S hT hR => ?_)
  obtain ⟨rfl, hR0, rfl, rfl, rfl, hA⟩ := S
  exact L_X8_needPart (d := (na, ad, 0, 0)) C hdm hA hR0 ⟨Nat.le_of_ble_eq_true rfl, Nat.le_of_ble_eq_true rfl⟩ hT hR (AG.rf (na, ad, 0, 0))  _ w hq
set_option maxRecDepth 100000 in
set_option maxHeartbeats 4000000 in
theorem L_X6_firstOf_4 {g : Cx} {d : Dl} (C : CX g cX6_firstOf 4 (some .int) RX6) (hdm : g.dm = 0) (hA : ∀ q : Nat, g.s.heap.size ≤ q → g.A q) (hR0 : g.R = rmv 1 21 0 0) (hce : d.ce ≤ g.R.cells ∧ d.so ≤ g.R.slots) {res : Int × Wd} (hR : rtI g d cX6_firstOf .int res) {o0 : Nat} (h0 : isK d.na g.dm 7 o0) : ∀ (n : Nat) (x1 : Int) (x2 : Int) (x3 : Int) (w : Wd), p_X6_firstOf_4 o0 n x1 x2 x3 w = some res → XG g d (hP g d w) [(0, .ref (d.ad (o0))), (1, iV (x1)), (2, iV (x2)), (3, iV (x3))] [] 4 := by
  intro n
  induction n with
  | zero => intro x1 x2 x3 w  hq; exact nomatch (show none = some _ from hq)
  | succ n ih =>
    intro x1 x2 x3 w  hq
    refine x_iload_n C 3 dX6_firstOf_4 rfl ?_
    refine x_iload_n C 1 dX6_firstOf_5 rfl ?_
    refine x_icmp_ge (tgt := 26) C dX6_firstOf_6 (by decide) hq (fun hq => ?_) (fun hq => ?_)
    · refine x_iload_n C 2 dX6_firstOf_26 rfl ?_
      exact hR _ _ _ _ hq rfl dX6_firstOf_27
    · refine x_iload_n C 2 dX6_firstOf_9 rfl ?_
      refine x_aload_n C 0 dX6_firstOf_10 rfl ?_
      refine x_getr (K := 7) (k := 6) (o2 := o0 + 5) C h0 (by decide) cl_X6 (by decide) ⟨rfl, rfl, rfl⟩ fl_X6_36 rfl dX6_firstOf_11 ?_
      refine x_iload_n C 3 dX6_firstOf_14 rfl ?_
      refine x_callVi (K := 6) (rm := rmv 0 0 0 0) (As := [iV (x3)]) (rest := [iV (x2)]) C hA hR0 mf_X5_at lk_X6_81 rfl (ik7 h0).2.2.1 (by decide) ⟨rfl, rfl⟩ ⟨Nat.le_of_ble_eq_true rfl, Nat.le_of_ble_eq_true rfl⟩ rfl rfl (Nat.le_of_ble_eq_true rfl) hce dX6_firstOf_15 hq (fun _ _ h => c_X5_at g.l g.G hdm (ik7 h0).2.2.1 h) (fun r2 w1 _ hq => ?_)
      refine x_iadd C dX6_firstOf_18 ?_
      refine x_istore_n (lv' := [(2, iV (x2 + r2)), (0, .ref (d.ad (o0))), (1, iV (x1)), (3, iV (x3))]) C dX6_firstOf_19 (by decide) rfl ?_
      refine x_iinc (lv' := [(3, iV (x3 + 1)), (2, iV (x2 + r2)), (0, .ref (d.ad (o0))), (1, iV (x1))]) C 3 dX6_firstOf_20 rfl (by decide) rfl ?_
      refine x_goto (tgt := 4) C dX6_firstOf_23 (by decide) ?_
      refine XG.sub [2, 3, 1, 0] rfl ?_
      exact ih _ _ _ _ hq
set_option maxRecDepth 100000 in
set_option maxHeartbeats 4000000 in
theorem L_X6_firstOf {g : Cx} {d : Dl} (C : CX g cX6_firstOf 4 (some .int) RX6) (hdm : g.dm = 0) (hA : ∀ q : Nat, g.s.heap.size ≤ q → g.A q) (hR0 : g.R = rmv 1 21 0 0) (hce : d.ce ≤ g.R.cells ∧ d.so ≤ g.R.slots) {res : Int × Wd} (hR : rtI g d cX6_firstOf .int res) {o0 : Nat} (h0 : isK d.na g.dm 7 o0) (x1 : Int) (w : Wd) (hq : p_X6_firstOf o0 x1 w = some res) : XG g d (hP g d w) [(0, .ref (d.ad (o0))), (1, iV (x1))] [] 0 := by
  refine x_iconst C dX6_firstOf_0 ?_
  refine x_istore_n (lv' := [(2, iV (0)), (0, .ref (d.ad (o0))), (1, iV (x1))]) C dX6_firstOf_1 (by decide) rfl ?_
  refine x_iconst C dX6_firstOf_2 ?_
  refine x_istore_n (lv' := [(3, iV (0)), (2, iV (0)), (0, .ref (d.ad (o0))), (1, iV (x1))]) C dX6_firstOf_3 (by decide) rfl ?_
  refine XG.sub [2, 3, 1, 0] rfl ?_
  exact L_X6_firstOf_4 C hdm hA hR0 hce hR h0 _ _ _ _ _ hq
set_option maxRecDepth 100000 in
set_option maxHeartbeats 4000000 in
theorem c_X6_firstOf (l : Launch) (G : Gd) {dm na : Nat} {ad : Nat → Nat} (hdm : dm = 0) {o0 : Nat} {x1 : Int} {w w' : Wd} {r : Int} (h0 : isK na dm 7 o0) (hq : p_X6_firstOf o0 x1 w = some (r, w')) : mI l yX6_firstOf cX6_firstOf 4 (some .int) (rmv 1 21 0 0) G dm na ad [.ref (ad (o0)), iV (x1)] w r w' := by
  refine met_I [(0, .ref (ad (o0))), (1, iV (x1))] (by decide) (Nat.le_of_ble_eq_true rfl) rfl .int rfl (fun g d C S hR => ?_)
  obtain ⟨rfl, hR0, rfl, rfl, rfl, hA⟩ := S
  exact L_X6_firstOf (d := (na, ad, 0, 0)) C hdm hA hR0 ⟨Nat.zero_le _, Nat.zero_le _⟩ hR h0 _ w hq
set_option maxRecDepth 100000 in
set_option maxHeartbeats 4000000 in
theorem L_X6_takePart_33 {g : Cx} {d : Dl} (C : CX g cX6_takePart 6 none RX6) (hdm : g.dm = 0) (hA : ∀ q : Nat, g.s.heap.size ≤ q → g.A q) (hR0 : g.R = rmv 2 46 0 0) (hce : d.ce ≤ g.R.cells ∧ d.so ≤ g.R.slots) {res : Wd} (hR : rtV g d cX6_takePart res) {o0 : Nat} {o1 : Nat} (h0 : isK d.na g.dm 7 o0) (h1 : isK d.na g.dm 7 o1) : ∀ (n : Nat) (x4 : Int) (x5 : Int) (w : Wd), p_X6_takePart_33 o0 o1 n x4 x5 w = some res → XG g d (hP g d w) [(0, .ref (d.ad (o0))), (1, .ref (d.ad (o1))), (4, iV (x4)), (5, iV (x5))] [] 33 := by
  intro n
  induction n with
  | zero => intro x4 x5 w  hq; exact nomatch (show none = some _ from hq)
  | succ n ih =>
    intro x4 x5 w  hq
    refine x_iload C 3 dX6_takePart_33 rfl ?_
    refine x_iload C 2 dX6_takePart_35 rfl ?_
    refine x_icmp_ge (tgt := 68) C dX6_takePart_37 (by decide) hq (fun hq => ?_) (fun hq => ?_)
    · exact hR _ _ _ hq dX6_takePart_68
    · refine x_aload_n C 0 dX6_takePart_40 rfl ?_
      refine x_aload_n C 1 dX6_takePart_41 rfl ?_
      refine x_getr (K := 7) (k := 9) (o2 := o1 + 9) C h1 (by decide) cl_X6 (by decide) ⟨rfl, rfl, rfl⟩ fl_X6_45 rfl dX6_takePart_42 ?_
      refine x_iload C 3 dX6_takePart_45 rfl ?_
      refine x_bipush (v := 12) C dX6_takePart_47 (by decide +kernel) ?_
      refine x_imul C dX6_takePart_49 ?_
      refine x_aload_n C 1 dX6_takePart_50 rfl ?_
      refine x_getr (K := 7) (k := 8) (o2 := o1 + 7) C h1 (by decide) cl_X6 (by decide) ⟨rfl, rfl, rfl⟩ fl_X6_42 rfl dX6_takePart_51 ?_
      refine x_iload C 3 dX6_takePart_54 rfl ?_
      refine x_callVi (K := 6) (rm := rmv 0 0 0 0) (As := [iV (x5)]) (rest := [iV (x5 * 12), .ref (d.ad (o1 + 9)), .ref (d.ad (o0))]) C hA hR0 mf_X5_at lk_X6_81 rfl (ik7 h1).2.2.2.1 (by decide) ⟨rfl, rfl⟩ ⟨Nat.le_of_ble_eq_true rfl, Nat.le_of_ble_eq_true rfl⟩ rfl rfl (Nat.le_of_ble_eq_true rfl) hce dX6_takePart_56 hq (fun _ _ h => c_X5_at g.l g.G hdm (ik7 h1).2.2.2.1 h) (fun r2 w1 _ hq => ?_)
      refine x_callVv (K := 7) (rm := rmv 1 22 0 0) (As := [.ref (d.ad (o1 + 9)), iV (x5 * 12), iV (r2)]) (rest := []) C hA hR0 mf_X6_takeWord lk_X6_107 rfl h0 (by decide) ⟨rfl, rfl⟩ ⟨Nat.le_of_ble_eq_true rfl, Nat.le_of_ble_eq_true rfl⟩ rfl rfl (Nat.le_of_ble_eq_true rfl) hce dX6_takePart_59 hq (fun _ h => c_X6_takeWord g.l g.G hdm h0 (ik7 h1).2.2.2.2.1 h) (fun w3 _ hq => ?_)
      refine x_iinc (lv' := [(5, iV (x5 + 1)), (0, .ref (d.ad (o0))), (1, .ref (d.ad (o1))), (4, iV (x4))]) C 3 dX6_takePart_62 rfl (by decide) rfl ?_
      refine x_goto (tgt := 33) C dX6_takePart_65 (by decide) ?_
      refine XG.sub [1, 2, 3, 0] rfl ?_
      exact ih _ _ _ hq
set_option maxRecDepth 100000 in
set_option maxHeartbeats 4000000 in
theorem L_X6_takePart {g : Cx} {d : Dl} (C : CX g cX6_takePart 6 none RX6) (hdm : g.dm = 0) (hA : ∀ q : Nat, g.s.heap.size ≤ q → g.A q) (hR0 : g.R = rmv 2 46 0 0) (hce : d.ce ≤ g.R.cells ∧ d.so ≤ g.R.slots) {res : Wd} (hR : rtV g d cX6_takePart res) {o0 : Nat} {o1 : Nat} (h0 : isK d.na g.dm 7 o0) (h1 : isK d.na g.dm 7 o1) (x2 : Int) (w : Wd) (hq : p_X6_takePart o0 o1 x2 w = some res) : XG g d (hP g d w) [(0, .ref (d.ad (o0))), (1, .ref (d.ad (o1))), (2, iV (x2))] [] 0 := by
  refine x_aload_n C 1 dX6_takePart_0 rfl ?_
  refine x_iload_n C 2 dX6_takePart_1 rfl ?_
  refine x_callVi (K := 7) (rm := rmv 1 21 0 0) (As := [iV (x2)]) (rest := []) C hA hR0 mf_X6_firstOf lk_X6_101 rfl h1 (by decide) ⟨rfl, rfl⟩ ⟨Nat.le_of_ble_eq_true rfl, Nat.le_of_ble_eq_true rfl⟩ rfl rfl (Nat.le_of_ble_eq_true rfl) hce dX6_takePart_2 hq (fun _ _ h => c_X6_firstOf g.l g.G hdm h1 h) (fun r2 w1 _ hq => ?_)
  refine x_istore_n (lv' := [(3, iV (r2)), (0, .ref (d.ad (o0))), (1, .ref (d.ad (o1))), (2, iV (x2))]) C dX6_takePart_5 (by decide) rfl ?_
  refine x_iload_n C 0 dX6_takePart_6 rfl ?_
  refine x_aload_n C 2 dX6_takePart_7 rfl ?_
  refine x_getr (K := 7) (k := 6) (o2 := o1 + 5) C h1 (by decide) cl_X6 (by decide) ⟨rfl, rfl, rfl⟩ fl_X6_36 rfl dX6_takePart_8 ?_
  refine x_iload_n C 3 dX6_takePart_11 rfl ?_
  refine x_callVi (K := 6) (rm := rmv 0 0 0 0) (As := [iV (x2)]) (rest := [iV (r2)]) C hA hR0 mf_X5_at lk_X6_81 rfl (ik7 h1).2.2.1 (by decide) ⟨rfl, rfl⟩ ⟨Nat.le_of_ble_eq_true rfl, Nat.le_of_ble_eq_true rfl⟩ rfl rfl (Nat.le_of_ble_eq_true rfl) hce dX6_takePart_12 hq (fun _ _ h => c_X5_at g.l g.G hdm (ik7 h1).2.2.1 h) (fun r4 w3 _ hq => ?_)
  refine x_iadd C dX6_takePart_15 ?_
  refine x_istore (lv' := [(4, iV (r2 + r4)), (3, iV (r2)), (0, .ref (d.ad (o0))), (1, .ref (d.ad (o1))), (2, iV (x2))]) C dX6_takePart_16 (by decide) rfl ?_
  refine x_aload_n C 2 dX6_takePart_18 rfl ?_
  refine x_aload_n C 3 dX6_takePart_19 rfl ?_
  refine x_getr (K := 7) (k := 5) (o2 := o1 + 3) C h1 (by decide) cl_X6 (by decide) ⟨rfl, rfl, rfl⟩ fl_X6_33 rfl dX6_takePart_20 ?_
  refine x_iload_n C 4 dX6_takePart_23 rfl ?_
  refine x_callVi (K := 6) (rm := rmv 0 0 0 0) (As := [iV (x2)]) (rest := [.ref (d.ad (o0))]) C hA hR0 mf_X5_at lk_X6_81 rfl (ik7 h1).2.1 (by decide) ⟨rfl, rfl⟩ ⟨Nat.le_of_ble_eq_true rfl, Nat.le_of_ble_eq_true rfl⟩ rfl rfl (Nat.le_of_ble_eq_true rfl) hce dX6_takePart_24 hq (fun _ _ h => c_X5_at g.l g.G hdm (ik7 h1).2.1 h) (fun r6 w5 _ hq => ?_)
  refine x_callVv (K := 7) (rm := rmv 1 22 0 0) (As := [iV (r6)]) (rest := []) C hA hR0 mf_X6_openPart lk_X6_104 rfl h0 (by decide) ⟨rfl, rfl⟩ ⟨Nat.le_of_ble_eq_true rfl, Nat.le_of_ble_eq_true rfl⟩ rfl rfl (Nat.le_of_ble_eq_true rfl) hce dX6_takePart_27 hq (fun _ h => c_X6_openPart g.l g.G hdm h0 h) (fun w7 _ hq => ?_)
  refine x_iload_n C 1 dX6_takePart_30 rfl ?_
  refine x_istore (lv' := [(5, iV (r2)), (4, iV (r2 + r4)), (3, iV (r2)), (0, .ref (d.ad (o0))), (1, .ref (d.ad (o1))), (2, iV (x2))]) C dX6_takePart_31 (by decide) rfl ?_
  refine XG.sub [3, 4, 1, 0] rfl ?_
  exact L_X6_takePart_33 C hdm hA hR0 hce hR h0 h1 _ _ _ _ hq
set_option maxRecDepth 100000 in
set_option maxHeartbeats 4000000 in
theorem c_X6_takePart (l : Launch) (G : Gd) {dm na : Nat} {ad : Nat → Nat} (hdm : dm = 0) {o0 : Nat} {o1 : Nat} {x2 : Int} {w w' : Wd}  (h0 : isK na dm 7 o0) (h1 : isK na dm 7 o1) (hq : p_X6_takePart o0 o1 x2 w = some w') : mV l yX6_takePart cX6_takePart 6 none (rmv 2 46 0 0) G dm na ad [.ref (ad (o0)), .ref (ad (o1)), iV (x2)] w w' := by
  refine met_V [(0, .ref (ad (o0))), (1, .ref (ad (o1))), (2, iV (x2))] (by decide) (Nat.le_of_ble_eq_true rfl) rfl rfl (fun g d C S hR => ?_)
  obtain ⟨rfl, hR0, rfl, rfl, rfl, hA⟩ := S
  exact L_X6_takePart (d := (na, ad, 0, 0)) C hdm hA hR0 ⟨Nat.zero_le _, Nat.zero_le _⟩ hR h0 h1 _ w hq
set_option maxRecDepth 100000 in
set_option maxHeartbeats 4000000 in
theorem L_X8_tryWithout_48 {g : Cx} {d : Dl} (C : CX g cX8_tryWithout 3 none RX8) (hdm : g.dm = 0) (hA : ∀ q : Nat, g.s.heap.size ≤ q → g.A q) (hR0 : g.R = rmv 3 71 0 0) (hce : d.ce ≤ g.R.cells ∧ d.so ≤ g.R.slots) {res : Wd} (hR : rtV g d cX8_tryWithout res) {k20 : Int → Int → Wd → Option (Wd)} (hk20 : ∀ (x1 : Int) (x2 : Int) (w : Wd), k20 x1 x2 w = some res → XG g d (hP g d w) [(0, .ref (d.ad (1))), (1, iV (x1)), (2, iV (x2))] [] 20) (x1 : Int) (x2 : Int) (w : Wd) (hq : p_X8_tryWithout_48 k20 x1 x2 w = some res) : XG g d (hP g d w) [(0, .ref (d.ad (1))), (1, iV (x1)), (2, iV (x2))] [] 48 := by
  refine x_iinc (lv' := [(2, iV (x2 + 1)), (0, .ref (d.ad (1))), (1, iV (x1))]) C 2 dX8_tryWithout_48 rfl (by decide) rfl ?_
  refine x_goto (tgt := 20) C dX8_tryWithout_51 (by decide) ?_
  refine XG.sub [1, 2, 0] rfl ?_
  exact hk20 _ _ _ hq
set_option maxRecDepth 100000 in
set_option maxHeartbeats 4000000 in
theorem L_X8_tryWithout_20 {g : Cx} {d : Dl} (C : CX g cX8_tryWithout 3 none RX8) (hdm : g.dm = 0) (hA : ∀ q : Nat, g.s.heap.size ≤ q → g.A q) (hR0 : g.R = rmv 3 71 0 0) (hce : d.ce ≤ g.R.cells ∧ d.so ≤ g.R.slots) {res : Wd} (hR : rtV g d cX8_tryWithout res) : ∀ (n : Nat) (x1 : Int) (x2 : Int) (w : Wd), p_X8_tryWithout_20 n x1 x2 w = some res → XG g d (hP g d w) [(0, .ref (d.ad (1))), (1, iV (x1)), (2, iV (x2))] [] 20 := by
  intro n
  induction n with
  | zero => intro x1 x2 w  hq; exact nomatch (show none = some _ from hq)
  | succ n ih =>
    intro x1 x2 w  hq
    refine x_iload_n C 2 dX8_tryWithout_20 rfl ?_
    refine x_aload_n C 0 dX8_tryWithout_21 rfl ?_
    refine x_getr (K := 9) (k := 4) (o2 := 100) C (isK_lit hdm rfl rfl) (by decide) cl_X8 (by decide) ⟨rfl, rfl, rfl⟩ fl_X8_42 rfl dX8_tryWithout_22 ?_
    refine x_get (K := 7) (k := 4) C (isK_lit hdm rfl rfl) (by decide) cl_X6 (by decide) ⟨rfl, rfl, rfl⟩ fl_X8_119 dX8_tryWithout_25 ?_
    refine x_icmp_ge (tgt := 54) C dX8_tryWithout_28 (by decide) hq (fun hq => ?_) (fun hq => ?_)
    · exact hR _ _ _ hq dX8_tryWithout_54
    · refine x_iload_n C 2 dX8_tryWithout_31 rfl ?_
      refine x_iload_n C 1 dX8_tryWithout_32 rfl ?_
      refine x_icmp_eq (tgt := 48) C dX8_tryWithout_33 (by decide) hq (fun hq => ?_) (fun hq => ?_)
      · exact L_X8_tryWithout_48 C hdm hA hR0 hce hR ih _ _ _ hq
      · refine x_aload_n C 0 dX8_tryWithout_36 rfl ?_
        refine x_getr (K := 9) (k := 6) (o2 := 116) C (isK_lit hdm rfl rfl) (by decide) cl_X8 (by decide) ⟨rfl, rfl, rfl⟩ fl_X8_53 rfl dX8_tryWithout_37 ?_
        refine x_aload_n C 0 dX8_tryWithout_40 rfl ?_
        refine x_getr (K := 9) (k := 4) (o2 := 100) C (isK_lit hdm rfl rfl) (by decide) cl_X8 (by decide) ⟨rfl, rfl, rfl⟩ fl_X8_42 rfl dX8_tryWithout_41 ?_
        refine x_iload_n C 2 dX8_tryWithout_44 rfl ?_
        refine x_callVv (K := 7) (rm := rmv 2 46 0 0) (As := [.ref (d.ad (100)), iV (x2)]) (rest := []) C hA hR0 mf_X6_takePart lk_X8_321 rfl (isK_lit hdm rfl rfl) (by decide) ⟨rfl, rfl⟩ ⟨Nat.le_of_ble_eq_true rfl, Nat.le_of_ble_eq_true rfl⟩ rfl rfl (Nat.le_of_ble_eq_true rfl) hce dX8_tryWithout_45 hq (fun _ h => c_X6_takePart g.l g.G hdm (isK_lit hdm rfl rfl) (isK_lit hdm rfl rfl) h) (fun w1 _ hq => ?_)
        exact L_X8_tryWithout_48 C hdm hA hR0 hce hR ih _ _ _ hq
set_option maxRecDepth 100000 in
set_option maxHeartbeats 4000000 in
theorem L_X8_tryWithout {g : Cx} {d : Dl} (C : CX g cX8_tryWithout 3 none RX8) (hdm : g.dm = 0) (hA : ∀ q : Nat, g.s.heap.size ≤ q → g.A q) (hR0 : g.R = rmv 3 71 0 0) (hce : d.ce ≤ g.R.cells ∧ d.so ≤ g.R.slots) {res : Wd} (hR : rtV g d cX8_tryWithout res) (x1 : Int) (w : Wd) (hq : p_X8_tryWithout x1 w = some res) : XG g d (hP g d w) [(0, .ref (d.ad (1))), (1, iV (x1))] [] 0 := by
  refine x_aload_n C 0 dX8_tryWithout_0 rfl ?_
  refine x_getr (K := 9) (k := 6) (o2 := 116) C (isK_lit hdm rfl rfl) (by decide) cl_X8 (by decide) ⟨rfl, rfl, rfl⟩ fl_X8_53 rfl dX8_tryWithout_1 ?_
  refine x_aload_n C 0 dX8_tryWithout_4 rfl ?_
  refine x_getr (K := 9) (k := 4) (o2 := 100) C (isK_lit hdm rfl rfl) (by decide) cl_X8 (by decide) ⟨rfl, rfl, rfl⟩ fl_X8_42 rfl dX8_tryWithout_5 ?_
  refine x_callVv (K := 7) (rm := rmv 2 44 0 0) (As := [.ref (d.ad (100))]) (rest := []) C hA hR0 mf_X6_copy lk_X8_241 rfl (isK_lit hdm rfl rfl) (by decide) ⟨rfl, rfl⟩ ⟨Nat.le_of_ble_eq_true rfl, Nat.le_of_ble_eq_true rfl⟩ rfl rfl (Nat.le_of_ble_eq_true rfl) hce dX8_tryWithout_8 hq (fun _ h => c_X6_copy g.l g.G hdm (isK_lit hdm rfl rfl) (isK_lit hdm rfl rfl) h) (fun w1 _ hq => ?_)
  refine x_aload_n C 0 dX8_tryWithout_11 rfl ?_
  refine x_getr (K := 9) (k := 6) (o2 := 116) C (isK_lit hdm rfl rfl) (by decide) cl_X8 (by decide) ⟨rfl, rfl, rfl⟩ fl_X8_53 rfl dX8_tryWithout_12 ?_
  refine x_callVv (K := 7) (rm := rmv 0 0 0 0) (As := []) (rest := []) C hA hR0 mf_X6_clearParts lk_X8_318 rfl (isK_lit hdm rfl rfl) (by decide) ⟨rfl, rfl⟩ ⟨Nat.le_of_ble_eq_true rfl, Nat.le_of_ble_eq_true rfl⟩ rfl rfl (Nat.le_of_ble_eq_true rfl) hce dX8_tryWithout_15 hq (fun _ h => c_X6_clearParts g.l g.G hdm (isK_lit hdm rfl rfl) h) (fun w2 _ hq => ?_)
  refine x_iconst C dX8_tryWithout_18 ?_
  refine x_istore_n (lv' := [(2, iV (0)), (0, .ref (d.ad (1))), (1, iV (x1))]) C dX8_tryWithout_19 (by decide) rfl ?_
  refine XG.sub [1, 2, 0] rfl ?_
  exact L_X8_tryWithout_20 C hdm hA hR0 hce hR _ _ _ _ hq
set_option maxRecDepth 100000 in
set_option maxHeartbeats 4000000 in
theorem c_X8_tryWithout (l : Launch) (G : Gd) {dm na : Nat} {ad : Nat → Nat} (hdm : dm = 0) {x1 : Int} {w w' : Wd}   (hq : p_X8_tryWithout x1 w = some w') : mV l yX8_tryWithout cX8_tryWithout 3 none (rmv 3 71 0 0) G dm na ad [.ref (ad (1)), iV (x1)] w w' := by
  refine met_V [(0, .ref (ad (1))), (1, iV (x1))] (by decide) (Nat.le_of_ble_eq_true rfl) rfl rfl (fun g d C S hR => ?_)
  obtain ⟨rfl, hR0, rfl, rfl, rfl, hA⟩ := S
  exact L_X8_tryWithout (d := (na, ad, 0, 0)) C hdm hA hR0 ⟨Nat.zero_le _, Nat.zero_le _⟩ hR  _ w hq
set_option maxRecDepth 100000 in
set_option maxHeartbeats 4000000 in
theorem L_X6_sameWord_23 {g : Cx} {d : Dl} (C : CX g cX6_sameWord 4 (some .boolean) RX6) (hdm : g.dm = 0) (hA : ∀ q : Nat, g.s.heap.size ≤ q → g.A q) (hR0 : g.R = rmv 2 43 0 0) (hce : d.ce ≤ g.R.cells ∧ d.so ≤ g.R.slots) {res : Int × Wd} (hR : rtI g d cX6_sameWord .boolean res) {o0 : Nat} {o1 : Nat} (h0 : isK d.na g.dm 7 o0) (h1 : isK d.na g.dm 7 o1) : ∀ (n : Nat) (x2 : Int) (x3 : Int) (w : Wd), p_X6_sameWord_23 o0 o1 n x2 x3 w = some res → XG g d (hP g d w) [(0, .ref (d.ad (o0))), (1, .ref (d.ad (o1))), (2, iV (x2)), (3, iV (x3))] [] 23 := by
  intro n
  induction n with
  | zero => intro x2 x3 w  hq; exact nomatch (show none = some _ from hq)
  | succ n ih =>
    intro x2 x3 w  hq
    refine x_iload_n C 3 dX6_sameWord_23 rfl ?_
    refine x_aload_n C 0 dX6_sameWord_24 rfl ?_
    refine x_getr (K := 7) (k := 8) (o2 := o0 + 7) C h0 (by decide) cl_X6 (by decide) ⟨rfl, rfl, rfl⟩ fl_X6_42 rfl dX6_sameWord_25 ?_
    refine x_iload_n C 2 dX6_sameWord_28 rfl ?_
    refine x_callVi (K := 6) (rm := rmv 0 0 0 0) (As := [iV (x2)]) (rest := [iV (x3)]) C hA hR0 mf_X5_at lk_X6_81 rfl (ik7 h0).2.2.2.1 (by decide) ⟨rfl, rfl⟩ ⟨Nat.le_of_ble_eq_true rfl, Nat.le_of_ble_eq_true rfl⟩ rfl rfl (Nat.le_of_ble_eq_true rfl) hce dX6_sameWord_29 hq (fun _ _ h => c_X5_at g.l g.G hdm (ik7 h0).2.2.2.1 h) (fun r2 w1 _ hq => ?_)
    refine x_icmp_ge (tgt := 58) C dX6_sameWord_32 (by decide) hq (fun hq => ?_) (fun hq => ?_)
    · refine x_iconst C dX6_sameWord_58 ?_
      exact hR _ _ _ _ hq (by decide +kernel) dX6_sameWord_59
    · refine x_aload_n C 0 dX6_sameWord_35 rfl ?_
      refine x_iload_n C 2 dX6_sameWord_36 rfl ?_
      refine x_iload_n C 3 dX6_sameWord_37 rfl ?_
      refine x_callVi (K := 7) (rm := rmv 1 21 0 0) (As := [iV (x2), iV (x3)]) (rest := []) C hA hR0 mf_X6_byteOf lk_X6_111 rfl h0 (by decide) ⟨rfl, rfl⟩ ⟨Nat.le_of_ble_eq_true rfl, Nat.le_of_ble_eq_true rfl⟩ rfl rfl (Nat.le_of_ble_eq_true rfl) hce dX6_sameWord_38 hq (fun _ _ h => c_X6_byteOf g.l g.G hdm h0 h) (fun r4 w3 _ hq => ?_)
      refine x_aload_n C 1 dX6_sameWord_41 rfl ?_
      refine x_iload_n C 2 dX6_sameWord_42 rfl ?_
      refine x_iload_n C 3 dX6_sameWord_43 rfl ?_
      refine x_callVi (K := 7) (rm := rmv 1 21 0 0) (As := [iV (x2), iV (x3)]) (rest := [iV (r4)]) C hA hR0 mf_X6_byteOf lk_X6_111 rfl h1 (by decide) ⟨rfl, rfl⟩ ⟨Nat.le_of_ble_eq_true rfl, Nat.le_of_ble_eq_true rfl⟩ rfl rfl (Nat.le_of_ble_eq_true rfl) hce dX6_sameWord_44 hq (fun _ _ h => c_X6_byteOf g.l g.G hdm h1 h) (fun r6 w5 _ hq => ?_)
      refine x_icmp_eq (tgt := 52) C dX6_sameWord_47 (by decide) hq (fun hq => ?_) (fun hq => ?_)
      · refine x_iinc (lv' := [(3, iV (x3 + 1)), (0, .ref (d.ad (o0))), (1, .ref (d.ad (o1))), (2, iV (x2))]) C 3 dX6_sameWord_52 rfl (by decide) rfl ?_
        refine x_goto (tgt := 23) C dX6_sameWord_55 (by decide) ?_
        refine XG.sub [1, 2, 3, 0] rfl ?_
        exact ih _ _ _ hq
      · refine x_iconst C dX6_sameWord_50 ?_
        exact hR _ _ _ _ hq (by decide +kernel) dX6_sameWord_51
set_option maxRecDepth 100000 in
set_option maxHeartbeats 4000000 in
theorem L_X6_sameWord {g : Cx} {d : Dl} (C : CX g cX6_sameWord 4 (some .boolean) RX6) (hdm : g.dm = 0) (hA : ∀ q : Nat, g.s.heap.size ≤ q → g.A q) (hR0 : g.R = rmv 2 43 0 0) (hce : d.ce ≤ g.R.cells ∧ d.so ≤ g.R.slots) {res : Int × Wd} (hR : rtI g d cX6_sameWord .boolean res) {o0 : Nat} {o1 : Nat} (h0 : isK d.na g.dm 7 o0) (h1 : isK d.na g.dm 7 o1) (x2 : Int) (w : Wd) (hq : p_X6_sameWord o0 o1 x2 w = some res) : XG g d (hP g d w) [(0, .ref (d.ad (o0))), (1, .ref (d.ad (o1))), (2, iV (x2))] [] 0 := by
  refine x_aload_n C 0 dX6_sameWord_0 rfl ?_
  refine x_getr (K := 7) (k := 8) (o2 := o0 + 7) C h0 (by decide) cl_X6 (by decide) ⟨rfl, rfl, rfl⟩ fl_X6_42 rfl dX6_sameWord_1 ?_
  refine x_iload_n C 2 dX6_sameWord_4 rfl ?_
  refine x_callVi (K := 6) (rm := rmv 0 0 0 0) (As := [iV (x2)]) (rest := []) C hA hR0 mf_X5_at lk_X6_81 rfl (ik7 h0).2.2.2.1 (by decide) ⟨rfl, rfl⟩ ⟨Nat.le_of_ble_eq_true rfl, Nat.le_of_ble_eq_true rfl⟩ rfl rfl (Nat.le_of_ble_eq_true rfl) hce dX6_sameWord_5 hq (fun _ _ h => c_X5_at g.l g.G hdm (ik7 h0).2.2.2.1 h) (fun r2 w1 _ hq => ?_)
  refine x_aload_n C 1 dX6_sameWord_8 rfl ?_
  refine x_getr (K := 7) (k := 8) (o2 := o1 + 7) C h1 (by decide) cl_X6 (by decide) ⟨rfl, rfl, rfl⟩ fl_X6_42 rfl dX6_sameWord_9 ?_
  refine x_iload_n C 2 dX6_sameWord_12 rfl ?_
  refine x_callVi (K := 6) (rm := rmv 0 0 0 0) (As := [iV (x2)]) (rest := [iV (r2)]) C hA hR0 mf_X5_at lk_X6_81 rfl (ik7 h1).2.2.2.1 (by decide) ⟨rfl, rfl⟩ ⟨Nat.le_of_ble_eq_true rfl, Nat.le_of_ble_eq_true rfl⟩ rfl rfl (Nat.le_of_ble_eq_true rfl) hce dX6_sameWord_13 hq (fun _ _ h => c_X5_at g.l g.G hdm (ik7 h1).2.2.2.1 h) (fun r4 w3 _ hq => ?_)
  refine x_icmp_eq (tgt := 21) C dX6_sameWord_16 (by decide) hq (fun hq => ?_) (fun hq => ?_)
  · refine x_iconst C dX6_sameWord_21 ?_
    refine x_istore_n (lv' := [(3, iV (0)), (0, .ref (d.ad (o0))), (1, .ref (d.ad (o1))), (2, iV (x2))]) C dX6_sameWord_22 (by decide) rfl ?_
    refine XG.sub [1, 2, 3, 0] rfl ?_
    exact L_X6_sameWord_23 C hdm hA hR0 hce hR h0 h1 _ _ _ _ hq
  · refine x_iconst C dX6_sameWord_19 ?_
    exact hR _ _ _ _ hq (by decide +kernel) dX6_sameWord_20
set_option maxRecDepth 100000 in
set_option maxHeartbeats 4000000 in
theorem c_X6_sameWord (l : Launch) (G : Gd) {dm na : Nat} {ad : Nat → Nat} (hdm : dm = 0) {o0 : Nat} {o1 : Nat} {x2 : Int} {w w' : Wd} {r : Int} (h0 : isK na dm 7 o0) (h1 : isK na dm 7 o1) (hq : p_X6_sameWord o0 o1 x2 w = some (r, w')) : mI l yX6_sameWord cX6_sameWord 4 (some .boolean) (rmv 2 43 0 0) G dm na ad [.ref (ad (o0)), .ref (ad (o1)), iV (x2)] w r w' := by
  refine met_I [(0, .ref (ad (o0))), (1, .ref (ad (o1))), (2, iV (x2))] (by decide) (Nat.le_of_ble_eq_true rfl) rfl .boolean rfl (fun g d C S hR => ?_)
  obtain ⟨rfl, hR0, rfl, rfl, rfl, hA⟩ := S
  exact L_X6_sameWord (d := (na, ad, 0, 0)) C hdm hA hR0 ⟨Nat.zero_le _, Nat.zero_le _⟩ hR h0 h1 _ w hq
set_option maxRecDepth 100000 in
set_option maxHeartbeats 4000000 in
theorem L_X8_sameOnTrial {g : Cx} {d : Dl} (C : CX g cX8_sameOnTrial 2 (some .boolean) RX8) (hdm : g.dm = 0) (hA : ∀ q : Nat, g.s.heap.size ≤ q → g.A q) (hR0 : g.R = rmv 3 66 0 0) (hce : d.ce ≤ g.R.cells ∧ d.so ≤ g.R.slots) {res : Int × Wd} (hR : rtI g d cX8_sameOnTrial .boolean res) (x1 : Int) (w : Wd) (hq : p_X8_sameOnTrial x1 w = some res) : XG g d (hP g d w) [(0, .ref (d.ad (1))), (1, iV (x1))] [] 0 := by
  refine x_iload_n C 1 dX8_sameOnTrial_0 rfl ?_
  refine x_aload_n C 0 dX8_sameOnTrial_1 rfl ?_
  refine x_getr (K := 9) (k := 7) (o2 := 20) C (isK_lit hdm rfl rfl) (by decide) cl_X8 (by decide) ⟨rfl, rfl, rfl⟩ fl_X8_56 rfl dX8_sameOnTrial_2 ?_
  refine x_get (K := 3) (k := 4) C (isK_lit hdm rfl rfl) (by decide) cl_X2 (by decide) ⟨rfl, rfl, rfl⟩ fl_X8_97 dX8_sameOnTrial_5 ?_
  refine x_icmp_ge (tgt := 80) C dX8_sameOnTrial_8 (by decide) hq (fun hq => ?_) (fun hq => ?_)
  · refine x_iconst C dX8_sameOnTrial_80 ?_
    exact hR _ _ _ _ hq (by decide +kernel) dX8_sameOnTrial_81
  · refine x_aload_n C 0 dX8_sameOnTrial_11 rfl ?_
    refine x_getr (K := 9) (k := 5) (o2 := 10) C (isK_lit hdm rfl rfl) (by decide) cl_X8 (by decide) ⟨rfl, rfl, rfl⟩ fl_X8_49 rfl dX8_sameOnTrial_12 ?_
    refine x_getr (K := 3) (k := 0) (o2 := 11) C (isK_lit hdm rfl rfl) (by decide) cl_X2 (by decide) ⟨rfl, rfl, rfl⟩ fl_X8_177 rfl dX8_sameOnTrial_15 ?_
    refine x_iload_n C 1 dX8_sameOnTrial_18 rfl ?_
    refine x_callVi (K := 6) (rm := rmv 0 0 0 0) (As := [iV (x1)]) (rest := []) C hA hR0 mf_X5_at lk_X8_160 rfl (isK_lit hdm rfl rfl) (by decide) ⟨rfl, rfl⟩ ⟨Nat.le_of_ble_eq_true rfl, Nat.le_of_ble_eq_true rfl⟩ rfl rfl (Nat.le_of_ble_eq_true rfl) hce dX8_sameOnTrial_19 hq (fun _ _ h => c_X5_at g.l g.G hdm (isK_lit hdm rfl rfl) h) (fun r2 w1 _ hq => ?_)
    refine x_aload_n C 0 dX8_sameOnTrial_22 rfl ?_
    refine x_getr (K := 9) (k := 7) (o2 := 20) C (isK_lit hdm rfl rfl) (by decide) cl_X8 (by decide) ⟨rfl, rfl, rfl⟩ fl_X8_56 rfl dX8_sameOnTrial_23 ?_
    refine x_getr (K := 3) (k := 0) (o2 := 21) C (isK_lit hdm rfl rfl) (by decide) cl_X2 (by decide) ⟨rfl, rfl, rfl⟩ fl_X8_177 rfl dX8_sameOnTrial_26 ?_
    refine x_iload_n C 1 dX8_sameOnTrial_29 rfl ?_
    refine x_callVi (K := 6) (rm := rmv 0 0 0 0) (As := [iV (x1)]) (rest := [iV (r2)]) C hA hR0 mf_X5_at lk_X8_160 rfl (isK_lit hdm rfl rfl) (by decide) ⟨rfl, rfl⟩ ⟨Nat.le_of_ble_eq_true rfl, Nat.le_of_ble_eq_true rfl⟩ rfl rfl (Nat.le_of_ble_eq_true rfl) hce dX8_sameOnTrial_30 hq (fun _ _ h => c_X5_at g.l g.G hdm (isK_lit hdm rfl rfl) h) (fun r4 w3 _ hq => ?_)
    refine x_icmp_ne (tgt := 80) C dX8_sameOnTrial_33 (by decide) hq (fun hq => ?_) (fun hq => ?_)
    · refine x_iconst C dX8_sameOnTrial_80 ?_
      exact hR _ _ _ _ hq (by decide +kernel) dX8_sameOnTrial_81
    · refine x_aload_n C 0 dX8_sameOnTrial_36 rfl ?_
      refine x_getr (K := 9) (k := 5) (o2 := 10) C (isK_lit hdm rfl rfl) (by decide) cl_X8 (by decide) ⟨rfl, rfl, rfl⟩ fl_X8_49 rfl dX8_sameOnTrial_37 ?_
      refine x_getr (K := 3) (k := 1) (o2 := 13) C (isK_lit hdm rfl rfl) (by decide) cl_X2 (by decide) ⟨rfl, rfl, rfl⟩ fl_X8_189 rfl dX8_sameOnTrial_40 ?_
      refine x_iload_n C 1 dX8_sameOnTrial_43 rfl ?_
      refine x_callVi (K := 6) (rm := rmv 0 0 0 0) (As := [iV (x1)]) (rest := []) C hA hR0 mf_X5_at lk_X8_160 rfl (isK_lit hdm rfl rfl) (by decide) ⟨rfl, rfl⟩ ⟨Nat.le_of_ble_eq_true rfl, Nat.le_of_ble_eq_true rfl⟩ rfl rfl (Nat.le_of_ble_eq_true rfl) hce dX8_sameOnTrial_44 hq (fun _ _ h => c_X5_at g.l g.G hdm (isK_lit hdm rfl rfl) h) (fun r6 w5 _ hq => ?_)
      refine x_aload_n C 0 dX8_sameOnTrial_47 rfl ?_
      refine x_getr (K := 9) (k := 7) (o2 := 20) C (isK_lit hdm rfl rfl) (by decide) cl_X8 (by decide) ⟨rfl, rfl, rfl⟩ fl_X8_56 rfl dX8_sameOnTrial_48 ?_
      refine x_getr (K := 3) (k := 1) (o2 := 23) C (isK_lit hdm rfl rfl) (by decide) cl_X2 (by decide) ⟨rfl, rfl, rfl⟩ fl_X8_189 rfl dX8_sameOnTrial_51 ?_
      refine x_iload_n C 1 dX8_sameOnTrial_54 rfl ?_
      refine x_callVi (K := 6) (rm := rmv 0 0 0 0) (As := [iV (x1)]) (rest := [iV (r6)]) C hA hR0 mf_X5_at lk_X8_160 rfl (isK_lit hdm rfl rfl) (by decide) ⟨rfl, rfl⟩ ⟨Nat.le_of_ble_eq_true rfl, Nat.le_of_ble_eq_true rfl⟩ rfl rfl (Nat.le_of_ble_eq_true rfl) hce dX8_sameOnTrial_55 hq (fun _ _ h => c_X5_at g.l g.G hdm (isK_lit hdm rfl rfl) h) (fun r8 w7 _ hq => ?_)
      refine x_icmp_ne (tgt := 80) C dX8_sameOnTrial_58 (by decide) hq (fun hq => ?_) (fun hq => ?_)
      · refine x_iconst C dX8_sameOnTrial_80 ?_
        exact hR _ _ _ _ hq (by decide +kernel) dX8_sameOnTrial_81
      · refine x_aload_n C 0 dX8_sameOnTrial_61 rfl ?_
        refine x_getr (K := 9) (k := 4) (o2 := 100) C (isK_lit hdm rfl rfl) (by decide) cl_X8 (by decide) ⟨rfl, rfl, rfl⟩ fl_X8_42 rfl dX8_sameOnTrial_62 ?_
        refine x_aload_n C 0 dX8_sameOnTrial_65 rfl ?_
        refine x_getr (K := 9) (k := 6) (o2 := 116) C (isK_lit hdm rfl rfl) (by decide) cl_X8 (by decide) ⟨rfl, rfl, rfl⟩ fl_X8_53 rfl dX8_sameOnTrial_66 ?_
        refine x_iload_n C 1 dX8_sameOnTrial_69 rfl ?_
        refine x_callVi (K := 7) (rm := rmv 2 43 0 0) (As := [.ref (d.ad (116)), iV (x1)]) (rest := []) C hA hR0 mf_X6_sameWord lk_X8_343 rfl (isK_lit hdm rfl rfl) (by decide) ⟨rfl, rfl⟩ ⟨Nat.le_of_ble_eq_true rfl, Nat.le_of_ble_eq_true rfl⟩ rfl rfl (Nat.le_of_ble_eq_true rfl) hce dX8_sameOnTrial_70 hq (fun _ _ h => c_X6_sameWord g.l g.G hdm (isK_lit hdm rfl rfl) (isK_lit hdm rfl rfl) h) (fun r10 w9 _ hq => ?_)
        refine x_if_eq (tgt := 80) C dX8_sameOnTrial_73 (by decide) hq (fun hq => ?_) (fun hq => ?_)
        · refine x_iconst C dX8_sameOnTrial_80 ?_
          exact hR _ _ _ _ hq (by decide +kernel) dX8_sameOnTrial_81
        · refine x_iconst C dX8_sameOnTrial_76 ?_
          refine x_goto (tgt := 81) C dX8_sameOnTrial_77 (by decide) ?_
          exact hR _ _ _ _ hq (by decide +kernel) dX8_sameOnTrial_81
set_option maxRecDepth 100000 in
set_option maxHeartbeats 4000000 in
theorem c_X8_sameOnTrial (l : Launch) (G : Gd) {dm na : Nat} {ad : Nat → Nat} (hdm : dm = 0) {x1 : Int} {w w' : Wd} {r : Int}  (hq : p_X8_sameOnTrial x1 w = some (r, w')) : mI l yX8_sameOnTrial cX8_sameOnTrial 2 (some .boolean) (rmv 3 66 0 0) G dm na ad [.ref (ad (1)), iV (x1)] w r w' := by
  refine met_I [(0, .ref (ad (1))), (1, iV (x1))] (by decide) (Nat.le_of_ble_eq_true rfl) rfl .boolean rfl (fun g d C S hR => ?_)
  obtain ⟨rfl, hR0, rfl, rfl, rfl, hA⟩ := S
  exact L_X8_sameOnTrial (d := (na, ad, 0, 0)) C hdm hA hR0 ⟨Nat.zero_le _, Nat.zero_le _⟩ hR  _ w hq
set_option maxRecDepth 100000 in
set_option maxHeartbeats 4000000 in
theorem L_X8_carvedStay_10 {g : Cx} {d : Dl} (C : CX g cX8_carvedStay 3 (some .boolean) RX8) (hdm : g.dm = 0) (hA : ∀ q : Nat, g.s.heap.size ≤ q → g.A q) (hR0 : g.R = rmv 4 87 0 0) (hce : d.ce ≤ g.R.cells ∧ d.so ≤ g.R.slots) {res : Int × Wd} (hR : rtI g d cX8_carvedStay .boolean res) : ∀ (n : Nat) (x1 : Int) (x2 : Int) (w : Wd), p_X8_carvedStay_10 n x1 x2 w = some res → XG g d (hP g d w) [(0, .ref (d.ad (1))), (1, iV (x1)), (2, iV (x2))] [] 10 := by
  intro n
  induction n with
  | zero => intro x1 x2 w  hq; exact nomatch (show none = some _ from hq)
  | succ n ih =>
    intro x1 x2 w  hq
    refine x_iload_n C 2 dX8_carvedStay_10 rfl ?_
    refine x_aload_n C 0 dX8_carvedStay_11 rfl ?_
    refine x_getr (K := 9) (k := 5) (o2 := 10) C (isK_lit hdm rfl rfl) (by decide) cl_X8 (by decide) ⟨rfl, rfl, rfl⟩ fl_X8_49 rfl dX8_carvedStay_12 ?_
    refine x_get (K := 3) (k := 4) C (isK_lit hdm rfl rfl) (by decide) cl_X2 (by decide) ⟨rfl, rfl, rfl⟩ fl_X8_97 dX8_carvedStay_15 ?_
    refine x_icmp_ge (tgt := 55) C dX8_carvedStay_18 (by decide) hq (fun hq => ?_) (fun hq => ?_)
    · refine x_iconst C dX8_carvedStay_55 ?_
      exact hR _ _ _ _ hq (by decide +kernel) dX8_carvedStay_56
    · refine x_iload_n C 1 dX8_carvedStay_21 rfl ?_
      refine x_if_le (tgt := 55) C dX8_carvedStay_22 (by decide) hq (fun hq => ?_) (fun hq => ?_)
      · refine x_iconst C dX8_carvedStay_55 ?_
        exact hR _ _ _ _ hq (by decide +kernel) dX8_carvedStay_56
      · refine x_aload_n C 0 dX8_carvedStay_25 rfl ?_
        refine x_iload_n C 2 dX8_carvedStay_26 rfl ?_
        refine x_callVi (K := 9) (rm := rmv 3 66 0 0) (As := [iV (x2)]) (rest := []) C hA hR0 mf_X8_sameOnTrial lk_X8_339 rfl (isK_lit hdm rfl rfl) (by decide) ⟨rfl, rfl⟩ ⟨Nat.le_of_ble_eq_true rfl, Nat.le_of_ble_eq_true rfl⟩ rfl rfl (Nat.le_of_ble_eq_true rfl) hce dX8_carvedStay_27 hq (fun _ _ h => c_X8_sameOnTrial g.l g.G hdm  h) (fun r2 w1 _ hq => ?_)
        refine x_if_ne (tgt := 35) C dX8_carvedStay_30 (by decide) hq (fun hq => ?_) (fun hq => ?_)
        · refine x_iload_n C 1 dX8_carvedStay_35 rfl ?_
          refine x_aload_n C 0 dX8_carvedStay_36 rfl ?_
          refine x_getr (K := 9) (k := 4) (o2 := 100) C (isK_lit hdm rfl rfl) (by decide) cl_X8 (by decide) ⟨rfl, rfl, rfl⟩ fl_X8_42 rfl dX8_carvedStay_37 ?_
          refine x_getr (K := 7) (k := 8) (o2 := 107) C (isK_lit hdm rfl rfl) (by decide) cl_X6 (by decide) ⟨rfl, rfl, rfl⟩ fl_X8_186 rfl dX8_carvedStay_40 ?_
          refine x_iload_n C 2 dX8_carvedStay_43 rfl ?_
          refine x_callVi (K := 6) (rm := rmv 0 0 0 0) (As := [iV (x2)]) (rest := [iV (x1)]) C hA hR0 mf_X5_at lk_X8_160 rfl (isK_lit hdm rfl rfl) (by decide) ⟨rfl, rfl⟩ ⟨Nat.le_of_ble_eq_true rfl, Nat.le_of_ble_eq_true rfl⟩ rfl rfl (Nat.le_of_ble_eq_true rfl) hce dX8_carvedStay_44 hq (fun _ _ h => c_X5_at g.l g.G hdm (isK_lit hdm rfl rfl) h) (fun r4 w3 _ hq => ?_)
          refine x_isub C dX8_carvedStay_47 ?_
          refine x_istore_n (lv' := [(1, iV (x1 - r4)), (0, .ref (d.ad (1))), (2, iV (x2))]) C dX8_carvedStay_48 (by decide) rfl ?_
          refine x_iinc (lv' := [(2, iV (x2 + 1)), (1, iV (x1 - r4)), (0, .ref (d.ad (1)))]) C 2 dX8_carvedStay_49 rfl (by decide) rfl ?_
          refine x_goto (tgt := 10) C dX8_carvedStay_52 (by decide) ?_
          refine XG.sub [2, 1, 0] rfl ?_
          exact ih _ _ _ hq
        · refine x_iconst C dX8_carvedStay_33 ?_
          exact hR _ _ _ _ hq (by decide +kernel) dX8_carvedStay_34
set_option maxRecDepth 100000 in
set_option maxHeartbeats 4000000 in
theorem L_X8_carvedStay {g : Cx} {d : Dl} (C : CX g cX8_carvedStay 3 (some .boolean) RX8) (hdm : g.dm = 0) (hA : ∀ q : Nat, g.s.heap.size ≤ q → g.A q) (hR0 : g.R = rmv 4 87 0 0) (hce : d.ce ≤ g.R.cells ∧ d.so ≤ g.R.slots) {res : Int × Wd} (hR : rtI g d cX8_carvedStay .boolean res)  (w : Wd) (hq : p_X8_carvedStay  w = some res) : XG g d (hP g d w) [(0, .ref (d.ad (1)))] [] 0 := by
  refine x_aload_n C 0 dX8_carvedStay_0 rfl ?_
  refine x_getr (K := 9) (k := 4) (o2 := 100) C (isK_lit hdm rfl rfl) (by decide) cl_X8 (by decide) ⟨rfl, rfl, rfl⟩ fl_X8_42 rfl dX8_carvedStay_1 ?_
  refine x_get (K := 7) (k := 11) C (isK_lit hdm rfl rfl) (by decide) cl_X6 (by decide) ⟨rfl, rfl, rfl⟩ fl_X8_128 dX8_carvedStay_4 ?_
  refine x_istore_n (lv' := [(1, iV (gF w 100 11)), (0, .ref (d.ad (1)))]) C dX8_carvedStay_7 (by decide) rfl ?_
  refine x_iconst C dX8_carvedStay_8 ?_
  refine x_istore_n (lv' := [(2, iV (0)), (1, iV (gF w 100 11)), (0, .ref (d.ad (1)))]) C dX8_carvedStay_9 (by decide) rfl ?_
  refine XG.sub [2, 1, 0] rfl ?_
  exact L_X8_carvedStay_10 C hdm hA hR0 hce hR _ _ _ _ hq
set_option maxRecDepth 100000 in
set_option maxHeartbeats 4000000 in
theorem c_X8_carvedStay (l : Launch) (G : Gd) {dm na : Nat} {ad : Nat → Nat} (hdm : dm = 0)  {w w' : Wd} {r : Int}  (hq : p_X8_carvedStay  w = some (r, w')) : mI l yX8_carvedStay cX8_carvedStay 3 (some .boolean) (rmv 4 87 0 0) G dm na ad [.ref (ad (1))] w r w' := by
  refine met_I [(0, .ref (ad (1)))] (by decide) (Nat.le_of_ble_eq_true rfl) rfl .boolean rfl (fun g d C S hR => ?_)
  obtain ⟨rfl, hR0, rfl, rfl, rfl, hA⟩ := S
  exact L_X8_carvedStay (d := (na, ad, 0, 0)) C hdm hA hR0 ⟨Nat.zero_le _, Nat.zero_le _⟩ hR   w hq
set_option maxRecDepth 100000 in
set_option maxHeartbeats 4000000 in
theorem L_X8_needCarvedStay {g : Cx} {d : Dl} (C : CX g cX8_needCarvedStay 1 none RX8) (hdm : g.dm = 0) (hA : ∀ q : Nat, g.s.heap.size ≤ q → g.A q) (hR0 : g.R = rmv 6 109 1 6) (hce : d.ce + 1 ≤ 1 ∧ d.so + 6 ≤ 6) {na0 : Nat} {ad0 : Nat → Nat} {res : Rz} (hT : thC g na0 ad0 1 6 res) (hR : RGV g na0 ad0 cX8_needCarvedStay 1 6 res) (hag : AG na0 ad0 d)  (w : Wd) (hq : p_X8_needCarvedStay  d.na w = some res) : XG g d (hP g d w) [(0, .ref (d.ad (1)))] [] 0 := by
  refine x_aload_n C 0 dX8_needCarvedStay_0 rfl ?_
  refine x_getr (K := 9) (k := 7) (o2 := 20) C (isK_lit hdm rfl rfl) (by decide) cl_X8 (by decide) ⟨rfl, rfl, rfl⟩ fl_X8_56 rfl dX8_needCarvedStay_1 ?_
  refine x_aload_n C 0 dX8_needCarvedStay_4 rfl ?_
  refine x_getr (K := 9) (k := 6) (o2 := 116) C (isK_lit hdm rfl rfl) (by decide) cl_X8 (by decide) ⟨rfl, rfl, rfl⟩ fl_X8_53 rfl dX8_needCarvedStay_5 ?_
  refine x_callVv (K := 3) (rm := rmv 3 75 0 0) (As := [.ref (d.ad (116))]) (rest := []) C hA hR0 mf_X2_lay lk_X8_315 rfl (isK_lit hdm rfl rfl) (by decide) ⟨rfl, rfl⟩ ⟨Nat.le_of_ble_eq_true rfl, Nat.le_of_ble_eq_true rfl⟩ rfl rfl (Nat.le_of_ble_eq_true rfl) (gce hR0 hce) dX8_needCarvedStay_8 hq (fun _ h => c_X2_lay g.l g.G hdm (isK_lit hdm rfl rfl) (isK_lit hdm rfl rfl) h) (fun w1 _ hq => ?_)
  refine x_aload_n C 0 dX8_needCarvedStay_11 rfl ?_
  refine x_callVi (K := 9) (rm := rmv 4 87 0 0) (As := []) (rest := []) C hA hR0 mf_X8_carvedStay lk_X8_329 rfl (isK_lit hdm rfl rfl) (by decide) ⟨rfl, rfl⟩ ⟨Nat.le_of_ble_eq_true rfl, Nat.le_of_ble_eq_true rfl⟩ rfl rfl (Nat.le_of_ble_eq_true rfl) (gce hR0 hce) dX8_needCarvedStay_12 hq (fun _ _ h => c_X8_carvedStay g.l g.G hdm  h) (fun r3 w2 _ hq => ?_)
  refine x_if_ne (tgt := 26) C dX8_needCarvedStay_15 (by decide) hq (fun hq => ?_) (fun hq => ?_)
  · exact hR.1 _ _ _ _ hag (gcd hce) hq dX8_needCarvedStay_26
  · exact x_gthrow C hT hR0 th1 hag (gcc hR0 hce (by decide) (by decide)).2 ⟨rfl, rfl⟩ ⟨Nat.le_of_ble_eq_true rfl, Nat.le_of_ble_eq_true rfl⟩ hq dX8_needCarvedStay_18 dX8_needCarvedStay_21 dX8_needCarvedStay_22 dX8_needCarvedStay_25
set_option maxRecDepth 100000 in
set_option maxHeartbeats 4000000 in
theorem c_X8_needCarvedStay (l : Launch) (G : Gd) (hfl : l.stackTraces = false) {dm na : Nat} {ad : Nat → Nat} (hdm : dm = 0)  {w : Wd} {res : Rz}  (hq : p_X8_needCarvedStay  na w = some res) : mGV l yX8_needCarvedStay cX8_needCarvedStay 1 none (rmv 6 109 1 6) G dm na ad [.ref (ad (1))] w res 1 6 := by
  refine met_GV hfl [(0, .ref (ad (1)))] (by decide) (Nat.le_of_ble_eq_true rfl) rfl rfl (fun g d C S hT hR => ?_)
  obtain ⟨rfl, hR0, rfl, rfl, rfl, hA⟩ := S
  exact L_X8_needCarvedStay (d := (na, ad, 0, 0)) C hdm hA hR0 ⟨Nat.le_of_ble_eq_true rfl, Nat.le_of_ble_eq_true rfl⟩ hT hR (AG.rf (na, ad, 0, 0))   w hq
set_option maxRecDepth 100000 in
set_option maxHeartbeats 4000000 in
theorem L_X8_dropPart {g : Cx} {d : Dl} (C : CX g cX8_dropPart 2 (some .int) RX8) (hdm : g.dm = 0) (hA : ∀ q : Nat, g.s.heap.size ≤ q → g.A q) (hR0 : g.R = rmv 7 139 14 846) (hce : d.ce + 14 ≤ 14 ∧ d.so + 846 ≤ 846) {na0 : Nat} {ad0 : Nat → Nat} {res : Rz} (hT : thC g na0 ad0 14 846 res) (hR : RGI g na0 ad0 cX8_dropPart .int 14 846 res) (hag : AG na0 ad0 d) (x1 : Int) (w : Wd) (hq : p_X8_dropPart x1 d.na w = some res) : XG g d (hP g d w) [(0, .ref (d.ad (1))), (1, iV (x1))] [] 0 := by
  refine x_aload_n C 0 dX8_dropPart_0 rfl ?_
  refine x_iload_n C 1 dX8_dropPart_1 rfl ?_
  refine x_gcallV (K := 9) (rm := rmv 6 89 1 6) (mc' := 1) (ms' := 6) (As := [iV (x1)]) (rest := []) C hA hR0 mf_X8_needPart lk_X8_149 rfl (isK_lit hdm rfl rfl) (by decide) ⟨rfl, rfl⟩ ⟨Nat.le_of_ble_eq_true rfl, Nat.le_of_ble_eq_true rfl⟩ rfl rfl (Nat.le_of_ble_eq_true rfl) (gcc hR0 hce (by decide) (by decide)).1 hag (gcc hR0 hce (by decide) (by decide)).2 dX8_dropPart_2 hR.2 hq (fun _ h => c_X8_needPart g.l g.G hT.2.1 hdm  h) (fun r1 d4 w3 g5 hc1 hc2 hq => ?_)
  try rw [agr g5 (K := 9) (isK_lit hdm rfl rfl) (by decide)]
  have hag := hag.trans g5
  have hce : d4.ce + 13 ≤ 14 ∧ d4.so + 840 ≤ 846 := ⟨by omega, by omega⟩
  refine x_aload_n C 0 dX8_dropPart_5 rfl ?_
  refine x_iload_n C 1 dX8_dropPart_6 rfl ?_
  refine x_callVv (K := 9) (rm := rmv 3 71 0 0) (As := [iV (x1)]) (rest := []) C hA hR0 mf_X8_tryWithout lk_X8_263 rfl (isK_lit hdm rfl rfl) (by decide) ⟨rfl, rfl⟩ ⟨Nat.le_of_ble_eq_true rfl, Nat.le_of_ble_eq_true rfl⟩ rfl rfl (Nat.le_of_ble_eq_true rfl) (gce hR0 hce) dX8_dropPart_7 hq (fun _ h => c_X8_tryWithout g.l g.G hdm  h) (fun w6 _ hq => ?_)
  refine x_aload_n C 0 dX8_dropPart_10 rfl ?_
  refine x_gcallV (K := 9) (rm := rmv 6 109 1 6) (mc' := 1) (ms' := 6) (As := []) (rest := []) C hA hR0 mf_X8_needCarvedStay lk_X8_278 rfl (isK_lit hdm rfl rfl) (by decide) ⟨rfl, rfl⟩ ⟨Nat.le_of_ble_eq_true rfl, Nat.le_of_ble_eq_true rfl⟩ rfl rfl (Nat.le_of_ble_eq_true rfl) (gcc hR0 hce (by decide) (by decide)).1 hag (gcc hR0 hce (by decide) (by decide)).2 dX8_dropPart_11 hR.2 hq (fun _ h => c_X8_needCarvedStay g.l g.G hT.2.1 hdm  h) (fun r7 d10 w9 g11 hc1 hc2 hq => ?_)
  try rw [agr g11 (K := 9) (isK_lit hdm rfl rfl) (by decide)]
  have hag := hag.trans g11
  have hce : d10.ce + 12 ≤ 14 ∧ d10.so + 834 ≤ 846 := ⟨by omega, by omega⟩
  refine x_aload_n C 0 dX8_dropPart_14 rfl ?_
  refine x_gcallV (K := 9) (rm := rmv 5 119 12 834) (mc' := 12) (ms' := 834) (As := []) (rest := []) C hA hR0 mf_X8_settle lk_X8_94 rfl (isK_lit hdm rfl rfl) (by decide) ⟨rfl, rfl⟩ ⟨Nat.le_of_ble_eq_true rfl, Nat.le_of_ble_eq_true rfl⟩ rfl rfl (Nat.le_of_ble_eq_true rfl) (gcc hR0 hce (by decide) (by decide)).1 hag (gcc hR0 hce (by decide) (by decide)).2 dX8_dropPart_15 hR.2 hq (fun _ h => c_X8_settle g.l g.G hT.2.1 hdm  h) (fun r12 d15 w14 g16 hc1 hc2 hq => ?_)
  try rw [agr g16 (K := 9) (isK_lit hdm rfl rfl) (by decide)]
  have hag := hag.trans g16
  have hce : d15.ce + 0 ≤ 14 ∧ d15.so + 0 ≤ 846 := ⟨by omega, by omega⟩
  refine x_aload_n C 0 dX8_dropPart_18 rfl ?_
  refine x_getr (K := 9) (k := 5) (o2 := 10) C (isK_lit hdm rfl rfl) (by decide) cl_X8 (by decide) ⟨rfl, rfl, rfl⟩ fl_X8_49 rfl dX8_dropPart_19 ?_
  refine x_get (K := 3) (k := 4) C (isK_lit hdm rfl rfl) (by decide) cl_X2 (by decide) ⟨rfl, rfl, rfl⟩ fl_X8_97 dX8_dropPart_22 ?_
  exact hR.1 _ _ _ _ _ hag (gcd hce) hq rfl dX8_dropPart_25
set_option maxRecDepth 100000 in
set_option maxHeartbeats 4000000 in
theorem c_X8_dropPart (l : Launch) (G : Gd) (hfl : l.stackTraces = false) {dm na : Nat} {ad : Nat → Nat} (hdm : dm = 0) {x1 : Int} {w : Wd} {res : Rz}  (hq : p_X8_dropPart x1 na w = some res) : mGI l yX8_dropPart cX8_dropPart 2 (some .int) (rmv 7 139 14 846) G dm na ad [.ref (ad (1)), iV (x1)] w res 14 846 := by
  refine met_GI hfl [(0, .ref (ad (1))), (1, iV (x1))] (by decide) (Nat.le_of_ble_eq_true rfl) rfl .int rfl (fun g d C S hT hR => ?_)
  obtain ⟨rfl, hR0, rfl, rfl, rfl, hA⟩ := S
  exact L_X8_dropPart (d := (na, ad, 0, 0)) C hdm hA hR0 ⟨Nat.le_of_ble_eq_true rfl, Nat.le_of_ble_eq_true rfl⟩ hT hR (AG.rf (na, ad, 0, 0))  _ w hq
set_option maxRecDepth 100000 in
set_option maxHeartbeats 4000000 in
theorem L_X8_partForPlace_19 {g : Cx} {d : Dl} (C : CX g cX8_partForPlace 4 (some .int) RX8) (hdm : g.dm = 0) (hA : ∀ q : Nat, g.s.heap.size ≤ q → g.A q) (hR0 : g.R = rmv 0 0 0 0) (hce : d.ce ≤ g.R.cells ∧ d.so ≤ g.R.slots) {res : Int × Wd} (hR : rtI g d cX8_partForPlace .int res) (x1 : Int) (s0 : Int) (w : Wd) (hq : p_X8_partForPlace_19 x1 s0 w = some res) : XG g d (hP g d w) [(1, iV (x1))] [iV (s0)] 19 := by
  refine x_istore_n (lv' := [(3, iV (s0)), (1, iV (x1))]) C dX8_partForPlace_19 (by decide) rfl ?_
  refine x_iload_n C 0 dX8_partForPlace_20 rfl ?_
  refine x_iload_n C 1 dX8_partForPlace_21 rfl ?_
  refine x_icmp_ge (tgt := 29) C dX8_partForPlace_22 (by decide) hq (fun hq => ?_) (fun hq => ?_)
  · refine x_iload_n C 0 dX8_partForPlace_29 rfl ?_
    refine x_iconst C dX8_partForPlace_30 ?_
    refine x_iadd C dX8_partForPlace_31 ?_
    exact hR _ _ _ _ hq rfl dX8_partForPlace_32
  · refine x_iload_n C 0 dX8_partForPlace_25 rfl ?_
    refine x_goto (tgt := 32) C dX8_partForPlace_26 (by decide) ?_
    exact hR _ _ _ _ hq rfl dX8_partForPlace_32
set_option maxRecDepth 100000 in
set_option maxHeartbeats 4000000 in
theorem L_X8_partForPlace {g : Cx} {d : Dl} (C : CX g cX8_partForPlace 4 (some .int) RX8) (hdm : g.dm = 0) (hA : ∀ q : Nat, g.s.heap.size ≤ q → g.A q) (hR0 : g.R = rmv 0 0 0 0) (hce : d.ce ≤ g.R.cells ∧ d.so ≤ g.R.slots) {res : Int × Wd} (hR : rtI g d cX8_partForPlace .int res) (x0 : Int) (x1 : Int) (x2 : Int) (w : Wd) (hq : p_X8_partForPlace x0 x1 x2 w = some res) : XG g d (hP g d w) [(0, iV (x0)), (1, iV (x1)), (2, iV (x2))] [] 0 := by
  refine x_iload_n C 0 dX8_partForPlace_0 rfl ?_
  refine x_iload_n C 2 dX8_partForPlace_1 rfl ?_
  refine x_icmp_ne (tgt := 7) C dX8_partForPlace_2 (by decide) hq (fun hq => ?_) (fun hq => ?_)
  · refine x_iload_n C 0 dX8_partForPlace_7 rfl ?_
    refine x_iload_n C 2 dX8_partForPlace_8 rfl ?_
    refine x_icmp_ge (tgt := 16) C dX8_partForPlace_9 (by decide) hq (fun hq => ?_) (fun hq => ?_)
    · refine x_iload_n C 0 dX8_partForPlace_16 rfl ?_
      refine x_iconst C dX8_partForPlace_17 ?_
      refine x_isub C dX8_partForPlace_18 ?_
      refine XG.sub [1] rfl ?_
      exact L_X8_partForPlace_19 C hdm hA hR0 hce hR _ _ _ hq
    · refine x_iload_n C 0 dX8_partForPlace_12 rfl ?_
      refine x_goto (tgt := 19) C dX8_partForPlace_13 (by decide) ?_
      refine XG.sub [1] rfl ?_
      exact L_X8_partForPlace_19 C hdm hA hR0 hce hR _ _ _ hq
  · refine x_iload_n C 1 dX8_partForPlace_5 rfl ?_
    exact hR _ _ _ _ hq rfl dX8_partForPlace_6
set_option maxRecDepth 100000 in
set_option maxHeartbeats 4000000 in
theorem c_X8_partForPlace (l : Launch) (G : Gd) {dm na : Nat} {ad : Nat → Nat} (hdm : dm = 0) {x0 : Int} {x1 : Int} {x2 : Int} {w w' : Wd} {r : Int}  (hq : p_X8_partForPlace x0 x1 x2 w = some (r, w')) : mI l yX8_partForPlace cX8_partForPlace 4 (some .int) (rmv 0 0 0 0) G dm na ad [iV (x0), iV (x1), iV (x2)] w r w' := by
  refine met_I [(0, iV (x0)), (1, iV (x1)), (2, iV (x2))] (by decide) (Nat.le_of_ble_eq_true rfl) rfl .int rfl (fun g d C S hR => ?_)
  obtain ⟨rfl, hR0, rfl, rfl, rfl, hA⟩ := S
  exact L_X8_partForPlace (d := (na, ad, 0, 0)) C hdm hA hR0 ⟨Nat.zero_le _, Nat.zero_le _⟩ hR  _ _ _ w hq
set_option maxRecDepth 100000 in
set_option maxHeartbeats 4000000 in
theorem L_X8_tryMoved_20 {g : Cx} {d : Dl} (C : CX g cX8_tryMoved 4 none RX8) (hdm : g.dm = 0) (hA : ∀ q : Nat, g.s.heap.size ≤ q → g.A q) (hR0 : g.R = rmv 3 71 0 0) (hce : d.ce ≤ g.R.cells ∧ d.so ≤ g.R.slots) {res : Wd} (hR : rtV g d cX8_tryMoved res) : ∀ (n : Nat) (x1 : Int) (x2 : Int) (x3 : Int) (w : Wd), p_X8_tryMoved_20 n x1 x2 x3 w = some res → XG g d (hP g d w) [(0, .ref (d.ad (1))), (1, iV (x1)), (2, iV (x2)), (3, iV (x3))] [] 20 := by
  intro n
  induction n with
  | zero => intro x1 x2 x3 w  hq; exact nomatch (show none = some _ from hq)
  | succ n ih =>
    intro x1 x2 x3 w  hq
    refine x_iload_n C 3 dX8_tryMoved_20 rfl ?_
    refine x_aload_n C 0 dX8_tryMoved_21 rfl ?_
    refine x_getr (K := 9) (k := 4) (o2 := 100) C (isK_lit hdm rfl rfl) (by decide) cl_X8 (by decide) ⟨rfl, rfl, rfl⟩ fl_X8_42 rfl dX8_tryMoved_22 ?_
    refine x_get (K := 7) (k := 4) C (isK_lit hdm rfl rfl) (by decide) cl_X6 (by decide) ⟨rfl, rfl, rfl⟩ fl_X8_119 dX8_tryMoved_25 ?_
    refine x_icmp_ge (tgt := 54) C dX8_tryMoved_28 (by decide) hq (fun hq => ?_) (fun hq => ?_)
    · exact hR _ _ _ hq dX8_tryMoved_54
    · refine x_aload_n C 0 dX8_tryMoved_31 rfl ?_
      refine x_getr (K := 9) (k := 6) (o2 := 116) C (isK_lit hdm rfl rfl) (by decide) cl_X8 (by decide) ⟨rfl, rfl, rfl⟩ fl_X8_53 rfl dX8_tryMoved_32 ?_
      refine x_aload_n C 0 dX8_tryMoved_35 rfl ?_
      refine x_getr (K := 9) (k := 4) (o2 := 100) C (isK_lit hdm rfl rfl) (by decide) cl_X8 (by decide) ⟨rfl, rfl, rfl⟩ fl_X8_42 rfl dX8_tryMoved_36 ?_
      refine x_iload_n C 3 dX8_tryMoved_39 rfl ?_
      refine x_iload_n C 1 dX8_tryMoved_40 rfl ?_
      refine x_iload_n C 2 dX8_tryMoved_41 rfl ?_
      refine x_callSi (rm := rmv 0 0 0 0) (As := [iV (x3), iV (x1), iV (x2)]) (rest := [.ref (d.ad (100)), .ref (d.ad (116))]) C hA hR0 mf_X8_partForPlace lk_X8_325 ⟨rfl, rfl⟩ ⟨Nat.le_of_ble_eq_true rfl, Nat.le_of_ble_eq_true rfl⟩ rfl rfl (Nat.le_of_ble_eq_true rfl) hce dX8_tryMoved_42 hq (fun _ _ h => c_X8_partForPlace g.l g.G hdm  h) (fun r2 w1 _ hq => ?_)
      refine x_callVv (K := 7) (rm := rmv 2 46 0 0) (As := [.ref (d.ad (100)), iV (r2)]) (rest := []) C hA hR0 mf_X6_takePart lk_X8_321 rfl (isK_lit hdm rfl rfl) (by decide) ⟨rfl, rfl⟩ ⟨Nat.le_of_ble_eq_true rfl, Nat.le_of_ble_eq_true rfl⟩ rfl rfl (Nat.le_of_ble_eq_true rfl) hce dX8_tryMoved_45 hq (fun _ h => c_X6_takePart g.l g.G hdm (isK_lit hdm rfl rfl) (isK_lit hdm rfl rfl) h) (fun w3 _ hq => ?_)
      refine x_iinc (lv' := [(3, iV (x3 + 1)), (0, .ref (d.ad (1))), (1, iV (x1)), (2, iV (x2))]) C 3 dX8_tryMoved_48 rfl (by decide) rfl ?_
      refine x_goto (tgt := 20) C dX8_tryMoved_51 (by decide) ?_
      refine XG.sub [1, 2, 3, 0] rfl ?_
      exact ih _ _ _ _ hq
set_option maxRecDepth 100000 in
set_option maxHeartbeats 4000000 in
theorem L_X8_tryMoved {g : Cx} {d : Dl} (C : CX g cX8_tryMoved 4 none RX8) (hdm : g.dm = 0) (hA : ∀ q : Nat, g.s.heap.size ≤ q → g.A q) (hR0 : g.R = rmv 3 71 0 0) (hce : d.ce ≤ g.R.cells ∧ d.so ≤ g.R.slots) {res : Wd} (hR : rtV g d cX8_tryMoved res) (x1 : Int) (x2 : Int) (w : Wd) (hq : p_X8_tryMoved x1 x2 w = some res) : XG g d (hP g d w) [(0, .ref (d.ad (1))), (1, iV (x1)), (2, iV (x2))] [] 0 := by
  refine x_aload_n C 0 dX8_tryMoved_0 rfl ?_
  refine x_getr (K := 9) (k := 6) (o2 := 116) C (isK_lit hdm rfl rfl) (by decide) cl_X8 (by decide) ⟨rfl, rfl, rfl⟩ fl_X8_53 rfl dX8_tryMoved_1 ?_
  refine x_aload_n C 0 dX8_tryMoved_4 rfl ?_
  refine x_getr (K := 9) (k := 4) (o2 := 100) C (isK_lit hdm rfl rfl) (by decide) cl_X8 (by decide) ⟨rfl, rfl, rfl⟩ fl_X8_42 rfl dX8_tryMoved_5 ?_
  refine x_callVv (K := 7) (rm := rmv 2 44 0 0) (As := [.ref (d.ad (100))]) (rest := []) C hA hR0 mf_X6_copy lk_X8_241 rfl (isK_lit hdm rfl rfl) (by decide) ⟨rfl, rfl⟩ ⟨Nat.le_of_ble_eq_true rfl, Nat.le_of_ble_eq_true rfl⟩ rfl rfl (Nat.le_of_ble_eq_true rfl) hce dX8_tryMoved_8 hq (fun _ h => c_X6_copy g.l g.G hdm (isK_lit hdm rfl rfl) (isK_lit hdm rfl rfl) h) (fun w1 _ hq => ?_)
  refine x_aload_n C 0 dX8_tryMoved_11 rfl ?_
  refine x_getr (K := 9) (k := 6) (o2 := 116) C (isK_lit hdm rfl rfl) (by decide) cl_X8 (by decide) ⟨rfl, rfl, rfl⟩ fl_X8_53 rfl dX8_tryMoved_12 ?_
  refine x_callVv (K := 7) (rm := rmv 0 0 0 0) (As := []) (rest := []) C hA hR0 mf_X6_clearParts lk_X8_318 rfl (isK_lit hdm rfl rfl) (by decide) ⟨rfl, rfl⟩ ⟨Nat.le_of_ble_eq_true rfl, Nat.le_of_ble_eq_true rfl⟩ rfl rfl (Nat.le_of_ble_eq_true rfl) hce dX8_tryMoved_15 hq (fun _ h => c_X6_clearParts g.l g.G hdm (isK_lit hdm rfl rfl) h) (fun w2 _ hq => ?_)
  refine x_iconst C dX8_tryMoved_18 ?_
  refine x_istore_n (lv' := [(3, iV (0)), (0, .ref (d.ad (1))), (1, iV (x1)), (2, iV (x2))]) C dX8_tryMoved_19 (by decide) rfl ?_
  refine XG.sub [1, 2, 3, 0] rfl ?_
  exact L_X8_tryMoved_20 C hdm hA hR0 hce hR _ _ _ _ _ hq
set_option maxRecDepth 100000 in
set_option maxHeartbeats 4000000 in
theorem c_X8_tryMoved (l : Launch) (G : Gd) {dm na : Nat} {ad : Nat → Nat} (hdm : dm = 0) {x1 : Int} {x2 : Int} {w w' : Wd}   (hq : p_X8_tryMoved x1 x2 w = some w') : mV l yX8_tryMoved cX8_tryMoved 4 none (rmv 3 71 0 0) G dm na ad [.ref (ad (1)), iV (x1), iV (x2)] w w' := by
  refine met_V [(0, .ref (ad (1))), (1, iV (x1)), (2, iV (x2))] (by decide) (Nat.le_of_ble_eq_true rfl) rfl rfl (fun g d C S hR => ?_)
  obtain ⟨rfl, hR0, rfl, rfl, rfl, hA⟩ := S
  exact L_X8_tryMoved (d := (na, ad, 0, 0)) C hdm hA hR0 ⟨Nat.zero_le _, Nat.zero_le _⟩ hR  _ _ w hq
set_option maxRecDepth 100000 in
set_option maxHeartbeats 4000000 in
theorem L_X8_movePart {g : Cx} {d : Dl} (C : CX g cX8_movePart 3 (some .int) RX8) (hdm : g.dm = 0) (hA : ∀ q : Nat, g.s.heap.size ≤ q → g.A q) (hR0 : g.R = rmv 7 139 15 852) (hce : d.ce + 15 ≤ 15 ∧ d.so + 852 ≤ 852) {na0 : Nat} {ad0 : Nat → Nat} {res : Rz} (hT : thC g na0 ad0 15 852 res) (hR : RGI g na0 ad0 cX8_movePart .int 15 852 res) (hag : AG na0 ad0 d) (x1 : Int) (x2 : Int) (w : Wd) (hq : p_X8_movePart x1 x2 d.na w = some res) : XG g d (hP g d w) [(0, .ref (d.ad (1))), (1, iV (x1)), (2, iV (x2))] [] 0 := by
  refine x_aload_n C 0 dX8_movePart_0 rfl ?_
  refine x_iload_n C 1 dX8_movePart_1 rfl ?_
  refine x_gcallV (K := 9) (rm := rmv 6 89 1 6) (mc' := 1) (ms' := 6) (As := [iV (x1)]) (rest := []) C hA hR0 mf_X8_needPart lk_X8_149 rfl (isK_lit hdm rfl rfl) (by decide) ⟨rfl, rfl⟩ ⟨Nat.le_of_ble_eq_true rfl, Nat.le_of_ble_eq_true rfl⟩ rfl rfl (Nat.le_of_ble_eq_true rfl) (gcc hR0 hce (by decide) (by decide)).1 hag (gcc hR0 hce (by decide) (by decide)).2 dX8_movePart_2 hR.2 hq (fun _ h => c_X8_needPart g.l g.G hT.2.1 hdm  h) (fun r1 d4 w3 g5 hc1 hc2 hq => ?_)
  try rw [agr g5 (K := 9) (isK_lit hdm rfl rfl) (by decide)]
  have hag := hag.trans g5
  have hce : d4.ce + 14 ≤ 15 ∧ d4.so + 846 ≤ 852 := ⟨by omega, by omega⟩
  refine x_aload_n C 0 dX8_movePart_5 rfl ?_
  refine x_iload_n C 2 dX8_movePart_6 rfl ?_
  refine x_gcallV (K := 9) (rm := rmv 6 89 1 6) (mc' := 1) (ms' := 6) (As := [iV (x2)]) (rest := []) C hA hR0 mf_X8_needPart lk_X8_149 rfl (isK_lit hdm rfl rfl) (by decide) ⟨rfl, rfl⟩ ⟨Nat.le_of_ble_eq_true rfl, Nat.le_of_ble_eq_true rfl⟩ rfl rfl (Nat.le_of_ble_eq_true rfl) (gcc hR0 hce (by decide) (by decide)).1 hag (gcc hR0 hce (by decide) (by decide)).2 dX8_movePart_7 hR.2 hq (fun _ h => c_X8_needPart g.l g.G hT.2.1 hdm  h) (fun r6 d9 w8 g10 hc1 hc2 hq => ?_)
  try rw [agr g10 (K := 9) (isK_lit hdm rfl rfl) (by decide)]
  have hag := hag.trans g10
  have hce : d9.ce + 13 ≤ 15 ∧ d9.so + 840 ≤ 852 := ⟨by omega, by omega⟩
  refine x_aload_n C 0 dX8_movePart_10 rfl ?_
  refine x_iload_n C 1 dX8_movePart_11 rfl ?_
  refine x_iload_n C 2 dX8_movePart_12 rfl ?_
  refine x_callVv (K := 9) (rm := rmv 3 71 0 0) (As := [iV (x1), iV (x2)]) (rest := []) C hA hR0 mf_X8_tryMoved lk_X8_266 rfl (isK_lit hdm rfl rfl) (by decide) ⟨rfl, rfl⟩ ⟨Nat.le_of_ble_eq_true rfl, Nat.le_of_ble_eq_true rfl⟩ rfl rfl (Nat.le_of_ble_eq_true rfl) (gce hR0 hce) dX8_movePart_13 hq (fun _ h => c_X8_tryMoved g.l g.G hdm  h) (fun w11 _ hq => ?_)
  refine x_aload_n C 0 dX8_movePart_16 rfl ?_
  refine x_gcallV (K := 9) (rm := rmv 6 109 1 6) (mc' := 1) (ms' := 6) (As := []) (rest := []) C hA hR0 mf_X8_needCarvedStay lk_X8_278 rfl (isK_lit hdm rfl rfl) (by decide) ⟨rfl, rfl⟩ ⟨Nat.le_of_ble_eq_true rfl, Nat.le_of_ble_eq_true rfl⟩ rfl rfl (Nat.le_of_ble_eq_true rfl) (gcc hR0 hce (by decide) (by decide)).1 hag (gcc hR0 hce (by decide) (by decide)).2 dX8_movePart_17 hR.2 hq (fun _ h => c_X8_needCarvedStay g.l g.G hT.2.1 hdm  h) (fun r12 d15 w14 g16 hc1 hc2 hq => ?_)
  try rw [agr g16 (K := 9) (isK_lit hdm rfl rfl) (by decide)]
  have hag := hag.trans g16
  have hce : d15.ce + 12 ≤ 15 ∧ d15.so + 834 ≤ 852 := ⟨by omega, by omega⟩
  refine x_aload_n C 0 dX8_movePart_20 rfl ?_
  refine x_gcallV (K := 9) (rm := rmv 5 119 12 834) (mc' := 12) (ms' := 834) (As := []) (rest := []) C hA hR0 mf_X8_settle lk_X8_94 rfl (isK_lit hdm rfl rfl) (by decide) ⟨rfl, rfl⟩ ⟨Nat.le_of_ble_eq_true rfl, Nat.le_of_ble_eq_true rfl⟩ rfl rfl (Nat.le_of_ble_eq_true rfl) (gcc hR0 hce (by decide) (by decide)).1 hag (gcc hR0 hce (by decide) (by decide)).2 dX8_movePart_21 hR.2 hq (fun _ h => c_X8_settle g.l g.G hT.2.1 hdm  h) (fun r17 d20 w19 g21 hc1 hc2 hq => ?_)
  try rw [agr g21 (K := 9) (isK_lit hdm rfl rfl) (by decide)]
  have hag := hag.trans g21
  have hce : d20.ce + 0 ≤ 15 ∧ d20.so + 0 ≤ 852 := ⟨by omega, by omega⟩
  refine x_aload_n C 0 dX8_movePart_24 rfl ?_
  refine x_getr (K := 9) (k := 5) (o2 := 10) C (isK_lit hdm rfl rfl) (by decide) cl_X8 (by decide) ⟨rfl, rfl, rfl⟩ fl_X8_49 rfl dX8_movePart_25 ?_
  refine x_get (K := 3) (k := 4) C (isK_lit hdm rfl rfl) (by decide) cl_X2 (by decide) ⟨rfl, rfl, rfl⟩ fl_X8_97 dX8_movePart_28 ?_
  exact hR.1 _ _ _ _ _ hag (gcd hce) hq rfl dX8_movePart_31
set_option maxRecDepth 100000 in
set_option maxHeartbeats 4000000 in
theorem c_X8_movePart (l : Launch) (G : Gd) (hfl : l.stackTraces = false) {dm na : Nat} {ad : Nat → Nat} (hdm : dm = 0) {x1 : Int} {x2 : Int} {w : Wd} {res : Rz}  (hq : p_X8_movePart x1 x2 na w = some res) : mGI l yX8_movePart cX8_movePart 3 (some .int) (rmv 7 139 15 852) G dm na ad [.ref (ad (1)), iV (x1), iV (x2)] w res 15 852 := by
  refine met_GI hfl [(0, .ref (ad (1))), (1, iV (x1)), (2, iV (x2))] (by decide) (Nat.le_of_ble_eq_true rfl) rfl .int rfl (fun g d C S hT hR => ?_)
  obtain ⟨rfl, hR0, rfl, rfl, rfl, hA⟩ := S
  exact L_X8_movePart (d := (na, ad, 0, 0)) C hdm hA hR0 ⟨Nat.le_of_ble_eq_true rfl, Nat.le_of_ble_eq_true rfl⟩ hT hR (AG.rf (na, ad, 0, 0))  _ _ w hq
set_option maxRecDepth 100000 in
set_option maxHeartbeats 4000000 in
theorem L_X8_setFlaw_46 {g : Cx} {d : Dl} (C : CX g cX8_setFlaw 5 (some .boolean) RX8) (hdm : g.dm = 0) (hA : ∀ q : Nat, g.s.heap.size ≤ q → g.A q) (hR0 : g.R = rmv 8 139 15 852) (hce : d.ce + 13 ≤ 15 ∧ d.so + 840 ≤ 852) {na0 : Nat} {ad0 : Nat → Nat} {res : Rz} (hT : thC g na0 ad0 15 852 res) (hR : RGI g na0 ad0 cX8_setFlaw .boolean 15 852 res) (hag : AG na0 ad0 d) (x1 : Int) (x2 : Int) (x3 : Int) (x4 : Int) (w : Wd) (hq : p_X8_setFlaw_46 x1 x2 x3 x4 d.na w = some res) : XG g d (hP g d w) [(0, .ref (d.ad (1))), (1, iV (x1)), (2, iV (x2)), (3, iV (x3)), (4, iV (x4))] [] 46 := by
  refine x_aload_n C 0 dX8_setFlaw_46 rfl ?_
  refine x_getr (K := 9) (k := 6) (o2 := 116) C (isK_lit hdm rfl rfl) (by decide) cl_X8 (by decide) ⟨rfl, rfl, rfl⟩ fl_X8_53 rfl dX8_setFlaw_47 ?_
  refine x_aload_n C 0 dX8_setFlaw_50 rfl ?_
  refine x_getr (K := 9) (k := 4) (o2 := 100) C (isK_lit hdm rfl rfl) (by decide) cl_X8 (by decide) ⟨rfl, rfl, rfl⟩ fl_X8_42 rfl dX8_setFlaw_51 ?_
  refine x_callVv (K := 7) (rm := rmv 2 44 0 0) (As := [.ref (d.ad (100))]) (rest := []) C hA hR0 mf_X6_copy lk_X8_241 rfl (isK_lit hdm rfl rfl) (by decide) ⟨rfl, rfl⟩ ⟨Nat.le_of_ble_eq_true rfl, Nat.le_of_ble_eq_true rfl⟩ rfl rfl (Nat.le_of_ble_eq_true rfl) (gce hR0 hce) dX8_setFlaw_54 hq (fun _ h => c_X6_copy g.l g.G hdm (isK_lit hdm rfl rfl) (isK_lit hdm rfl rfl) h) (fun w1 _ hq => ?_)
  refine x_aload_n C 0 dX8_setFlaw_57 rfl ?_
  refine x_getr (K := 9) (k := 6) (o2 := 116) C (isK_lit hdm rfl rfl) (by decide) cl_X8 (by decide) ⟨rfl, rfl, rfl⟩ fl_X8_53 rfl dX8_setFlaw_58 ?_
  refine x_iload_n C 1 dX8_setFlaw_61 rfl ?_
  refine x_iload_n C 2 dX8_setFlaw_62 rfl ?_
  refine x_iload_n C 3 dX8_setFlaw_63 rfl ?_
  refine x_callVv (K := 7) (rm := rmv 1 22 0 0) (As := [iV (x1), iV (x2), iV (x3)]) (rest := []) C hA hR0 mf_X6_mark lk_X8_244 rfl (isK_lit hdm rfl rfl) (by decide) ⟨rfl, rfl⟩ ⟨Nat.le_of_ble_eq_true rfl, Nat.le_of_ble_eq_true rfl⟩ rfl rfl (Nat.le_of_ble_eq_true rfl) (gce hR0 hce) dX8_setFlaw_64 hq (fun _ h => c_X6_mark g.l g.G hdm (isK_lit hdm rfl rfl) h) (fun w2 _ hq => ?_)
  refine x_aload_n C 0 dX8_setFlaw_67 rfl ?_
  refine x_gcallV (K := 9) (rm := rmv 6 109 1 6) (mc' := 1) (ms' := 6) (As := []) (rest := []) C hA hR0 mf_X8_needCarvedStay lk_X8_278 rfl (isK_lit hdm rfl rfl) (by decide) ⟨rfl, rfl⟩ ⟨Nat.le_of_ble_eq_true rfl, Nat.le_of_ble_eq_true rfl⟩ rfl rfl (Nat.le_of_ble_eq_true rfl) (gcc hR0 hce (by decide) (by decide)).1 hag (gcc hR0 hce (by decide) (by decide)).2 dX8_setFlaw_68 hR.2 hq (fun _ h => c_X8_needCarvedStay g.l g.G hT.2.1 hdm  h) (fun r3 d6 w5 g7 hc1 hc2 hq => ?_)
  try rw [agr g7 (K := 9) (isK_lit hdm rfl rfl) (by decide)]
  have hag := hag.trans g7
  have hce : d6.ce + 12 ≤ 15 ∧ d6.so + 834 ≤ 852 := ⟨by omega, by omega⟩
  refine x_aload_n C 0 dX8_setFlaw_71 rfl ?_
  refine x_gcallV (K := 9) (rm := rmv 5 119 12 834) (mc' := 12) (ms' := 834) (As := []) (rest := []) C hA hR0 mf_X8_settle lk_X8_94 rfl (isK_lit hdm rfl rfl) (by decide) ⟨rfl, rfl⟩ ⟨Nat.le_of_ble_eq_true rfl, Nat.le_of_ble_eq_true rfl⟩ rfl rfl (Nat.le_of_ble_eq_true rfl) (gcc hR0 hce (by decide) (by decide)).1 hag (gcc hR0 hce (by decide) (by decide)).2 dX8_setFlaw_72 hR.2 hq (fun _ h => c_X8_settle g.l g.G hT.2.1 hdm  h) (fun r8 d11 w10 g12 hc1 hc2 hq => ?_)
  try rw [agr g12 (K := 9) (isK_lit hdm rfl rfl) (by decide)]
  have hag := hag.trans g12
  have hce : d11.ce + 0 ≤ 15 ∧ d11.so + 0 ≤ 852 := ⟨by omega, by omega⟩
  refine x_iload C 4 dX8_setFlaw_75 rfl ?_
  exact hR.1 _ _ _ _ _ hag (gcd hce) (zrG_2 hq) (zrG_1 hq) dX8_setFlaw_77
set_option maxRecDepth 100000 in
set_option maxHeartbeats 4000000 in
theorem L_X8_setFlaw {g : Cx} {d : Dl} (C : CX g cX8_setFlaw 5 (some .boolean) RX8) (hdm : g.dm = 0) (hA : ∀ q : Nat, g.s.heap.size ≤ q → g.A q) (hR0 : g.R = rmv 8 139 15 852) (hce : d.ce + 15 ≤ 15 ∧ d.so + 852 ≤ 852) {na0 : Nat} {ad0 : Nat → Nat} {res : Rz} (hT : thC g na0 ad0 15 852 res) (hR : RGI g na0 ad0 cX8_setFlaw .boolean 15 852 res) (hag : AG na0 ad0 d) (x1 : Int) (x2 : Int) (x3 : Int) (w : Wd) (hq : p_X8_setFlaw x1 x2 x3 d.na w = some res) : XG g d (hP g d w) [(0, .ref (d.ad (1))), (1, iV (x1)), (2, iV (x2)), (3, iV (x3))] [] 0 := by
  refine x_aload_n C 0 dX8_setFlaw_0 rfl ?_
  refine x_iload_n C 1 dX8_setFlaw_1 rfl ?_
  refine x_iload_n C 2 dX8_setFlaw_2 rfl ?_
  refine x_gcallV (K := 9) (rm := rmv 7 110 2 12) (mc' := 2) (ms' := 12) (As := [iV (x1), iV (x2)]) (rest := []) C hA hR0 mf_X8_needCell lk_X8_204 rfl (isK_lit hdm rfl rfl) (by decide) ⟨rfl, rfl⟩ ⟨Nat.le_of_ble_eq_true rfl, Nat.le_of_ble_eq_true rfl⟩ rfl rfl (Nat.le_of_ble_eq_true rfl) (gcc hR0 hce (by decide) (by decide)).1 hag (gcc hR0 hce (by decide) (by decide)).2 dX8_setFlaw_3 hR.2 hq (fun _ h => c_X8_needCell g.l g.G hT.2.1 hdm  h) (fun r1 d4 w3 g5 hc1 hc2 hq => ?_)
  try rw [agr g5 (K := 9) (isK_lit hdm rfl rfl) (by decide)]
  have hag := hag.trans g5
  have hce : d4.ce + 13 ≤ 15 ∧ d4.so + 840 ≤ 852 := ⟨by omega, by omega⟩
  refine x_aload_n C 0 dX8_setFlaw_6 rfl ?_
  refine x_getr (K := 9) (k := 4) (o2 := 100) C (isK_lit hdm rfl rfl) (by decide) cl_X8 (by decide) ⟨rfl, rfl, rfl⟩ fl_X8_42 rfl dX8_setFlaw_7 ?_
  refine x_iload_n C 1 dX8_setFlaw_10 rfl ?_
  refine x_iload_n C 2 dX8_setFlaw_11 rfl ?_
  refine x_callVi (K := 7) (rm := rmv 1 21 0 0) (As := [iV (x1), iV (x2)]) (rest := []) C hA hR0 mf_X6_flawed lk_X8_208 rfl (isK_lit hdm rfl rfl) (by decide) ⟨rfl, rfl⟩ ⟨Nat.le_of_ble_eq_true rfl, Nat.le_of_ble_eq_true rfl⟩ rfl rfl (Nat.le_of_ble_eq_true rfl) (gce hR0 hce) dX8_setFlaw_12 hq (fun _ _ h => c_X6_flawed g.l g.G hdm (isK_lit hdm rfl rfl) h) (fun r7 w6 _ hq => ?_)
  refine x_istore (lv' := [(4, iV (r7)), (0, .ref (d4.ad (1))), (1, iV (x1)), (2, iV (x2)), (3, iV (x3))]) C dX8_setFlaw_15 (by decide) rfl ?_
  refine x_iload_n C 4 dX8_setFlaw_17 rfl ?_
  refine x_if_eq (tgt := 46) C dX8_setFlaw_18 (by decide) hq (fun hq => ?_) (fun hq => ?_)
  · refine XG.sub [1, 2, 3, 4, 0] rfl ?_
    exact L_X8_setFlaw_46 C hdm hA hR0 hce hT hR hag _ _ _ _ _ hq
  · refine x_iload C 0 dX8_setFlaw_21 rfl ?_
    refine x_if_ne (tgt := 46) C dX8_setFlaw_23 (by decide) hq (fun hq => ?_) (fun hq => ?_)
    · refine XG.sub [1, 2, 3, 4, 0] rfl ?_
      exact L_X8_setFlaw_46 C hdm hA hR0 hce hT hR hag _ _ _ _ _ hq
    · refine x_aload_n C 1 dX8_setFlaw_26 rfl ?_
      refine x_getr (K := 9) (k := 4) (o2 := 100) C (isK_lit hdm rfl rfl) (by decide) cl_X8 (by decide) ⟨rfl, rfl, rfl⟩ fl_X8_42 rfl dX8_setFlaw_27 ?_
      refine x_callVi (K := 7) (rm := rmv 1 21 0 0) (As := []) (rest := []) C hA hR0 mf_X6_flawCount lk_X8_112 rfl (isK_lit hdm rfl rfl) (by decide) ⟨rfl, rfl⟩ ⟨Nat.le_of_ble_eq_true rfl, Nat.le_of_ble_eq_true rfl⟩ rfl rfl (Nat.le_of_ble_eq_true rfl) (gce hR0 hce) dX8_setFlaw_30 hq (fun _ _ h => c_X6_flawCount g.l g.G hdm (isK_lit hdm rfl rfl) h) (fun r9 w8 _ hq => ?_)
      refine x_bipush (v := 40) C dX8_setFlaw_33 (by decide +kernel) ?_
      refine x_icmp_lt (tgt := 46) C dX8_setFlaw_35 (by decide) hq (fun hq => ?_) (fun hq => ?_)
      · refine XG.sub [1, 2, 3, 4, 0] rfl ?_
        exact L_X8_setFlaw_46 C hdm hA hR0 hce hT hR hag _ _ _ _ _ hq
      · exact x_gthrow C hT hR0 th1 hag (gcc hR0 hce (by decide) (by decide)).2 ⟨rfl, rfl⟩ ⟨Nat.le_of_ble_eq_true rfl, Nat.le_of_ble_eq_true rfl⟩ hq dX8_setFlaw_38 dX8_setFlaw_41 dX8_setFlaw_42 dX8_setFlaw_45
set_option maxRecDepth 100000 in
set_option maxHeartbeats 4000000 in
theorem c_X8_setFlaw (l : Launch) (G : Gd) (hfl : l.stackTraces = false) {dm na : Nat} {ad : Nat → Nat} (hdm : dm = 0) {x1 : Int} {x2 : Int} {x3 : Int} {w : Wd} {res : Rz}  (hq : p_X8_setFlaw x1 x2 x3 na w = some res) : mGI l yX8_setFlaw cX8_setFlaw 5 (some .boolean) (rmv 8 139 15 852) G dm na ad [.ref (ad (1)), iV (x1), iV (x2), iV (x3)] w res 15 852 := by
  refine met_GI hfl [(0, .ref (ad (1))), (1, iV (x1)), (2, iV (x2)), (3, iV (x3))] (by decide) (Nat.le_of_ble_eq_true rfl) rfl .boolean rfl (fun g d C S hT hR => ?_)
  obtain ⟨rfl, hR0, rfl, rfl, rfl, hA⟩ := S
  exact L_X8_setFlaw (d := (na, ad, 0, 0)) C hdm hA hR0 ⟨Nat.le_of_ble_eq_true rfl, Nat.le_of_ble_eq_true rfl⟩ hT hR (AG.rf (na, ad, 0, 0))  _ _ _ w hq
set_option maxRecDepth 100000 in
set_option maxHeartbeats 4000000 in
theorem L_X8_needGap_9 {g : Cx} {d : Dl} (C : CX g cX8_needGap 2 none RX8) (hdm : g.dm = 0) (hA : ∀ q : Nat, g.s.heap.size ≤ q → g.A q) (hR0 : g.R = rmv 6 89 1 6) (hce : d.ce + 1 ≤ 1 ∧ d.so + 6 ≤ 6) {na0 : Nat} {ad0 : Nat → Nat} {res : Rz} (hT : thC g na0 ad0 1 6 res) (hR : RGV g na0 ad0 cX8_needGap 1 6 res) (hag : AG na0 ad0 d)  (w : Wd) (hq : p_X8_needGap_9 d.na w = some res) : XG g d (hP g d w) [] [] 9 := by
  exact x_gthrow C hT hR0 th2 hag (gcc hR0 hce (by decide) (by decide)).2 ⟨rfl, rfl⟩ ⟨Nat.le_of_ble_eq_true rfl, Nat.le_of_ble_eq_true rfl⟩ hq dX8_needGap_9 dX8_needGap_12 dX8_needGap_13 dX8_needGap_16
set_option maxRecDepth 100000 in
set_option maxHeartbeats 4000000 in
theorem L_X8_needGap {g : Cx} {d : Dl} (C : CX g cX8_needGap 2 none RX8) (hdm : g.dm = 0) (hA : ∀ q : Nat, g.s.heap.size ≤ q → g.A q) (hR0 : g.R = rmv 6 89 1 6) (hce : d.ce + 1 ≤ 1 ∧ d.so + 6 ≤ 6) {na0 : Nat} {ad0 : Nat → Nat} {res : Rz} (hT : thC g na0 ad0 1 6 res) (hR : RGV g na0 ad0 cX8_needGap 1 6 res) (hag : AG na0 ad0 d) (x1 : Int) (w : Wd) (hq : p_X8_needGap x1 d.na w = some res) : XG g d (hP g d w) [(0, .ref (d.ad (1))), (1, iV (x1))] [] 0 := by
  refine x_iload_n C 1 dX8_needGap_0 rfl ?_
  refine x_if_lt (tgt := 9) C dX8_needGap_1 (by decide) hq (fun hq => ?_) (fun hq => ?_)
  · refine XG.sub [] rfl ?_
    exact L_X8_needGap_9 C hdm hA hR0 hce hT hR hag _ hq
  · refine x_iload_n C 1 dX8_needGap_4 rfl ?_
    refine x_iconst C dX8_needGap_5 ?_
    refine x_icmp_le (tgt := 17) C dX8_needGap_6 (by decide) hq (fun hq => ?_) (fun hq => ?_)
    · exact hR.1 _ _ _ _ hag (gcd hce) hq dX8_needGap_17
    · refine XG.sub [] rfl ?_
      exact L_X8_needGap_9 C hdm hA hR0 hce hT hR hag _ hq
set_option maxRecDepth 100000 in
set_option maxHeartbeats 4000000 in
theorem c_X8_needGap (l : Launch) (G : Gd) (hfl : l.stackTraces = false) {dm na : Nat} {ad : Nat → Nat} (hdm : dm = 0) {x1 : Int} {w : Wd} {res : Rz}  (hq : p_X8_needGap x1 na w = some res) : mGV l yX8_needGap cX8_needGap 2 none (rmv 6 89 1 6) G dm na ad [.ref (ad (1)), iV (x1)] w res 1 6 := by
  refine met_GV hfl [(0, .ref (ad (1))), (1, iV (x1))] (by decide) (Nat.le_of_ble_eq_true rfl) rfl rfl (fun g d C S hT hR => ?_)
  obtain ⟨rfl, hR0, rfl, rfl, rfl, hA⟩ := S
  exact L_X8_needGap (d := (na, ad, 0, 0)) C hdm hA hR0 ⟨Nat.le_of_ble_eq_true rfl, Nat.le_of_ble_eq_true rfl⟩ hT hR (AG.rf (na, ad, 0, 0))  _ w hq
set_option maxRecDepth 100000 in
set_option maxHeartbeats 4000000 in
theorem L_X8_setGap {g : Cx} {d : Dl} (C : CX g cX8_setGap 3 (some .int) RX8) (hdm : g.dm = 0) (hA : ∀ q : Nat, g.s.heap.size ≤ q → g.A q) (hR0 : g.R = rmv 7 139 14 846) (hce : d.ce + 14 ≤ 14 ∧ d.so + 846 ≤ 846) {na0 : Nat} {ad0 : Nat → Nat} {res : Rz} (hT : thC g na0 ad0 14 846 res) (hR : RGI g na0 ad0 cX8_setGap .int 14 846 res) (hag : AG na0 ad0 d) (x1 : Int) (w : Wd) (hq : p_X8_setGap x1 d.na w = some res) : XG g d (hP g d w) [(0, .ref (d.ad (1))), (1, iV (x1))] [] 0 := by
  refine x_aload_n C 0 dX8_setGap_0 rfl ?_
  refine x_iload_n C 1 dX8_setGap_1 rfl ?_
  refine x_gcallV (K := 9) (rm := rmv 6 89 1 6) (mc' := 1) (ms' := 6) (As := [iV (x1)]) (rest := []) C hA hR0 mf_X8_needGap lk_X8_257 rfl (isK_lit hdm rfl rfl) (by decide) ⟨rfl, rfl⟩ ⟨Nat.le_of_ble_eq_true rfl, Nat.le_of_ble_eq_true rfl⟩ rfl rfl (Nat.le_of_ble_eq_true rfl) (gcc hR0 hce (by decide) (by decide)).1 hag (gcc hR0 hce (by decide) (by decide)).2 dX8_setGap_2 hR.2 hq (fun _ h => c_X8_needGap g.l g.G hT.2.1 hdm  h) (fun r1 d4 w3 g5 hc1 hc2 hq => ?_)
  try rw [agr g5 (K := 9) (isK_lit hdm rfl rfl) (by decide)]
  have hag := hag.trans g5
  have hce : d4.ce + 13 ≤ 14 ∧ d4.so + 840 ≤ 846 := ⟨by omega, by omega⟩
  refine x_aload_n C 0 dX8_setGap_5 rfl ?_
  refine x_getr (K := 9) (k := 4) (o2 := 100) C (isK_lit hdm rfl rfl) (by decide) cl_X8 (by decide) ⟨rfl, rfl, rfl⟩ fl_X8_42 rfl dX8_setGap_6 ?_
  refine x_get (K := 7) (k := 2) C (isK_lit hdm rfl rfl) (by decide) cl_X6 (by decide) ⟨rfl, rfl, rfl⟩ fl_X8_116 dX8_setGap_9 ?_
  refine x_istore_n (lv' := [(2, iV (gF w3 100 2)), (0, .ref (d4.ad (1))), (1, iV (x1))]) C dX8_setGap_12 (by decide) rfl ?_
  refine x_aload_n C 1 dX8_setGap_13 rfl ?_
  refine x_getr (K := 9) (k := 6) (o2 := 116) C (isK_lit hdm rfl rfl) (by decide) cl_X8 (by decide) ⟨rfl, rfl, rfl⟩ fl_X8_53 rfl dX8_setGap_14 ?_
  refine x_aload_n C 1 dX8_setGap_17 rfl ?_
  refine x_getr (K := 9) (k := 4) (o2 := 100) C (isK_lit hdm rfl rfl) (by decide) cl_X8 (by decide) ⟨rfl, rfl, rfl⟩ fl_X8_42 rfl dX8_setGap_18 ?_
  refine x_callVv (K := 7) (rm := rmv 2 44 0 0) (As := [.ref (d4.ad (100))]) (rest := []) C hA hR0 mf_X6_copy lk_X8_241 rfl (isK_lit hdm rfl rfl) (by decide) ⟨rfl, rfl⟩ ⟨Nat.le_of_ble_eq_true rfl, Nat.le_of_ble_eq_true rfl⟩ rfl rfl (Nat.le_of_ble_eq_true rfl) (gce hR0 hce) dX8_setGap_21 hq (fun _ h => c_X6_copy g.l g.G hdm (isK_lit hdm rfl rfl) (isK_lit hdm rfl rfl) h) (fun w6 _ hq => ?_)
  refine x_aload_n C 1 dX8_setGap_24 rfl ?_
  refine x_getr (K := 9) (k := 6) (o2 := 116) C (isK_lit hdm rfl rfl) (by decide) cl_X8 (by decide) ⟨rfl, rfl, rfl⟩ fl_X8_53 rfl dX8_setGap_25 ?_
  refine x_iload_n C 2 dX8_setGap_28 rfl ?_
  refine x_put (K := 7) (k := 2) C (isK_lit hdm rfl rfl) (by decide) cl_X6 (by decide) ⟨rfl, rfl, rfl, rfl⟩ fl_X8_116 ⟨rfl, rfl⟩ dX8_setGap_29 ?_
  refine x_aload_n C 1 dX8_setGap_32 rfl ?_
  refine x_gcallV (K := 9) (rm := rmv 6 109 1 6) (mc' := 1) (ms' := 6) (As := []) (rest := []) C hA hR0 mf_X8_needCarvedStay lk_X8_278 rfl (isK_lit hdm rfl rfl) (by decide) ⟨rfl, rfl⟩ ⟨Nat.le_of_ble_eq_true rfl, Nat.le_of_ble_eq_true rfl⟩ rfl rfl (Nat.le_of_ble_eq_true rfl) (gcc hR0 hce (by decide) (by decide)).1 hag (gcc hR0 hce (by decide) (by decide)).2 dX8_setGap_33 hR.2 hq (fun _ h => c_X8_needCarvedStay g.l g.G hT.2.1 hdm  h) (fun r7 d10 w9 g11 hc1 hc2 hq => ?_)
  try rw [agr g11 (K := 9) (isK_lit hdm rfl rfl) (by decide)]
  have hag := hag.trans g11
  have hce : d10.ce + 12 ≤ 14 ∧ d10.so + 834 ≤ 846 := ⟨by omega, by omega⟩
  refine x_aload_n C 1 dX8_setGap_36 rfl ?_
  refine x_gcallV (K := 9) (rm := rmv 5 119 12 834) (mc' := 12) (ms' := 834) (As := []) (rest := []) C hA hR0 mf_X8_settle lk_X8_94 rfl (isK_lit hdm rfl rfl) (by decide) ⟨rfl, rfl⟩ ⟨Nat.le_of_ble_eq_true rfl, Nat.le_of_ble_eq_true rfl⟩ rfl rfl (Nat.le_of_ble_eq_true rfl) (gcc hR0 hce (by decide) (by decide)).1 hag (gcc hR0 hce (by decide) (by decide)).2 dX8_setGap_37 hR.2 hq (fun _ h => c_X8_settle g.l g.G hT.2.1 hdm  h) (fun r12 d15 w14 g16 hc1 hc2 hq => ?_)
  try rw [agr g16 (K := 9) (isK_lit hdm rfl rfl) (by decide)]
  have hag := hag.trans g16
  have hce : d15.ce + 0 ≤ 14 ∧ d15.so + 0 ≤ 846 := ⟨by omega, by omega⟩
  refine x_iload_n C 0 dX8_setGap_40 rfl ?_
  exact hR.1 _ _ _ _ _ hag (gcd hce) hq rfl dX8_setGap_41
set_option maxRecDepth 100000 in
set_option maxHeartbeats 4000000 in
theorem c_X8_setGap (l : Launch) (G : Gd) (hfl : l.stackTraces = false) {dm na : Nat} {ad : Nat → Nat} (hdm : dm = 0) {x1 : Int} {w : Wd} {res : Rz}  (hq : p_X8_setGap x1 na w = some res) : mGI l yX8_setGap cX8_setGap 3 (some .int) (rmv 7 139 14 846) G dm na ad [.ref (ad (1)), iV (x1)] w res 14 846 := by
  refine met_GI hfl [(0, .ref (ad (1))), (1, iV (x1))] (by decide) (Nat.le_of_ble_eq_true rfl) rfl .int rfl (fun g d C S hT hR => ?_)
  obtain ⟨rfl, hR0, rfl, rfl, rfl, hA⟩ := S
  exact L_X8_setGap (d := (na, ad, 0, 0)) C hdm hA hR0 ⟨Nat.le_of_ble_eq_true rfl, Nat.le_of_ble_eq_true rfl⟩ hT hR (AG.rf (na, ad, 0, 0))  _ w hq
set_option maxRecDepth 100000 in
set_option maxHeartbeats 4000000 in
theorem L_X6_turnFlaws_59 {g : Cx} {d : Dl} (C : CX g cX6_turnFlaws 4 none RX6) (hdm : g.dm = 0) (hA : ∀ q : Nat, g.s.heap.size ≤ q → g.A q) (hR0 : g.R = rmv 2 46 0 0) (hce : d.ce ≤ g.R.cells ∧ d.so ≤ g.R.slots) {res : Wd} (hR : rtV g d cX6_turnFlaws res) {o0 : Nat} {o1 : Nat} (h0 : isK d.na g.dm 7 o0) (h1 : isK d.na g.dm 7 o1) {k9 : Int → Wd → Option (Wd)} (hk9 : ∀ (x2 : Int) (w : Wd), k9 x2 w = some res → XG g d (hP g d w) [(0, .ref (d.ad (o0))), (1, .ref (d.ad (o1))), (2, iV (x2))] [] 9) (x2 : Int) (w : Wd) (hq : p_X6_turnFlaws_59 o0 o1 k9 x2 w = some res) : XG g d (hP g d w) [(0, .ref (d.ad (o0))), (1, .ref (d.ad (o1))), (2, iV (x2))] [] 59 := by
  refine x_iinc (lv' := [(2, iV (x2 + 1)), (0, .ref (d.ad (o0))), (1, .ref (d.ad (o1)))]) C 2 dX6_turnFlaws_59 rfl (by decide) rfl ?_
  refine x_goto (tgt := 9) C dX6_turnFlaws_62 (by decide) ?_
  refine XG.sub [1, 2, 0] rfl ?_
  exact hk9 _ _ hq
set_option maxRecDepth 100000 in
set_option maxHeartbeats 4000000 in
theorem L_X6_turnFlaws_19 {g : Cx} {d : Dl} (C : CX g cX6_turnFlaws 4 none RX6) (hdm : g.dm = 0) (hA : ∀ q : Nat, g.s.heap.size ≤ q → g.A q) (hR0 : g.R = rmv 2 46 0 0) (hce : d.ce ≤ g.R.cells ∧ d.so ≤ g.R.slots) {res : Wd} (hR : rtV g d cX6_turnFlaws res) {o0 : Nat} {o1 : Nat} (h0 : isK d.na g.dm 7 o0) (h1 : isK d.na g.dm 7 o1) {k9 : Int → Wd → Option (Wd)} (hk9 : ∀ (x2 : Int) (w : Wd), k9 x2 w = some res → XG g d (hP g d w) [(0, .ref (d.ad (o0))), (1, .ref (d.ad (o1))), (2, iV (x2))] [] 9) : ∀ (n : Nat) (x2 : Int) (x3 : Int) (w : Wd), p_X6_turnFlaws_19 o0 o1 k9 n x2 x3 w = some res → XG g d (hP g d w) [(0, .ref (d.ad (o0))), (1, .ref (d.ad (o1))), (2, iV (x2)), (3, iV (x3))] [] 19 := by
  intro n
  induction n with
  | zero => intro x2 x3 w  hq; exact nomatch (show none = some _ from hq)
  | succ n ih =>
    intro x2 x3 w  hq
    refine x_iload_n C 3 dX6_turnFlaws_19 rfl ?_
    refine x_aload_n C 0 dX6_turnFlaws_20 rfl ?_
    refine x_get (K := 7) (k := 0) C h0 (by decide) cl_X6 (by decide) ⟨rfl, rfl, rfl⟩ fl_X6_9 dX6_turnFlaws_21 ?_
    refine x_icmp_ge (tgt := 59) C dX6_turnFlaws_24 (by decide) hq (fun hq => ?_) (fun hq => ?_)
    · refine XG.sub [0, 1, 2] rfl ?_
      exact L_X6_turnFlaws_59 C hdm hA hR0 hce hR h0 h1 hk9 _ _ hq
    · refine x_aload_n C 0 dX6_turnFlaws_27 rfl ?_
      refine x_aload_n C 0 dX6_turnFlaws_28 rfl ?_
      refine x_get (K := 7) (k := 0) C h0 (by decide) cl_X6 (by decide) ⟨rfl, rfl, rfl⟩ fl_X6_9 dX6_turnFlaws_29 ?_
      refine x_iconst C dX6_turnFlaws_32 ?_
      refine x_isub C dX6_turnFlaws_33 ?_
      refine x_iload_n C 3 dX6_turnFlaws_34 rfl ?_
      refine x_isub C dX6_turnFlaws_35 ?_
      refine x_aload_n C 0 dX6_turnFlaws_36 rfl ?_
      refine x_get (K := 7) (k := 1) C h0 (by decide) cl_X6 (by decide) ⟨rfl, rfl, rfl⟩ fl_X6_15 dX6_turnFlaws_37 ?_
      refine x_iconst C dX6_turnFlaws_40 ?_
      refine x_isub C dX6_turnFlaws_41 ?_
      refine x_iload_n C 2 dX6_turnFlaws_42 rfl ?_
      refine x_isub C dX6_turnFlaws_43 ?_
      refine x_aload_n C 1 dX6_turnFlaws_44 rfl ?_
      refine x_iload_n C 3 dX6_turnFlaws_45 rfl ?_
      refine x_iload_n C 2 dX6_turnFlaws_46 rfl ?_
      refine x_callVi (K := 7) (rm := rmv 1 21 0 0) (As := [iV (x3), iV (x2)]) (rest := [iV (((gF w o0 1) - 1) - x2), iV (((gF w o0 0) - 1) - x3), .ref (d.ad (o0))]) C hA hR0 mf_X6_flawed lk_X6_93 rfl h1 (by decide) ⟨rfl, rfl⟩ ⟨Nat.le_of_ble_eq_true rfl, Nat.le_of_ble_eq_true rfl⟩ rfl rfl (Nat.le_of_ble_eq_true rfl) hce dX6_turnFlaws_47 hq (fun _ _ h => c_X6_flawed g.l g.G hdm h1 h) (fun r2 w1 _ hq => ?_)
      refine x_callVv (K := 7) (rm := rmv 1 22 0 0) (As := [iV (((gF w o0 0) - 1) - x3), iV (((gF w o0 1) - 1) - x2), iV (r2)]) (rest := []) C hA hR0 mf_X6_mark lk_X6_97 rfl h0 (by decide) ⟨rfl, rfl⟩ ⟨Nat.le_of_ble_eq_true rfl, Nat.le_of_ble_eq_true rfl⟩ rfl rfl (Nat.le_of_ble_eq_true rfl) hce dX6_turnFlaws_50 hq (fun _ h => c_X6_mark g.l g.G hdm h0 h) (fun w3 _ hq => ?_)
      refine x_iinc (lv' := [(3, iV (x3 + 1)), (0, .ref (d.ad (o0))), (1, .ref (d.ad (o1))), (2, iV (x2))]) C 3 dX6_turnFlaws_53 rfl (by decide) rfl ?_
      refine x_goto (tgt := 19) C dX6_turnFlaws_56 (by decide) ?_
      refine XG.sub [1, 2, 3, 0] rfl ?_
      exact ih _ _ _ hq
set_option maxRecDepth 100000 in
set_option maxHeartbeats 4000000 in
theorem L_X6_turnFlaws_9 {g : Cx} {d : Dl} (C : CX g cX6_turnFlaws 4 none RX6) (hdm : g.dm = 0) (hA : ∀ q : Nat, g.s.heap.size ≤ q → g.A q) (hR0 : g.R = rmv 2 46 0 0) (hce : d.ce ≤ g.R.cells ∧ d.so ≤ g.R.slots) {res : Wd} (hR : rtV g d cX6_turnFlaws res) {o0 : Nat} {o1 : Nat} (h0 : isK d.na g.dm 7 o0) (h1 : isK d.na g.dm 7 o1) : ∀ (n : Nat) (x2 : Int) (w : Wd), p_X6_turnFlaws_9 o0 o1 n x2 w = some res → XG g d (hP g d w) [(0, .ref (d.ad (o0))), (1, .ref (d.ad (o1))), (2, iV (x2))] [] 9 := by
  intro n
  induction n with
  | zero => intro x2 w  hq; exact nomatch (show none = some _ from hq)
  | succ n ih =>
    intro x2 w  hq
    refine x_iload_n C 2 dX6_turnFlaws_9 rfl ?_
    refine x_aload_n C 0 dX6_turnFlaws_10 rfl ?_
    refine x_get (K := 7) (k := 1) C h0 (by decide) cl_X6 (by decide) ⟨rfl, rfl, rfl⟩ fl_X6_15 dX6_turnFlaws_11 ?_
    refine x_icmp_ge (tgt := 65) C dX6_turnFlaws_14 (by decide) hq (fun hq => ?_) (fun hq => ?_)
    · exact hR _ _ _ hq dX6_turnFlaws_65
    · refine x_iconst C dX6_turnFlaws_17 ?_
      refine x_istore_n (lv' := [(3, iV (0)), (0, .ref (d.ad (o0))), (1, .ref (d.ad (o1))), (2, iV (x2))]) C dX6_turnFlaws_18 (by decide) rfl ?_
      refine XG.sub [1, 2, 3, 0] rfl ?_
      exact L_X6_turnFlaws_19 C hdm hA hR0 hce hR h0 h1 ih _ _ _ _ hq
set_option maxRecDepth 100000 in
set_option maxHeartbeats 4000000 in
theorem L_X6_turnFlaws {g : Cx} {d : Dl} (C : CX g cX6_turnFlaws 4 none RX6) (hdm : g.dm = 0) (hA : ∀ q : Nat, g.s.heap.size ≤ q → g.A q) (hR0 : g.R = rmv 2 46 0 0) (hce : d.ce ≤ g.R.cells ∧ d.so ≤ g.R.slots) {res : Wd} (hR : rtV g d cX6_turnFlaws res) {o0 : Nat} {o1 : Nat} (h0 : isK d.na g.dm 7 o0) (h1 : isK d.na g.dm 7 o1)  (w : Wd) (hq : p_X6_turnFlaws o0 o1 w = some res) : XG g d (hP g d w) [(0, .ref (d.ad (o0))), (1, .ref (d.ad (o1)))] [] 0 := by
  refine x_aload_n C 0 dX6_turnFlaws_0 rfl ?_
  refine x_getr (K := 7) (k := 3) (o2 := o0 + 1) C h0 (by decide) cl_X6 (by decide) ⟨rfl, rfl, rfl⟩ fl_X6_26 rfl dX6_turnFlaws_1 ?_
  refine x_callVv (K := 6) (rm := rmv 0 0 0 0) (As := []) (rest := []) C hA hR0 mf_X5_clear lk_X6_58 rfl (ik7 h0).1 (by decide) ⟨rfl, rfl⟩ ⟨Nat.le_of_ble_eq_true rfl, Nat.le_of_ble_eq_true rfl⟩ rfl rfl (Nat.le_of_ble_eq_true rfl) hce dX6_turnFlaws_4 hq (fun _ h => c_X5_clear g.l g.G hdm (ik7 h0).1 h) (fun w1 _ hq => ?_)
  refine x_iconst C dX6_turnFlaws_7 ?_
  refine x_istore_n (lv' := [(2, iV (0)), (0, .ref (d.ad (o0))), (1, .ref (d.ad (o1)))]) C dX6_turnFlaws_8 (by decide) rfl ?_
  refine XG.sub [1, 2, 0] rfl ?_
  exact L_X6_turnFlaws_9 C hdm hA hR0 hce hR h0 h1 _ _ _ hq
set_option maxRecDepth 100000 in
set_option maxHeartbeats 4000000 in
theorem c_X6_turnFlaws (l : Launch) (G : Gd) {dm na : Nat} {ad : Nat → Nat} (hdm : dm = 0) {o0 : Nat} {o1 : Nat} {w w' : Wd}  (h0 : isK na dm 7 o0) (h1 : isK na dm 7 o1) (hq : p_X6_turnFlaws o0 o1 w = some w') : mV l yX6_turnFlaws cX6_turnFlaws 4 none (rmv 2 46 0 0) G dm na ad [.ref (ad (o0)), .ref (ad (o1))] w w' := by
  refine met_V [(0, .ref (ad (o0))), (1, .ref (ad (o1)))] (by decide) (Nat.le_of_ble_eq_true rfl) rfl rfl (fun g d C S hR => ?_)
  obtain ⟨rfl, hR0, rfl, rfl, rfl, hA⟩ := S
  exact L_X6_turnFlaws (d := (na, ad, 0, 0)) C hdm hA hR0 ⟨Nat.zero_le _, Nat.zero_le _⟩ hR h0 h1  w hq
set_option maxRecDepth 100000 in
set_option maxHeartbeats 4000000 in
theorem L_X8_turnSlab {g : Cx} {d : Dl} (C : CX g cX8_turnSlab 1 (some .int) RX8) (hdm : g.dm = 0) (hA : ∀ q : Nat, g.s.heap.size ≤ q → g.A q) (hR0 : g.R = rmv 6 139 12 834) (hce : d.ce + 12 ≤ 12 ∧ d.so + 834 ≤ 834) {na0 : Nat} {ad0 : Nat → Nat} {res : Rz} (hT : thC g na0 ad0 12 834 res) (hR : RGI g na0 ad0 cX8_turnSlab .int 12 834 res) (hag : AG na0 ad0 d)  (w : Wd) (hq : p_X8_turnSlab  d.na w = some res) : XG g d (hP g d w) [(0, .ref (d.ad (1)))] [] 0 := by
  refine x_aload_n C 0 dX8_turnSlab_0 rfl ?_
  refine x_getr (K := 9) (k := 4) (o2 := 100) C (isK_lit hdm rfl rfl) (by decide) cl_X8 (by decide) ⟨rfl, rfl, rfl⟩ fl_X8_42 rfl dX8_turnSlab_1 ?_
  refine x_get (K := 7) (k := 11) C (isK_lit hdm rfl rfl) (by decide) cl_X6 (by decide) ⟨rfl, rfl, rfl⟩ fl_X8_128 dX8_turnSlab_4 ?_
  refine x_if_le (tgt := 18) C dX8_turnSlab_7 (by decide) hq (fun hq => ?_) (fun hq => ?_)
  · refine x_aload_n C 0 dX8_turnSlab_18 rfl ?_
    refine x_getr (K := 9) (k := 6) (o2 := 116) C (isK_lit hdm rfl rfl) (by decide) cl_X8 (by decide) ⟨rfl, rfl, rfl⟩ fl_X8_53 rfl dX8_turnSlab_19 ?_
    refine x_aload_n C 0 dX8_turnSlab_22 rfl ?_
    refine x_getr (K := 9) (k := 4) (o2 := 100) C (isK_lit hdm rfl rfl) (by decide) cl_X8 (by decide) ⟨rfl, rfl, rfl⟩ fl_X8_42 rfl dX8_turnSlab_23 ?_
    refine x_callVv (K := 7) (rm := rmv 2 44 0 0) (As := [.ref (d.ad (100))]) (rest := []) C hA hR0 mf_X6_copy lk_X8_241 rfl (isK_lit hdm rfl rfl) (by decide) ⟨rfl, rfl⟩ ⟨Nat.le_of_ble_eq_true rfl, Nat.le_of_ble_eq_true rfl⟩ rfl rfl (Nat.le_of_ble_eq_true rfl) (gce hR0 hce) dX8_turnSlab_26 hq (fun _ h => c_X6_copy g.l g.G hdm (isK_lit hdm rfl rfl) (isK_lit hdm rfl rfl) h) (fun w1 _ hq => ?_)
    refine x_aload_n C 0 dX8_turnSlab_29 rfl ?_
    refine x_getr (K := 9) (k := 6) (o2 := 116) C (isK_lit hdm rfl rfl) (by decide) cl_X8 (by decide) ⟨rfl, rfl, rfl⟩ fl_X8_53 rfl dX8_turnSlab_30 ?_
    refine x_aload_n C 0 dX8_turnSlab_33 rfl ?_
    refine x_getr (K := 9) (k := 4) (o2 := 100) C (isK_lit hdm rfl rfl) (by decide) cl_X8 (by decide) ⟨rfl, rfl, rfl⟩ fl_X8_42 rfl dX8_turnSlab_34 ?_
    refine x_callVv (K := 7) (rm := rmv 2 46 0 0) (As := [.ref (d.ad (100))]) (rest := []) C hA hR0 mf_X6_turnFlaws lk_X8_260 rfl (isK_lit hdm rfl rfl) (by decide) ⟨rfl, rfl⟩ ⟨Nat.le_of_ble_eq_true rfl, Nat.le_of_ble_eq_true rfl⟩ rfl rfl (Nat.le_of_ble_eq_true rfl) (gce hR0 hce) dX8_turnSlab_37 hq (fun _ h => c_X6_turnFlaws g.l g.G hdm (isK_lit hdm rfl rfl) (isK_lit hdm rfl rfl) h) (fun w2 _ hq => ?_)
    refine x_aload_n C 0 dX8_turnSlab_40 rfl ?_
    refine x_gcallV (K := 9) (rm := rmv 5 119 12 834) (mc' := 12) (ms' := 834) (As := []) (rest := []) C hA hR0 mf_X8_settle lk_X8_94 rfl (isK_lit hdm rfl rfl) (by decide) ⟨rfl, rfl⟩ ⟨Nat.le_of_ble_eq_true rfl, Nat.le_of_ble_eq_true rfl⟩ rfl rfl (Nat.le_of_ble_eq_true rfl) (gcc hR0 hce (by decide) (by decide)).1 hag (gcc hR0 hce (by decide) (by decide)).2 dX8_turnSlab_41 hR.2 hq (fun _ h => c_X8_settle g.l g.G hT.2.1 hdm  h) (fun r3 d6 w5 g7 hc1 hc2 hq => ?_)
    try rw [agr g7 (K := 9) (isK_lit hdm rfl rfl) (by decide)]
    have hag := hag.trans g7
    have hce : d6.ce + 0 ≤ 12 ∧ d6.so + 0 ≤ 834 := ⟨by omega, by omega⟩
    refine x_aload_n C 0 dX8_turnSlab_44 rfl ?_
    refine x_getr (K := 9) (k := 5) (o2 := 10) C (isK_lit hdm rfl rfl) (by decide) cl_X8 (by decide) ⟨rfl, rfl, rfl⟩ fl_X8_49 rfl dX8_turnSlab_45 ?_
    refine x_get (K := 3) (k := 4) C (isK_lit hdm rfl rfl) (by decide) cl_X2 (by decide) ⟨rfl, rfl, rfl⟩ fl_X8_97 dX8_turnSlab_48 ?_
    exact hR.1 _ _ _ _ _ hag (gcd hce) hq rfl dX8_turnSlab_51
  · exact x_gthrow C hT hR0 th1 hag (gcc hR0 hce (by decide) (by decide)).2 ⟨rfl, rfl⟩ ⟨Nat.le_of_ble_eq_true rfl, Nat.le_of_ble_eq_true rfl⟩ hq dX8_turnSlab_10 dX8_turnSlab_13 dX8_turnSlab_14 dX8_turnSlab_17
set_option maxRecDepth 100000 in
set_option maxHeartbeats 4000000 in
theorem c_X8_turnSlab (l : Launch) (G : Gd) (hfl : l.stackTraces = false) {dm na : Nat} {ad : Nat → Nat} (hdm : dm = 0)  {w : Wd} {res : Rz}  (hq : p_X8_turnSlab  na w = some res) : mGI l yX8_turnSlab cX8_turnSlab 1 (some .int) (rmv 6 139 12 834) G dm na ad [.ref (ad (1))] w res 12 834 := by
  refine met_GI hfl [(0, .ref (ad (1)))] (by decide) (Nat.le_of_ble_eq_true rfl) rfl .int rfl (fun g d C S hT hR => ?_)
  obtain ⟨rfl, hR0, rfl, rfl, rfl, hA⟩ := S
  exact L_X8_turnSlab (d := (na, ad, 0, 0)) C hdm hA hR0 ⟨Nat.le_of_ble_eq_true rfl, Nat.le_of_ble_eq_true rfl⟩ hT hR (AG.rf (na, ad, 0, 0))   w hq
set_option maxRecDepth 100000 in
set_option maxHeartbeats 4000000 in
theorem L_X6_cutFlaws_60 {g : Cx} {d : Dl} (C : CX g cX6_cutFlaws 5 none RX6) (hdm : g.dm = 0) (hA : ∀ q : Nat, g.s.heap.size ≤ q → g.A q) (hR0 : g.R = rmv 1 22 0 0) (hce : d.ce ≤ g.R.cells ∧ d.so ≤ g.R.slots) {res : Wd} (hR : rtV g d cX6_cutFlaws res) {o0 : Nat} (h0 : isK d.na g.dm 7 o0) {k23 : Int → Int → Wd → Option (Wd)} (hk23 : ∀ (x3 : Int) (x4 : Int) (w : Wd), k23 x3 x4 w = some res → XG g d (hP g d w) [(0, .ref (d.ad (o0))), (3, iV (x3)), (4, iV (x4))] [] 23) (x3 : Int) (x4 : Int) (s0 : Int) (s1 : Int) (w : Wd) (hq : p_X6_cutFlaws_60 o0 k23 x3 x4 s0 s1 w = some res) : XG g d (hP g d w) [(0, .ref (d.ad (o0))), (3, iV (x3)), (4, iV (x4))] [iV (s0), iV (s1), .ref (d.ad (o0 + 1))] 60 := by
  refine x_callVv (K := 6) (rm := rmv 0 0 0 0) (As := [iV (s1), iV (s0)]) (rest := []) C hA hR0 mf_X5_put lk_X6_85 rfl (ik7 h0).1 (by decide) ⟨rfl, rfl⟩ ⟨Nat.le_of_ble_eq_true rfl, Nat.le_of_ble_eq_true rfl⟩ rfl rfl (Nat.le_of_ble_eq_true rfl) hce dX6_cutFlaws_60 hq (fun _ h => c_X5_put g.l g.G hdm (ik7 h0).1 h) (fun w1 _ hq => ?_)
  refine x_iinc (lv' := [(4, iV (x4 + 1)), (0, .ref (d.ad (o0))), (3, iV (x3))]) C 2 dX6_cutFlaws_63 rfl (by decide) rfl ?_
  refine x_goto (tgt := 23) C dX6_cutFlaws_66 (by decide) ?_
  refine XG.sub [1, 2, 0] rfl ?_
  exact hk23 _ _ _ hq
set_option maxRecDepth 100000 in
set_option maxHeartbeats 4000000 in
theorem L_X6_cutFlaws_23 {g : Cx} {d : Dl} (C : CX g cX6_cutFlaws 5 none RX6) (hdm : g.dm = 0) (hA : ∀ q : Nat, g.s.heap.size ≤ q → g.A q) (hR0 : g.R = rmv 1 22 0 0) (hce : d.ce ≤ g.R.cells ∧ d.so ≤ g.R.slots) {res : Wd} (hR : rtV g d cX6_cutFlaws res) {o0 : Nat} (h0 : isK d.na g.dm 7 o0) : ∀ (n : Nat) (x3 : Int) (x4 : Int) (w : Wd), p_X6_cutFlaws_23 o0 n x3 x4 w = some res → XG g d (hP g d w) [(0, .ref (d.ad (o0))), (3, iV (x3)), (4, iV (x4))] [] 23 := by
  intro n
  induction n with
  | zero => intro x3 x4 w  hq; exact nomatch (show none = some _ from hq)
  | succ n ih =>
    intro x3 x4 w  hq
    refine x_iload C 2 dX6_cutFlaws_23 rfl ?_
    refine x_bipush (v := 12) C dX6_cutFlaws_25 (by decide +kernel) ?_
    refine x_icmp_ge (tgt := 69) C dX6_cutFlaws_27 (by decide) hq (fun hq => ?_) (fun hq => ?_)
    · exact hR _ _ _ hq dX6_cutFlaws_69
    · refine x_aload_n C 0 dX6_cutFlaws_30 rfl ?_
      refine x_getr (K := 7) (k := 3) (o2 := o0 + 1) C h0 (by decide) cl_X6 (by decide) ⟨rfl, rfl, rfl⟩ fl_X6_26 rfl dX6_cutFlaws_31 ?_
      refine x_iload C 2 dX6_cutFlaws_34 rfl ?_
      refine x_iload C 2 dX6_cutFlaws_36 rfl ?_
      refine x_aload_n C 0 dX6_cutFlaws_38 rfl ?_
      refine x_get (K := 7) (k := 1) C h0 (by decide) cl_X6 (by decide) ⟨rfl, rfl, rfl⟩ fl_X6_15 dX6_cutFlaws_39 ?_
      refine x_icmp_ge (tgt := 59) C dX6_cutFlaws_42 (by decide) hq (fun hq => ?_) (fun hq => ?_)
      · refine x_iconst C dX6_cutFlaws_59 ?_
        exact L_X6_cutFlaws_60 C hdm hA hR0 hce hR h0 ih _ _ _ _ _ hq
      · refine x_aload_n C 0 dX6_cutFlaws_45 rfl ?_
        refine x_getr (K := 7) (k := 3) (o2 := o0 + 1) C h0 (by decide) cl_X6 (by decide) ⟨rfl, rfl, rfl⟩ fl_X6_26 rfl dX6_cutFlaws_46 ?_
        refine x_iload C 2 dX6_cutFlaws_49 rfl ?_
        refine x_iload_n C 1 dX6_cutFlaws_51 rfl ?_
        refine x_iadd C dX6_cutFlaws_52 ?_
        refine x_callVi (K := 6) (rm := rmv 0 0 0 0) (As := [iV (x4 + x3)]) (rest := [iV (x4), .ref (d.ad (o0 + 1))]) C hA hR0 mf_X5_at lk_X6_81 rfl (ik7 h0).1 (by decide) ⟨rfl, rfl⟩ ⟨Nat.le_of_ble_eq_true rfl, Nat.le_of_ble_eq_true rfl⟩ rfl rfl (Nat.le_of_ble_eq_true rfl) hce dX6_cutFlaws_53 hq (fun _ _ h => c_X5_at g.l g.G hdm (ik7 h0).1 h) (fun r2 w1 _ hq => ?_)
        refine x_goto (tgt := 60) C dX6_cutFlaws_56 (by decide) ?_
        exact L_X6_cutFlaws_60 C hdm hA hR0 hce hR h0 ih _ _ _ _ _ hq
set_option maxRecDepth 100000 in
set_option maxHeartbeats 4000000 in
theorem L_X6_cutFlaws_9 {g : Cx} {d : Dl} (C : CX g cX6_cutFlaws 5 none RX6) (hdm : g.dm = 0) (hA : ∀ q : Nat, g.s.heap.size ≤ q → g.A q) (hR0 : g.R = rmv 1 22 0 0) (hce : d.ce ≤ g.R.cells ∧ d.so ≤ g.R.slots) {res : Wd} (hR : rtV g d cX6_cutFlaws res) {o0 : Nat} (h0 : isK d.na g.dm 7 o0) (x1 : Int) (s0 : Int) (w : Wd) (hq : p_X6_cutFlaws_9 o0 x1 s0 w = some res) : XG g d (hP g d w) [(0, .ref (d.ad (o0))), (1, iV (x1))] [iV (s0)] 9 := by
  refine x_istore_n (lv' := [(3, iV (s0)), (0, .ref (d.ad (o0))), (1, iV (x1))]) C dX6_cutFlaws_9 (by decide) rfl ?_
  refine x_aload_n C 1 dX6_cutFlaws_10 rfl ?_
  refine x_dup C rfl dX6_cutFlaws_11 ?_
  refine x_get (K := 7) (k := 1) C h0 (by decide) cl_X6 (by decide) ⟨rfl, rfl, rfl⟩ fl_X6_15 dX6_cutFlaws_12 ?_
  refine x_iload_n C 2 dX6_cutFlaws_15 rfl ?_
  refine x_isub C dX6_cutFlaws_16 ?_
  refine x_put (K := 7) (k := 1) C h0 (by decide) cl_X6 (by decide) ⟨rfl, rfl, rfl, rfl⟩ fl_X6_15 ⟨rfl, rfl⟩ dX6_cutFlaws_17 ?_
  refine x_iconst C dX6_cutFlaws_20 ?_
  refine x_istore (lv' := [(4, iV (0)), (3, iV (s0)), (0, .ref (d.ad (o0))), (1, iV (x1))]) C dX6_cutFlaws_21 (by decide) rfl ?_
  refine XG.sub [2, 1, 0] rfl ?_
  exact L_X6_cutFlaws_23 C hdm hA hR0 hce hR h0 _ _ _ _ hq
set_option maxRecDepth 100000 in
set_option maxHeartbeats 4000000 in
theorem L_X6_cutFlaws {g : Cx} {d : Dl} (C : CX g cX6_cutFlaws 5 none RX6) (hdm : g.dm = 0) (hA : ∀ q : Nat, g.s.heap.size ≤ q → g.A q) (hR0 : g.R = rmv 1 22 0 0) (hce : d.ce ≤ g.R.cells ∧ d.so ≤ g.R.slots) {res : Wd} (hR : rtV g d cX6_cutFlaws res) {o0 : Nat} (h0 : isK d.na g.dm 7 o0) (x1 : Int) (x2 : Int) (w : Wd) (hq : p_X6_cutFlaws o0 x1 x2 w = some res) : XG g d (hP g d w) [(0, .ref (d.ad (o0))), (1, iV (x1)), (2, iV (x2))] [] 0 := by
  refine x_iload_n C 2 dX6_cutFlaws_0 rfl ?_
  refine x_if_eq (tgt := 8) C dX6_cutFlaws_1 (by decide) hq (fun hq => ?_) (fun hq => ?_)
  · refine x_iconst C dX6_cutFlaws_8 ?_
    refine XG.sub [0, 1] rfl ?_
    exact L_X6_cutFlaws_9 C hdm hA hR0 hce hR h0 _ _ _ hq
  · refine x_iload_n C 1 dX6_cutFlaws_4 rfl ?_
    refine x_goto (tgt := 9) C dX6_cutFlaws_5 (by decide) ?_
    refine XG.sub [0, 1] rfl ?_
    exact L_X6_cutFlaws_9 C hdm hA hR0 hce hR h0 _ _ _ hq
set_option maxRecDepth 100000 in
set_option maxHeartbeats 4000000 in
theorem c_X6_cutFlaws (l : Launch) (G : Gd) {dm na : Nat} {ad : Nat → Nat} (hdm : dm = 0) {o0 : Nat} {x1 : Int} {x2 : Int} {w w' : Wd}  (h0 : isK na dm 7 o0) (hq : p_X6_cutFlaws o0 x1 x2 w = some w') : mV l yX6_cutFlaws cX6_cutFlaws 5 none (rmv 1 22 0 0) G dm na ad [.ref (ad (o0)), iV (x1), iV (x2)] w w' := by
  refine met_V [(0, .ref (ad (o0))), (1, iV (x1)), (2, iV (x2))] (by decide) (Nat.le_of_ble_eq_true rfl) rfl rfl (fun g d C S hR => ?_)
  obtain ⟨rfl, hR0, rfl, rfl, rfl, hA⟩ := S
  exact L_X6_cutFlaws (d := (na, ad, 0, 0)) C hdm hA hR0 ⟨Nat.zero_le _, Nat.zero_le _⟩ hR h0 _ _ w hq
set_option maxRecDepth 100000 in
set_option maxHeartbeats 4000000 in
theorem L_X8_cutRows_48 {g : Cx} {d : Dl} (C : CX g cX8_cutRows 3 (some .int) RX8) (hdm : g.dm = 0) (hA : ∀ q : Nat, g.s.heap.size ≤ q → g.A q) (hR0 : g.R = rmv 7 139 13 840) (hce : d.ce + 13 ≤ 13 ∧ d.so + 840 ≤ 840) {na0 : Nat} {ad0 : Nat → Nat} {res : Rz} (hT : thC g na0 ad0 13 840 res) (hR : RGI g na0 ad0 cX8_cutRows .int 13 840 res) (hag : AG na0 ad0 d) (x1 : Int) (x2 : Int) (w : Wd) (hq : p_X8_cutRows_48 x1 x2 d.na w = some res) : XG g d (hP g d w) [(0, .ref (d.ad (1))), (1, iV (x1)), (2, iV (x2))] [] 48 := by
  refine x_aload_n C 0 dX8_cutRows_48 rfl ?_
  refine x_getr (K := 9) (k := 6) (o2 := 116) C (isK_lit hdm rfl rfl) (by decide) cl_X8 (by decide) ⟨rfl, rfl, rfl⟩ fl_X8_53 rfl dX8_cutRows_49 ?_
  refine x_aload_n C 0 dX8_cutRows_52 rfl ?_
  refine x_getr (K := 9) (k := 4) (o2 := 100) C (isK_lit hdm rfl rfl) (by decide) cl_X8 (by decide) ⟨rfl, rfl, rfl⟩ fl_X8_42 rfl dX8_cutRows_53 ?_
  refine x_callVv (K := 7) (rm := rmv 2 44 0 0) (As := [.ref (d.ad (100))]) (rest := []) C hA hR0 mf_X6_copy lk_X8_241 rfl (isK_lit hdm rfl rfl) (by decide) ⟨rfl, rfl⟩ ⟨Nat.le_of_ble_eq_true rfl, Nat.le_of_ble_eq_true rfl⟩ rfl rfl (Nat.le_of_ble_eq_true rfl) (gce hR0 hce) dX8_cutRows_56 hq (fun _ h => c_X6_copy g.l g.G hdm (isK_lit hdm rfl rfl) (isK_lit hdm rfl rfl) h) (fun w1 _ hq => ?_)
  refine x_aload_n C 0 dX8_cutRows_59 rfl ?_
  refine x_getr (K := 9) (k := 6) (o2 := 116) C (isK_lit hdm rfl rfl) (by decide) cl_X8 (by decide) ⟨rfl, rfl, rfl⟩ fl_X8_53 rfl dX8_cutRows_60 ?_
  refine x_iload_n C 1 dX8_cutRows_63 rfl ?_
  refine x_iload_n C 2 dX8_cutRows_64 rfl ?_
  refine x_callVv (K := 7) (rm := rmv 1 22 0 0) (As := [iV (x1), iV (x2)]) (rest := []) C hA hR0 mf_X6_cutFlaws lk_X8_281 rfl (isK_lit hdm rfl rfl) (by decide) ⟨rfl, rfl⟩ ⟨Nat.le_of_ble_eq_true rfl, Nat.le_of_ble_eq_true rfl⟩ rfl rfl (Nat.le_of_ble_eq_true rfl) (gce hR0 hce) dX8_cutRows_65 hq (fun _ h => c_X6_cutFlaws g.l g.G hdm (isK_lit hdm rfl rfl) h) (fun w2 _ hq => ?_)
  refine x_aload_n C 0 dX8_cutRows_68 rfl ?_
  refine x_gcallV (K := 9) (rm := rmv 6 109 1 6) (mc' := 1) (ms' := 6) (As := []) (rest := []) C hA hR0 mf_X8_needCarvedStay lk_X8_278 rfl (isK_lit hdm rfl rfl) (by decide) ⟨rfl, rfl⟩ ⟨Nat.le_of_ble_eq_true rfl, Nat.le_of_ble_eq_true rfl⟩ rfl rfl (Nat.le_of_ble_eq_true rfl) (gcc hR0 hce (by decide) (by decide)).1 hag (gcc hR0 hce (by decide) (by decide)).2 dX8_cutRows_69 hR.2 hq (fun _ h => c_X8_needCarvedStay g.l g.G hT.2.1 hdm  h) (fun r3 d6 w5 g7 hc1 hc2 hq => ?_)
  try rw [agr g7 (K := 9) (isK_lit hdm rfl rfl) (by decide)]
  have hag := hag.trans g7
  have hce : d6.ce + 12 ≤ 13 ∧ d6.so + 834 ≤ 840 := ⟨by omega, by omega⟩
  refine x_aload_n C 0 dX8_cutRows_72 rfl ?_
  refine x_gcallV (K := 9) (rm := rmv 5 119 12 834) (mc' := 12) (ms' := 834) (As := []) (rest := []) C hA hR0 mf_X8_settle lk_X8_94 rfl (isK_lit hdm rfl rfl) (by decide) ⟨rfl, rfl⟩ ⟨Nat.le_of_ble_eq_true rfl, Nat.le_of_ble_eq_true rfl⟩ rfl rfl (Nat.le_of_ble_eq_true rfl) (gcc hR0 hce (by decide) (by decide)).1 hag (gcc hR0 hce (by decide) (by decide)).2 dX8_cutRows_73 hR.2 hq (fun _ h => c_X8_settle g.l g.G hT.2.1 hdm  h) (fun r8 d11 w10 g12 hc1 hc2 hq => ?_)
  try rw [agr g12 (K := 9) (isK_lit hdm rfl rfl) (by decide)]
  have hag := hag.trans g12
  have hce : d11.ce + 0 ≤ 13 ∧ d11.so + 0 ≤ 840 := ⟨by omega, by omega⟩
  refine x_aload_n C 0 dX8_cutRows_76 rfl ?_
  refine x_getr (K := 9) (k := 5) (o2 := 10) C (isK_lit hdm rfl rfl) (by decide) cl_X8 (by decide) ⟨rfl, rfl, rfl⟩ fl_X8_49 rfl dX8_cutRows_77 ?_
  refine x_get (K := 3) (k := 4) C (isK_lit hdm rfl rfl) (by decide) cl_X2 (by decide) ⟨rfl, rfl, rfl⟩ fl_X8_97 dX8_cutRows_80 ?_
  exact hR.1 _ _ _ _ _ hag (gcd hce) hq rfl dX8_cutRows_83
set_option maxRecDepth 100000 in
set_option maxHeartbeats 4000000 in
theorem L_X8_cutRows_18 {g : Cx} {d : Dl} (C : CX g cX8_cutRows 3 (some .int) RX8) (hdm : g.dm = 0) (hA : ∀ q : Nat, g.s.heap.size ≤ q → g.A q) (hR0 : g.R = rmv 7 139 13 840) (hce : d.ce + 1 ≤ 13 ∧ d.so + 6 ≤ 840) {na0 : Nat} {ad0 : Nat → Nat} {res : Rz} (hT : thC g na0 ad0 13 840 res) (hR : RGI g na0 ad0 cX8_cutRows .int 13 840 res) (hag : AG na0 ad0 d)  (w : Wd) (hq : p_X8_cutRows_18 d.na w = some res) : XG g d (hP g d w) [] [] 18 := by
  exact x_gthrow C hT hR0 th2 hag (gcc hR0 hce (by decide) (by decide)).2 ⟨rfl, rfl⟩ ⟨Nat.le_of_ble_eq_true rfl, Nat.le_of_ble_eq_true rfl⟩ hq dX8_cutRows_18 dX8_cutRows_21 dX8_cutRows_22 dX8_cutRows_25
set_option maxRecDepth 100000 in
set_option maxHeartbeats 4000000 in
theorem L_X8_cutRows {g : Cx} {d : Dl} (C : CX g cX8_cutRows 3 (some .int) RX8) (hdm : g.dm = 0) (hA : ∀ q : Nat, g.s.heap.size ≤ q → g.A q) (hR0 : g.R = rmv 7 139 13 840) (hce : d.ce + 13 ≤ 13 ∧ d.so + 840 ≤ 840) {na0 : Nat} {ad0 : Nat → Nat} {res : Rz} (hT : thC g na0 ad0 13 840 res) (hR : RGI g na0 ad0 cX8_cutRows .int 13 840 res) (hag : AG na0 ad0 d) (x1 : Int) (x2 : Int) (w : Wd) (hq : p_X8_cutRows x1 x2 d.na w = some res) : XG g d (hP g d w) [(0, .ref (d.ad (1))), (1, iV (x1)), (2, iV (x2))] [] 0 := by
  refine x_iload_n C 1 dX8_cutRows_0 rfl ?_
  refine x_iconst C dX8_cutRows_1 ?_
  refine x_icmp_lt (tgt := 18) C dX8_cutRows_2 (by decide) hq (fun hq => ?_) (fun hq => ?_)
  · refine XG.sub [] rfl ?_
    have hce : d.ce + 1 ≤ 13 ∧ d.so + 6 ≤ 840 := ⟨by omega, by omega⟩
    exact L_X8_cutRows_18 C hdm hA hR0 hce hT hR hag _ hq
  · refine x_iload_n C 1 dX8_cutRows_5 rfl ?_
    refine x_aload_n C 0 dX8_cutRows_6 rfl ?_
    refine x_getr (K := 9) (k := 4) (o2 := 100) C (isK_lit hdm rfl rfl) (by decide) cl_X8 (by decide) ⟨rfl, rfl, rfl⟩ fl_X8_42 rfl dX8_cutRows_7 ?_
    refine x_get (K := 7) (k := 1) C (isK_lit hdm rfl rfl) (by decide) cl_X6 (by decide) ⟨rfl, rfl, rfl⟩ fl_X8_109 dX8_cutRows_10 ?_
    refine x_iconst C dX8_cutRows_13 ?_
    refine x_isub C dX8_cutRows_14 ?_
    refine x_icmp_le (tgt := 26) C dX8_cutRows_15 (by decide) hq (fun hq => ?_) (fun hq => ?_)
    · refine x_iload_n C 2 dX8_cutRows_26 rfl ?_
      refine x_if_eq (tgt := 48) C dX8_cutRows_27 (by decide) hq (fun hq => ?_) (fun hq => ?_)
      · exact L_X8_cutRows_48 C hdm hA hR0 hce hT hR hag _ _ _ hq
      · refine x_aload_n C 0 dX8_cutRows_30 rfl ?_
        refine x_getr (K := 9) (k := 4) (o2 := 100) C (isK_lit hdm rfl rfl) (by decide) cl_X8 (by decide) ⟨rfl, rfl, rfl⟩ fl_X8_42 rfl dX8_cutRows_31 ?_
        refine x_get (K := 7) (k := 11) C (isK_lit hdm rfl rfl) (by decide) cl_X6 (by decide) ⟨rfl, rfl, rfl⟩ fl_X8_128 dX8_cutRows_34 ?_
        refine x_if_le (tgt := 48) C dX8_cutRows_37 (by decide) hq (fun hq => ?_) (fun hq => ?_)
        · exact L_X8_cutRows_48 C hdm hA hR0 hce hT hR hag _ _ _ hq
        · exact x_gthrow C hT hR0 th1 hag (gcc hR0 hce (by decide) (by decide)).2 ⟨rfl, rfl⟩ ⟨Nat.le_of_ble_eq_true rfl, Nat.le_of_ble_eq_true rfl⟩ hq dX8_cutRows_40 dX8_cutRows_43 dX8_cutRows_44 dX8_cutRows_47
    · refine XG.sub [] rfl ?_
      have hce : d.ce + 1 ≤ 13 ∧ d.so + 6 ≤ 840 := ⟨by omega, by omega⟩
      exact L_X8_cutRows_18 C hdm hA hR0 hce hT hR hag _ hq
set_option maxRecDepth 100000 in
set_option maxHeartbeats 4000000 in
theorem c_X8_cutRows (l : Launch) (G : Gd) (hfl : l.stackTraces = false) {dm na : Nat} {ad : Nat → Nat} (hdm : dm = 0) {x1 : Int} {x2 : Int} {w : Wd} {res : Rz}  (hq : p_X8_cutRows x1 x2 na w = some res) : mGI l yX8_cutRows cX8_cutRows 3 (some .int) (rmv 7 139 13 840) G dm na ad [.ref (ad (1)), iV (x1), iV (x2)] w res 13 840 := by
  refine met_GI hfl [(0, .ref (ad (1))), (1, iV (x1)), (2, iV (x2))] (by decide) (Nat.le_of_ble_eq_true rfl) rfl .int rfl (fun g d C S hT hR => ?_)
  obtain ⟨rfl, hR0, rfl, rfl, rfl, hA⟩ := S
  exact L_X8_cutRows (d := (na, ad, 0, 0)) C hdm hA hR0 ⟨Nat.le_of_ble_eq_true rfl, Nat.le_of_ble_eq_true rfl⟩ hT hR (AG.rf (na, ad, 0, 0))  _ _ w hq
set_option maxRecDepth 100000 in
set_option maxHeartbeats 4000000 in
theorem L_X1_hone {g : Cx} {d : Dl} (C : CX g cX1_hone 1 none RX1) (hdm : g.dm = 0) (hA : ∀ q : Nat, g.s.heap.size ≤ q → g.A q) (hR0 : g.R = rmv 0 0 0 0) (hce : d.ce ≤ g.R.cells ∧ d.so ≤ g.R.slots) {res : Wd} (hR : rtV g d cX1_hone res) {o0 : Nat} (h0 : isK d.na g.dm 2 o0)  (w : Wd) (hq : p_X1_hone o0 w = some res) : XG g d (hP g d w) [(0, .ref (d.ad (o0)))] [] 0 := by
  refine x_aload_n C 0 dX1_hone_0 rfl ?_
  refine x_aload_n C 0 dX1_hone_1 rfl ?_
  refine x_get (K := 2) (k := 0) C h0 (by decide) cl_X1 (by decide) ⟨rfl, rfl, rfl⟩ fl_X1_9 dX1_hone_2 ?_
  refine x_put (K := 2) (k := 2) C h0 (by decide) cl_X1 (by decide) ⟨rfl, rfl, rfl, rfl⟩ fl_X1_18 ⟨rfl, rfl⟩ dX1_hone_5 ?_
  refine x_aload_n C 0 dX1_hone_8 rfl ?_
  refine x_dup C rfl dX1_hone_9 ?_
  refine x_get (K := 2) (k := 3) C h0 (by decide) cl_X1 (by decide) ⟨rfl, rfl, rfl⟩ fl_X1_21 dX1_hone_10 ?_
  refine x_aload_n C 0 dX1_hone_13 rfl ?_
  refine x_get (K := 2) (k := 1) C h0 (by decide) cl_X1 (by decide) ⟨rfl, rfl, rfl⟩ fl_X1_15 dX1_hone_14 ?_
  refine x_iadd C dX1_hone_17 ?_
  refine x_put (K := 2) (k := 3) C h0 (by decide) cl_X1 (by decide) ⟨rfl, rfl, rfl, rfl⟩ fl_X1_21 ⟨rfl, rfl⟩ dX1_hone_18 ?_
  refine nmW hq (fun w1 ew1 hq => ?_)
  rw [← ew1]
  refine x_aload_n C 0 dX1_hone_21 rfl ?_
  refine x_dup C rfl dX1_hone_22 ?_
  refine x_get (K := 2) (k := 4) C h0 (by decide) cl_X1 (by decide) ⟨rfl, rfl, rfl⟩ fl_X1_24 dX1_hone_23 ?_
  refine x_iconst C dX1_hone_26 ?_
  refine x_iadd C dX1_hone_27 ?_
  refine x_put (K := 2) (k := 4) C h0 (by decide) cl_X1 (by decide) ⟨rfl, rfl, rfl, rfl⟩ fl_X1_24 ⟨rfl, rfl⟩ dX1_hone_28 ?_
  exact hR _ _ _ hq dX1_hone_31
set_option maxRecDepth 100000 in
set_option maxHeartbeats 4000000 in
theorem c_X1_hone (l : Launch) (G : Gd) {dm na : Nat} {ad : Nat → Nat} (hdm : dm = 0) {o0 : Nat} {w w' : Wd}  (h0 : isK na dm 2 o0) (hq : p_X1_hone o0 w = some w') : mV l yX1_hone cX1_hone 1 none (rmv 0 0 0 0) G dm na ad [.ref (ad (o0))] w w' := by
  refine met_V [(0, .ref (ad (o0)))] (by decide) (Nat.le_of_ble_eq_true rfl) rfl rfl (fun g d C S hR => ?_)
  obtain ⟨rfl, hR0, rfl, rfl, rfl, hA⟩ := S
  exact L_X1_hone (d := (na, ad, 0, 0)) C hdm hA hR0 ⟨Nat.zero_le _, Nat.zero_le _⟩ hR h0  w hq
set_option maxRecDepth 100000 in
set_option maxHeartbeats 4000000 in
theorem L_X1_cut_23 {g : Cx} {d : Dl} (C : CX g cX1_cut 2 none RX1) (hdm : g.dm = 0) (hA : ∀ q : Nat, g.s.heap.size ≤ q → g.A q) (hR0 : g.R = rmv 1 21 0 0) (hce : d.ce ≤ g.R.cells ∧ d.so ≤ g.R.slots) {res : Wd} (hR : rtV g d cX1_cut res) {o0 : Nat} (h0 : isK d.na g.dm 2 o0) (x1 : Int) (w : Wd) (hq : p_X1_cut_23 o0 x1 w = some res) : XG g d (hP g d w) [(0, .ref (d.ad (o0))), (1, iV (x1))] [] 23 := by
  refine x_aload_n C 0 dX1_cut_23 rfl ?_
  refine x_dup C rfl dX1_cut_24 ?_
  refine x_get (K := 2) (k := 3) C h0 (by decide) cl_X1 (by decide) ⟨rfl, rfl, rfl⟩ fl_X1_21 dX1_cut_25 ?_
  refine x_iload_n C 1 dX1_cut_28 rfl ?_
  refine x_iadd C dX1_cut_29 ?_
  refine x_put (K := 2) (k := 3) C h0 (by decide) cl_X1 (by decide) ⟨rfl, rfl, rfl, rfl⟩ fl_X1_21 ⟨rfl, rfl⟩ dX1_cut_30 ?_
  refine x_aload_n C 0 dX1_cut_33 rfl ?_
  refine x_iconst C dX1_cut_34 ?_
  refine x_aload_n C 0 dX1_cut_35 rfl ?_
  refine x_get (K := 2) (k := 2) C h0 (by decide) cl_X1 (by decide) ⟨rfl, rfl, rfl⟩ fl_X1_18 dX1_cut_36 ?_
  refine x_iload_n C 1 dX1_cut_39 rfl ?_
  refine x_isub C dX1_cut_40 ?_
  refine x_max C hR0 lk_X1_30 jm_max_s jm_i jm_max_c ⟨Nat.le_of_ble_eq_true rfl, Nat.le_of_ble_eq_true rfl⟩ hce dX1_cut_41 ?_
  refine x_put (K := 2) (k := 2) C h0 (by decide) cl_X1 (by decide) ⟨rfl, rfl, rfl, rfl⟩ fl_X1_18 ⟨rfl, rfl⟩ dX1_cut_44 ?_
  refine nmW hq (fun w1 ew1 hq => ?_)
  rw [← ew1]
  exact hR _ _ _ hq dX1_cut_47
set_option maxRecDepth 100000 in
set_option maxHeartbeats 4000000 in
theorem L_X1_cut {g : Cx} {d : Dl} (C : CX g cX1_cut 2 none RX1) (hdm : g.dm = 0) (hA : ∀ q : Nat, g.s.heap.size ≤ q → g.A q) (hR0 : g.R = rmv 1 21 0 0) (hce : d.ce ≤ g.R.cells ∧ d.so ≤ g.R.slots) {res : Wd} (hR : rtV g d cX1_cut res) {o0 : Nat} (h0 : isK d.na g.dm 2 o0) (x1 : Int) (w : Wd) (hq : p_X1_cut o0 x1 w = some res) : XG g d (hP g d w) [(0, .ref (d.ad (o0))), (1, iV (x1))] [] 0 := by
  refine x_aload_n C 0 dX1_cut_0 rfl ?_
  refine x_get (K := 2) (k := 2) C h0 (by decide) cl_X1 (by decide) ⟨rfl, rfl, rfl⟩ fl_X1_18 dX1_cut_1 ?_
  refine x_iload_n C 1 dX1_cut_4 rfl ?_
  refine x_icmp_ge (tgt := 23) C dX1_cut_5 (by decide) hq (fun hq => ?_) (fun hq => ?_)
  · exact L_X1_cut_23 C hdm hA hR0 hce hR h0 _ _ hq
  · refine x_aload_n C 0 dX1_cut_8 rfl ?_
    refine x_get (K := 2) (k := 2) C h0 (by decide) cl_X1 (by decide) ⟨rfl, rfl, rfl⟩ fl_X1_18 dX1_cut_9 ?_
    refine x_aload_n C 0 dX1_cut_12 rfl ?_
    refine x_get (K := 2) (k := 0) C h0 (by decide) cl_X1 (by decide) ⟨rfl, rfl, rfl⟩ fl_X1_9 dX1_cut_13 ?_
    refine x_icmp_ge (tgt := 23) C dX1_cut_16 (by decide) hq (fun hq => ?_) (fun hq => ?_)
    · exact L_X1_cut_23 C hdm hA hR0 hce hR h0 _ _ hq
    · refine x_aload_n C 0 dX1_cut_19 rfl ?_
      refine x_callVv (K := 2) (rm := rmv 0 0 0 0) (As := []) (rest := []) C hA hR0 mf_X1_hone lk_X1_27 rfl h0 (by decide) ⟨rfl, rfl⟩ ⟨Nat.le_of_ble_eq_true rfl, Nat.le_of_ble_eq_true rfl⟩ rfl rfl (Nat.le_of_ble_eq_true rfl) hce dX1_cut_20 hq (fun _ h => c_X1_hone g.l g.G hdm h0 h) (fun w1 _ hq => ?_)
      exact L_X1_cut_23 C hdm hA hR0 hce hR h0 _ _ hq
set_option maxRecDepth 100000 in
set_option maxHeartbeats 4000000 in
theorem c_X1_cut (l : Launch) (G : Gd) {dm na : Nat} {ad : Nat → Nat} (hdm : dm = 0) {o0 : Nat} {x1 : Int} {w w' : Wd}  (h0 : isK na dm 2 o0) (hq : p_X1_cut o0 x1 w = some w') : mV l yX1_cut cX1_cut 2 none (rmv 1 21 0 0) G dm na ad [.ref (ad (o0)), iV (x1)] w w' := by
  refine met_V [(0, .ref (ad (o0))), (1, iV (x1))] (by decide) (Nat.le_of_ble_eq_true rfl) rfl rfl (fun g d C S hR => ?_)
  obtain ⟨rfl, hR0, rfl, rfl, rfl, hA⟩ := S
  exact L_X1_cut (d := (na, ad, 0, 0)) C hdm hA hR0 ⟨Nat.zero_le _, Nat.zero_le _⟩ hR h0 _ w hq
set_option maxRecDepth 100000 in
set_option maxHeartbeats 4000000 in
theorem L_X8_carve_105 {g : Cx} {d : Dl} (C : CX g cX8_carve 5 (some .int) RX8) (hdm : g.dm = 0) (hA : ∀ q : Nat, g.s.heap.size ≤ q → g.A q) (hR0 : g.R = rmv 6 139 12 834) (hce : d.ce + 12 ≤ 12 ∧ d.so + 834 ≤ 834) {na0 : Nat} {ad0 : Nat → Nat} {res : Rz} (hT : thC g na0 ad0 12 834 res) (hR : RGI g na0 ad0 cX8_carve .int 12 834 res) (hag : AG na0 ad0 d) (x2 : Int) (x3 : Int) (w : Wd) (hq : p_X8_carve_105 x2 x3 d.na w = some res) : XG g d (hP g d w) [(0, .ref (d.ad (1))), (2, iV (x2)), (3, iV (x3))] [] 105 := by
  refine x_aload_n C 0 dX8_carve_105 rfl ?_
  refine x_getr (K := 9) (k := 6) (o2 := 116) C (isK_lit hdm rfl rfl) (by decide) cl_X8 (by decide) ⟨rfl, rfl, rfl⟩ fl_X8_53 rfl dX8_carve_106 ?_
  refine x_iload_n C 2 dX8_carve_109 rfl ?_
  refine x_put (K := 7) (k := 11) C (isK_lit hdm rfl rfl) (by decide) cl_X6 (by decide) ⟨rfl, rfl, rfl, rfl⟩ fl_X8_128 ⟨rfl, rfl⟩ dX8_carve_110 ?_
  refine x_aload_n C 0 dX8_carve_113 rfl ?_
  refine x_gcallV (K := 9) (rm := rmv 5 119 12 834) (mc' := 12) (ms' := 834) (As := []) (rest := []) C hA hR0 mf_X8_settle lk_X8_94 rfl (isK_lit hdm rfl rfl) (by decide) ⟨rfl, rfl⟩ ⟨Nat.le_of_ble_eq_true rfl, Nat.le_of_ble_eq_true rfl⟩ rfl rfl (Nat.le_of_ble_eq_true rfl) (gcc hR0 hce (by decide) (by decide)).1 hag (gcc hR0 hce (by decide) (by decide)).2 dX8_carve_114 hR.2 hq (fun _ h => c_X8_settle g.l g.G hT.2.1 hdm  h) (fun r1 d4 w3 g5 hc1 hc2 hq => ?_)
  try rw [agr g5 (K := 9) (isK_lit hdm rfl rfl) (by decide)]
  have hag := hag.trans g5
  have hce : d4.ce + 0 ≤ 12 ∧ d4.so + 0 ≤ 834 := ⟨by omega, by omega⟩
  refine x_aload_n C 0 dX8_carve_117 rfl ?_
  refine x_getr (K := 9) (k := 4) (o2 := 100) C (isK_lit hdm rfl rfl) (by decide) cl_X8 (by decide) ⟨rfl, rfl, rfl⟩ fl_X8_42 rfl dX8_carve_118 ?_
  refine x_getr (K := 7) (k := 10) (o2 := 111) C (isK_lit hdm rfl rfl) (by decide) cl_X6 (by decide) ⟨rfl, rfl, rfl⟩ fl_X8_131 rfl dX8_carve_121 ?_
  refine x_get (K := 2) (k := 3) C (isK_lit hdm rfl rfl) (by decide) cl_X1 (by decide) ⟨rfl, rfl, rfl⟩ fl_X8_143 dX8_carve_124 ?_
  refine x_iload_n C 1 dX8_carve_127 rfl ?_
  refine x_isub C dX8_carve_128 ?_
  exact hR.1 _ _ _ _ _ hag (gcd hce) hq rfl dX8_carve_129
set_option maxRecDepth 100000 in
set_option maxHeartbeats 4000000 in
theorem L_X8_carve_71 {g : Cx} {d : Dl} (C : CX g cX8_carve 5 (some .int) RX8) (hdm : g.dm = 0) (hA : ∀ q : Nat, g.s.heap.size ≤ q → g.A q) (hR0 : g.R = rmv 6 139 12 834) (hce : d.ce + 12 ≤ 12 ∧ d.so + 834 ≤ 834) {na0 : Nat} {ad0 : Nat → Nat} {res : Rz} (hT : thC g na0 ad0 12 834 res) (hR : RGI g na0 ad0 cX8_carve .int 12 834 res) (hag : AG na0 ad0 d) : ∀ (n : Nat) (x2 : Int) (x3 : Int) (x4 : Int) (w : Wd), p_X8_carve_71 n x2 x3 x4 d.na w = some res → XG g d (hP g d w) [(0, .ref (d.ad (1))), (2, iV (x2)), (3, iV (x3)), (4, iV (x4))] [] 71 := by
  intro n
  induction n with
  | zero => intro x2 x3 x4 w  hq; exact nomatch (show none = some _ from hq)
  | succ n ih =>
    intro x2 x3 x4 w  hq
    refine x_iload C 3 dX8_carve_71 rfl ?_
    refine x_iload_n C 2 dX8_carve_73 rfl ?_
    refine x_icmp_ge (tgt := 105) C dX8_carve_74 (by decide) hq (fun hq => ?_) (fun hq => ?_)
    · refine XG.sub [0, 1, 2] rfl ?_
      exact L_X8_carve_105 C hdm hA hR0 hce hT hR hag _ _ _ hq
    · refine x_aload_n C 0 dX8_carve_77 rfl ?_
      refine x_getr (K := 9) (k := 6) (o2 := 116) C (isK_lit hdm rfl rfl) (by decide) cl_X8 (by decide) ⟨rfl, rfl, rfl⟩ fl_X8_53 rfl dX8_carve_78 ?_
      refine x_getr (K := 7) (k := 10) (o2 := 127) C (isK_lit hdm rfl rfl) (by decide) cl_X6 (by decide) ⟨rfl, rfl, rfl⟩ fl_X8_131 rfl dX8_carve_81 ?_
      refine x_aload_n C 0 dX8_carve_84 rfl ?_
      refine x_getr (K := 9) (k := 5) (o2 := 10) C (isK_lit hdm rfl rfl) (by decide) cl_X8 (by decide) ⟨rfl, rfl, rfl⟩ fl_X8_49 rfl dX8_carve_85 ?_
      refine x_getr (K := 3) (k := 3) (o2 := 17) C (isK_lit hdm rfl rfl) (by decide) cl_X2 (by decide) ⟨rfl, rfl, rfl⟩ fl_X8_229 rfl dX8_carve_88 ?_
      refine x_iload C 3 dX8_carve_91 rfl ?_
      refine x_callVi (K := 6) (rm := rmv 0 0 0 0) (As := [iV (x4)]) (rest := [.ref (d.ad (127))]) C hA hR0 mf_X5_at lk_X8_160 rfl (isK_lit hdm rfl rfl) (by decide) ⟨rfl, rfl⟩ ⟨Nat.le_of_ble_eq_true rfl, Nat.le_of_ble_eq_true rfl⟩ rfl rfl (Nat.le_of_ble_eq_true rfl) (gce hR0 hce) dX8_carve_93 hq (fun _ _ h => c_X5_at g.l g.G hdm (isK_lit hdm rfl rfl) h) (fun r2 w1 _ hq => ?_)
      refine x_callVv (K := 2) (rm := rmv 1 21 0 0) (As := [iV (r2)]) (rest := []) C hA hR0 mf_X1_cut lk_X8_232 rfl (isK_lit hdm rfl rfl) (by decide) ⟨rfl, rfl⟩ ⟨Nat.le_of_ble_eq_true rfl, Nat.le_of_ble_eq_true rfl⟩ rfl rfl (Nat.le_of_ble_eq_true rfl) (gce hR0 hce) dX8_carve_96 hq (fun _ h => c_X1_cut g.l g.G hdm (isK_lit hdm rfl rfl) h) (fun w3 _ hq => ?_)
      refine x_iinc (lv' := [(4, iV (x4 + 1)), (0, .ref (d.ad (1))), (2, iV (x2)), (3, iV (x3))]) C 3 dX8_carve_99 rfl (by decide) rfl ?_
      refine x_goto (tgt := 71) C dX8_carve_102 (by decide) ?_
      refine XG.sub [1, 2, 3, 0] rfl ?_
      exact ih _ _ _ _ hq
set_option maxRecDepth 100000 in
set_option maxHeartbeats 4000000 in
theorem L_X8_carve_12 {g : Cx} {d : Dl} (C : CX g cX8_carve 5 (some .int) RX8) (hdm : g.dm = 0) (hA : ∀ q : Nat, g.s.heap.size ≤ q → g.A q) (hR0 : g.R = rmv 6 139 12 834) (hce : d.ce + 1 ≤ 12 ∧ d.so + 6 ≤ 834) {na0 : Nat} {ad0 : Nat → Nat} {res : Rz} (hT : thC g na0 ad0 12 834 res) (hR : RGI g na0 ad0 cX8_carve .int 12 834 res) (hag : AG na0 ad0 d)  (w : Wd) (hq : p_X8_carve_12 d.na w = some res) : XG g d (hP g d w) [] [] 12 := by
  exact x_gthrow C hT hR0 th2 hag (gcc hR0 hce (by decide) (by decide)).2 ⟨rfl, rfl⟩ ⟨Nat.le_of_ble_eq_true rfl, Nat.le_of_ble_eq_true rfl⟩ hq dX8_carve_12 dX8_carve_15 dX8_carve_16 dX8_carve_19
set_option maxRecDepth 100000 in
set_option maxHeartbeats 4000000 in
theorem L_X8_carve {g : Cx} {d : Dl} (C : CX g cX8_carve 5 (some .int) RX8) (hdm : g.dm = 0) (hA : ∀ q : Nat, g.s.heap.size ≤ q → g.A q) (hR0 : g.R = rmv 6 139 12 834) (hce : d.ce + 12 ≤ 12 ∧ d.so + 834 ≤ 834) {na0 : Nat} {ad0 : Nat → Nat} {res : Rz} (hT : thC g na0 ad0 12 834 res) (hR : RGI g na0 ad0 cX8_carve .int 12 834 res) (hag : AG na0 ad0 d) (x1 : Int) (w : Wd) (hq : p_X8_carve x1 d.na w = some res) : XG g d (hP g d w) [(0, .ref (d.ad (1))), (1, iV (x1))] [] 0 := by
  refine x_iload_n C 1 dX8_carve_0 rfl ?_
  refine x_iconst C dX8_carve_1 ?_
  refine x_icmp_lt (tgt := 12) C dX8_carve_2 (by decide) hq (fun hq => ?_) (fun hq => ?_)
  · refine XG.sub [] rfl ?_
    have hce : d.ce + 1 ≤ 12 ∧ d.so + 6 ≤ 834 := ⟨by omega, by omega⟩
    exact L_X8_carve_12 C hdm hA hR0 hce hT hR hag _ hq
  · refine x_iload_n C 1 dX8_carve_5 rfl ?_
    refine x_sipush (v := 300) C dX8_carve_6 (by decide +kernel) ?_
    refine x_icmp_le (tgt := 20) C dX8_carve_9 (by decide) hq (fun hq => ?_) (fun hq => ?_)
    · refine x_aload_n C 0 dX8_carve_20 rfl ?_
      refine x_getr (K := 9) (k := 4) (o2 := 100) C (isK_lit hdm rfl rfl) (by decide) cl_X8 (by decide) ⟨rfl, rfl, rfl⟩ fl_X8_42 rfl dX8_carve_21 ?_
      refine x_getr (K := 7) (k := 10) (o2 := 111) C (isK_lit hdm rfl rfl) (by decide) cl_X6 (by decide) ⟨rfl, rfl, rfl⟩ fl_X8_131 rfl dX8_carve_24 ?_
      refine x_get (K := 2) (k := 3) C (isK_lit hdm rfl rfl) (by decide) cl_X1 (by decide) ⟨rfl, rfl, rfl⟩ fl_X8_143 dX8_carve_27 ?_
      refine x_istore_n (lv' := [(2, iV (gF w 111 3)), (0, .ref (d.ad (1))), (1, iV (x1))]) C dX8_carve_30 (by decide) rfl ?_
      refine x_aload_n C 1 dX8_carve_31 rfl ?_
      refine x_getr (K := 9) (k := 4) (o2 := 100) C (isK_lit hdm rfl rfl) (by decide) cl_X8 (by decide) ⟨rfl, rfl, rfl⟩ fl_X8_42 rfl dX8_carve_32 ?_
      refine x_get (K := 7) (k := 11) C (isK_lit hdm rfl rfl) (by decide) cl_X6 (by decide) ⟨rfl, rfl, rfl⟩ fl_X8_128 dX8_carve_35 ?_
      refine x_iload_n C 2 dX8_carve_38 rfl ?_
      refine x_iadd C dX8_carve_39 ?_
      refine x_aload_n C 1 dX8_carve_40 rfl ?_
      refine x_getr (K := 9) (k := 5) (o2 := 10) C (isK_lit hdm rfl rfl) (by decide) cl_X8 (by decide) ⟨rfl, rfl, rfl⟩ fl_X8_49 rfl dX8_carve_41 ?_
      refine x_get (K := 3) (k := 5) C (isK_lit hdm rfl rfl) (by decide) cl_X2 (by decide) ⟨rfl, rfl, rfl⟩ fl_X8_125 dX8_carve_44 ?_
      refine x_min C hR0 lk_X8_165 jm_min_s jm_i jm_min_c ⟨Nat.le_of_ble_eq_true rfl, Nat.le_of_ble_eq_true rfl⟩ (gce hR0 hce) dX8_carve_47 ?_
      refine x_istore_n (lv' := [(3, iV (mn32 ((gF w 100 11) + x1) (gF w 10 5))), (2, iV (gF w 111 3)), (0, .ref (d.ad (1))), (1, iV (x1))]) C dX8_carve_50 (by decide) rfl ?_
      refine x_aload_n C 2 dX8_carve_51 rfl ?_
      refine x_getr (K := 9) (k := 6) (o2 := 116) C (isK_lit hdm rfl rfl) (by decide) cl_X8 (by decide) ⟨rfl, rfl, rfl⟩ fl_X8_53 rfl dX8_carve_52 ?_
      refine x_aload_n C 2 dX8_carve_55 rfl ?_
      refine x_getr (K := 9) (k := 4) (o2 := 100) C (isK_lit hdm rfl rfl) (by decide) cl_X8 (by decide) ⟨rfl, rfl, rfl⟩ fl_X8_42 rfl dX8_carve_56 ?_
      refine x_callVv (K := 7) (rm := rmv 2 44 0 0) (As := [.ref (d.ad (100))]) (rest := []) C hA hR0 mf_X6_copy lk_X8_241 rfl (isK_lit hdm rfl rfl) (by decide) ⟨rfl, rfl⟩ ⟨Nat.le_of_ble_eq_true rfl, Nat.le_of_ble_eq_true rfl⟩ rfl rfl (Nat.le_of_ble_eq_true rfl) (gce hR0 hce) dX8_carve_59 hq (fun _ h => c_X6_copy g.l g.G hdm (isK_lit hdm rfl rfl) (isK_lit hdm rfl rfl) h) (fun w1 _ hq => ?_)
      refine x_aload_n C 2 dX8_carve_62 rfl ?_
      refine x_getr (K := 9) (k := 4) (o2 := 100) C (isK_lit hdm rfl rfl) (by decide) cl_X8 (by decide) ⟨rfl, rfl, rfl⟩ fl_X8_42 rfl dX8_carve_63 ?_
      refine x_get (K := 7) (k := 11) C (isK_lit hdm rfl rfl) (by decide) cl_X6 (by decide) ⟨rfl, rfl, rfl⟩ fl_X8_128 dX8_carve_66 ?_
      refine x_istore (lv' := [(4, iV (gF w1 100 11)), (3, iV (mn32 ((gF w 100 11) + x1) (gF w 10 5))), (2, iV (gF w 111 3)), (0, .ref (d.ad (1))), (1, iV (x1))]) C dX8_carve_69 (by decide) rfl ?_
      refine XG.sub [3, 2, 1, 0] rfl ?_
      exact L_X8_carve_71 C hdm hA hR0 hce hT hR hag _ _ _ _ _ hq
    · refine XG.sub [] rfl ?_
      have hce : d.ce + 1 ≤ 12 ∧ d.so + 6 ≤ 834 := ⟨by omega, by omega⟩
      exact L_X8_carve_12 C hdm hA hR0 hce hT hR hag _ hq
set_option maxRecDepth 100000 in
set_option maxHeartbeats 4000000 in
theorem c_X8_carve (l : Launch) (G : Gd) (hfl : l.stackTraces = false) {dm na : Nat} {ad : Nat → Nat} (hdm : dm = 0) {x1 : Int} {w : Wd} {res : Rz}  (hq : p_X8_carve x1 na w = some res) : mGI l yX8_carve cX8_carve 5 (some .int) (rmv 6 139 12 834) G dm na ad [.ref (ad (1)), iV (x1)] w res 12 834 := by
  refine met_GI hfl [(0, .ref (ad (1))), (1, iV (x1))] (by decide) (Nat.le_of_ble_eq_true rfl) rfl .int rfl (fun g d C S hT hR => ?_)
  obtain ⟨rfl, hR0, rfl, rfl, rfl, hA⟩ := S
  exact L_X8_carve (d := (na, ad, 0, 0)) C hdm hA hR0 ⟨Nat.le_of_ble_eq_true rfl, Nat.le_of_ble_eq_true rfl⟩ hT hR (AG.rf (na, ad, 0, 0))  _ w hq
set_option maxRecDepth 100000 in
set_option maxHeartbeats 4000000 in
theorem L_X8_sharpen {g : Cx} {d : Dl} (C : CX g cX8_sharpen 2 (some .int) RX8) (hdm : g.dm = 0) (hA : ∀ q : Nat, g.s.heap.size ≤ q → g.A q) (hR0 : g.R = rmv 6 139 12 834) (hce : d.ce + 12 ≤ 12 ∧ d.so + 834 ≤ 834) {na0 : Nat} {ad0 : Nat → Nat} {res : Rz} (hT : thC g na0 ad0 12 834 res) (hR : RGI g na0 ad0 cX8_sharpen .int 12 834 res) (hag : AG na0 ad0 d)  (w : Wd) (hq : p_X8_sharpen  d.na w = some res) : XG g d (hP g d w) [(0, .ref (d.ad (1)))] [] 0 := by
  refine x_aload_n C 0 dX8_sharpen_0 rfl ?_
  refine x_getr (K := 9) (k := 4) (o2 := 100) C (isK_lit hdm rfl rfl) (by decide) cl_X8 (by decide) ⟨rfl, rfl, rfl⟩ fl_X8_42 rfl dX8_sharpen_1 ?_
  refine x_getr (K := 7) (k := 10) (o2 := 111) C (isK_lit hdm rfl rfl) (by decide) cl_X6 (by decide) ⟨rfl, rfl, rfl⟩ fl_X8_131 rfl dX8_sharpen_4 ?_
  refine x_get (K := 2) (k := 2) C (isK_lit hdm rfl rfl) (by decide) cl_X1 (by decide) ⟨rfl, rfl, rfl⟩ fl_X8_134 dX8_sharpen_7 ?_
  refine x_istore_n (lv' := [(1, iV (gF w 111 2)), (0, .ref (d.ad (1)))]) C dX8_sharpen_10 (by decide) rfl ?_
  refine x_aload_n C 1 dX8_sharpen_11 rfl ?_
  refine x_getr (K := 9) (k := 6) (o2 := 116) C (isK_lit hdm rfl rfl) (by decide) cl_X8 (by decide) ⟨rfl, rfl, rfl⟩ fl_X8_53 rfl dX8_sharpen_12 ?_
  refine x_aload_n C 1 dX8_sharpen_15 rfl ?_
  refine x_getr (K := 9) (k := 4) (o2 := 100) C (isK_lit hdm rfl rfl) (by decide) cl_X8 (by decide) ⟨rfl, rfl, rfl⟩ fl_X8_42 rfl dX8_sharpen_16 ?_
  refine x_callVv (K := 7) (rm := rmv 2 44 0 0) (As := [.ref (d.ad (100))]) (rest := []) C hA hR0 mf_X6_copy lk_X8_241 rfl (isK_lit hdm rfl rfl) (by decide) ⟨rfl, rfl⟩ ⟨Nat.le_of_ble_eq_true rfl, Nat.le_of_ble_eq_true rfl⟩ rfl rfl (Nat.le_of_ble_eq_true rfl) (gce hR0 hce) dX8_sharpen_19 hq (fun _ h => c_X6_copy g.l g.G hdm (isK_lit hdm rfl rfl) (isK_lit hdm rfl rfl) h) (fun w1 _ hq => ?_)
  refine x_aload_n C 1 dX8_sharpen_22 rfl ?_
  refine x_getr (K := 9) (k := 6) (o2 := 116) C (isK_lit hdm rfl rfl) (by decide) cl_X8 (by decide) ⟨rfl, rfl, rfl⟩ fl_X8_53 rfl dX8_sharpen_23 ?_
  refine x_getr (K := 7) (k := 10) (o2 := 127) C (isK_lit hdm rfl rfl) (by decide) cl_X6 (by decide) ⟨rfl, rfl, rfl⟩ fl_X8_131 rfl dX8_sharpen_26 ?_
  refine x_callVv (K := 2) (rm := rmv 0 0 0 0) (As := []) (rest := []) C hA hR0 mf_X1_hone lk_X8_285 rfl (isK_lit hdm rfl rfl) (by decide) ⟨rfl, rfl⟩ ⟨Nat.le_of_ble_eq_true rfl, Nat.le_of_ble_eq_true rfl⟩ rfl rfl (Nat.le_of_ble_eq_true rfl) (gce hR0 hce) dX8_sharpen_29 hq (fun _ h => c_X1_hone g.l g.G hdm (isK_lit hdm rfl rfl) h) (fun w2 _ hq => ?_)
  refine x_aload_n C 1 dX8_sharpen_32 rfl ?_
  refine x_gcallV (K := 9) (rm := rmv 5 119 12 834) (mc' := 12) (ms' := 834) (As := []) (rest := []) C hA hR0 mf_X8_settle lk_X8_94 rfl (isK_lit hdm rfl rfl) (by decide) ⟨rfl, rfl⟩ ⟨Nat.le_of_ble_eq_true rfl, Nat.le_of_ble_eq_true rfl⟩ rfl rfl (Nat.le_of_ble_eq_true rfl) (gcc hR0 hce (by decide) (by decide)).1 hag (gcc hR0 hce (by decide) (by decide)).2 dX8_sharpen_33 hR.2 hq (fun _ h => c_X8_settle g.l g.G hT.2.1 hdm  h) (fun r3 d6 w5 g7 hc1 hc2 hq => ?_)
  try rw [agr g7 (K := 9) (isK_lit hdm rfl rfl) (by decide)]
  have hag := hag.trans g7
  have hce : d6.ce + 0 ≤ 12 ∧ d6.so + 0 ≤ 834 := ⟨by omega, by omega⟩
  refine x_iload_n C 0 dX8_sharpen_36 rfl ?_
  exact hR.1 _ _ _ _ _ hag (gcd hce) hq rfl dX8_sharpen_37
set_option maxRecDepth 100000 in
set_option maxHeartbeats 4000000 in
theorem c_X8_sharpen (l : Launch) (G : Gd) (hfl : l.stackTraces = false) {dm na : Nat} {ad : Nat → Nat} (hdm : dm = 0)  {w : Wd} {res : Rz}  (hq : p_X8_sharpen  na w = some res) : mGI l yX8_sharpen cX8_sharpen 2 (some .int) (rmv 6 139 12 834) G dm na ad [.ref (ad (1))] w res 12 834 := by
  refine met_GI hfl [(0, .ref (ad (1)))] (by decide) (Nat.le_of_ble_eq_true rfl) rfl .int rfl (fun g d C S hT hR => ?_)
  obtain ⟨rfl, hR0, rfl, rfl, rfl, hA⟩ := S
  exact L_X8_sharpen (d := (na, ad, 0, 0)) C hdm hA hR0 ⟨Nat.le_of_ble_eq_true rfl, Nat.le_of_ble_eq_true rfl⟩ hT hR (AG.rf (na, ad, 0, 0))   w hq
set_option maxRecDepth 100000 in
set_option maxHeartbeats 4000000 in
theorem L_X8_setChisel_22 {g : Cx} {d : Dl} (C : CX g cX8_setChisel 4 (some .int) RX8) (hdm : g.dm = 0) (hA : ∀ q : Nat, g.s.heap.size ≤ q → g.A q) (hR0 : g.R = rmv 6 139 12 834) (hce : d.ce + 1 ≤ 12 ∧ d.so + 6 ≤ 834) {na0 : Nat} {ad0 : Nat → Nat} {res : Rz} (hT : thC g na0 ad0 12 834 res) (hR : RGI g na0 ad0 cX8_setChisel .int 12 834 res) (hag : AG na0 ad0 d)  (w : Wd) (hq : p_X8_setChisel_22 d.na w = some res) : XG g d (hP g d w) [] [] 22 := by
  exact x_gthrow C hT hR0 th2 hag (gcc hR0 hce (by decide) (by decide)).2 ⟨rfl, rfl⟩ ⟨Nat.le_of_ble_eq_true rfl, Nat.le_of_ble_eq_true rfl⟩ hq dX8_setChisel_22 dX8_setChisel_25 dX8_setChisel_26 dX8_setChisel_29
set_option maxRecDepth 100000 in
set_option maxHeartbeats 4000000 in
theorem L_X8_setChisel {g : Cx} {d : Dl} (C : CX g cX8_setChisel 4 (some .int) RX8) (hdm : g.dm = 0) (hA : ∀ q : Nat, g.s.heap.size ≤ q → g.A q) (hR0 : g.R = rmv 6 139 12 834) (hce : d.ce + 12 ≤ 12 ∧ d.so + 834 ≤ 834) {na0 : Nat} {ad0 : Nat → Nat} {res : Rz} (hT : thC g na0 ad0 12 834 res) (hR : RGI g na0 ad0 cX8_setChisel .int 12 834 res) (hag : AG na0 ad0 d) (x1 : Int) (x2 : Int) (w : Wd) (hq : p_X8_setChisel x1 x2 d.na w = some res) : XG g d (hP g d w) [(0, .ref (d.ad (1))), (1, iV (x1)), (2, iV (x2))] [] 0 := by
  refine x_iload_n C 1 dX8_setChisel_0 rfl ?_
  refine x_iconst C dX8_setChisel_1 ?_
  refine x_icmp_lt (tgt := 22) C dX8_setChisel_2 (by decide) hq (fun hq => ?_) (fun hq => ?_)
  · refine XG.sub [] rfl ?_
    have hce : d.ce + 1 ≤ 12 ∧ d.so + 6 ≤ 834 := ⟨by omega, by omega⟩
    exact L_X8_setChisel_22 C hdm hA hR0 hce hT hR hag _ hq
  · refine x_iload_n C 1 dX8_setChisel_5 rfl ?_
    refine x_sipush (v := 999) C dX8_setChisel_6 (by decide +kernel) ?_
    refine x_icmp_gt (tgt := 22) C dX8_setChisel_9 (by decide) hq (fun hq => ?_) (fun hq => ?_)
    · refine XG.sub [] rfl ?_
      have hce : d.ce + 1 ≤ 12 ∧ d.so + 6 ≤ 834 := ⟨by omega, by omega⟩
      exact L_X8_setChisel_22 C hdm hA hR0 hce hT hR hag _ hq
    · refine x_iload_n C 2 dX8_setChisel_12 rfl ?_
      refine x_if_lt (tgt := 22) C dX8_setChisel_13 (by decide) hq (fun hq => ?_) (fun hq => ?_)
      · refine XG.sub [] rfl ?_
        have hce : d.ce + 1 ≤ 12 ∧ d.so + 6 ≤ 834 := ⟨by omega, by omega⟩
        exact L_X8_setChisel_22 C hdm hA hR0 hce hT hR hag _ hq
      · refine x_iload_n C 2 dX8_setChisel_16 rfl ?_
        refine x_bipush (v := 99) C dX8_setChisel_17 (by decide +kernel) ?_
        refine x_icmp_le (tgt := 30) C dX8_setChisel_19 (by decide) hq (fun hq => ?_) (fun hq => ?_)
        · refine x_bipush (v := 100) C dX8_setChisel_30 (by decide +kernel) ?_
          refine x_aload_n C 0 dX8_setChisel_32 rfl ?_
          refine x_getr (K := 9) (k := 4) (o2 := 100) C (isK_lit hdm rfl rfl) (by decide) cl_X8 (by decide) ⟨rfl, rfl, rfl⟩ fl_X8_42 rfl dX8_setChisel_33 ?_
          refine x_getr (K := 7) (k := 10) (o2 := 111) C (isK_lit hdm rfl rfl) (by decide) cl_X6 (by decide) ⟨rfl, rfl, rfl⟩ fl_X8_131 rfl dX8_setChisel_36 ?_
          refine x_get (K := 2) (k := 0) C (isK_lit hdm rfl rfl) (by decide) cl_X1 (by decide) ⟨rfl, rfl, rfl⟩ fl_X8_137 dX8_setChisel_39 ?_
          refine x_imul C dX8_setChisel_42 ?_
          refine x_aload_n C 0 dX8_setChisel_43 rfl ?_
          refine x_getr (K := 9) (k := 4) (o2 := 100) C (isK_lit hdm rfl rfl) (by decide) cl_X8 (by decide) ⟨rfl, rfl, rfl⟩ fl_X8_42 rfl dX8_setChisel_44 ?_
          refine x_getr (K := 7) (k := 10) (o2 := 111) C (isK_lit hdm rfl rfl) (by decide) cl_X6 (by decide) ⟨rfl, rfl, rfl⟩ fl_X8_131 rfl dX8_setChisel_47 ?_
          refine x_get (K := 2) (k := 1) C (isK_lit hdm rfl rfl) (by decide) cl_X1 (by decide) ⟨rfl, rfl, rfl⟩ fl_X8_140 dX8_setChisel_50 ?_
          refine x_iadd C dX8_setChisel_53 ?_
          refine x_istore_n (lv' := [(3, iV ((100 * (gF w 111 0)) + (gF w 111 1))), (0, .ref (d.ad (1))), (1, iV (x1)), (2, iV (x2))]) C dX8_setChisel_54 (by decide) rfl ?_
          refine x_aload_n C 1 dX8_setChisel_55 rfl ?_
          refine x_getr (K := 9) (k := 6) (o2 := 116) C (isK_lit hdm rfl rfl) (by decide) cl_X8 (by decide) ⟨rfl, rfl, rfl⟩ fl_X8_53 rfl dX8_setChisel_56 ?_
          refine x_aload_n C 1 dX8_setChisel_59 rfl ?_
          refine x_getr (K := 9) (k := 4) (o2 := 100) C (isK_lit hdm rfl rfl) (by decide) cl_X8 (by decide) ⟨rfl, rfl, rfl⟩ fl_X8_42 rfl dX8_setChisel_60 ?_
          refine x_callVv (K := 7) (rm := rmv 2 44 0 0) (As := [.ref (d.ad (100))]) (rest := []) C hA hR0 mf_X6_copy lk_X8_241 rfl (isK_lit hdm rfl rfl) (by decide) ⟨rfl, rfl⟩ ⟨Nat.le_of_ble_eq_true rfl, Nat.le_of_ble_eq_true rfl⟩ rfl rfl (Nat.le_of_ble_eq_true rfl) (gce hR0 hce) dX8_setChisel_63 hq (fun _ h => c_X6_copy g.l g.G hdm (isK_lit hdm rfl rfl) (isK_lit hdm rfl rfl) h) (fun w1 _ hq => ?_)
          refine x_aload_n C 1 dX8_setChisel_66 rfl ?_
          refine x_getr (K := 9) (k := 6) (o2 := 116) C (isK_lit hdm rfl rfl) (by decide) cl_X8 (by decide) ⟨rfl, rfl, rfl⟩ fl_X8_53 rfl dX8_setChisel_67 ?_
          refine x_getr (K := 7) (k := 10) (o2 := 127) C (isK_lit hdm rfl rfl) (by decide) cl_X6 (by decide) ⟨rfl, rfl, rfl⟩ fl_X8_131 rfl dX8_setChisel_70 ?_
          refine x_iload_n C 2 dX8_setChisel_73 rfl ?_
          refine x_iload_n C 3 dX8_setChisel_74 rfl ?_
          refine x_callVv (K := 2) (rm := rmv 0 0 0 0) (As := [iV (x1), iV (x2)]) (rest := []) C hA hR0 mf_X1_renew lk_X8_235 rfl (isK_lit hdm rfl rfl) (by decide) ⟨rfl, rfl⟩ ⟨Nat.le_of_ble_eq_true rfl, Nat.le_of_ble_eq_true rfl⟩ rfl rfl (Nat.le_of_ble_eq_true rfl) (gce hR0 hce) dX8_setChisel_75 hq (fun _ h => c_X1_renew g.l g.G hdm (isK_lit hdm rfl rfl) h) (fun w2 _ hq => ?_)
          refine x_aload_n C 1 dX8_setChisel_78 rfl ?_
          refine x_gcallV (K := 9) (rm := rmv 5 119 12 834) (mc' := 12) (ms' := 834) (As := []) (rest := []) C hA hR0 mf_X8_settle lk_X8_94 rfl (isK_lit hdm rfl rfl) (by decide) ⟨rfl, rfl⟩ ⟨Nat.le_of_ble_eq_true rfl, Nat.le_of_ble_eq_true rfl⟩ rfl rfl (Nat.le_of_ble_eq_true rfl) (gcc hR0 hce (by decide) (by decide)).1 hag (gcc hR0 hce (by decide) (by decide)).2 dX8_setChisel_79 hR.2 hq (fun _ h => c_X8_settle g.l g.G hT.2.1 hdm  h) (fun r3 d6 w5 g7 hc1 hc2 hq => ?_)
          try rw [agr g7 (K := 9) (isK_lit hdm rfl rfl) (by decide)]
          have hag := hag.trans g7
          have hce : d6.ce + 0 ≤ 12 ∧ d6.so + 0 ≤ 834 := ⟨by omega, by omega⟩
          refine x_iload_n C 0 dX8_setChisel_82 rfl ?_
          exact hR.1 _ _ _ _ _ hag (gcd hce) hq rfl dX8_setChisel_83
        · refine XG.sub [] rfl ?_
          have hce : d.ce + 1 ≤ 12 ∧ d.so + 6 ≤ 834 := ⟨by omega, by omega⟩
          exact L_X8_setChisel_22 C hdm hA hR0 hce hT hR hag _ hq
set_option maxRecDepth 100000 in
set_option maxHeartbeats 4000000 in
theorem c_X8_setChisel (l : Launch) (G : Gd) (hfl : l.stackTraces = false) {dm na : Nat} {ad : Nat → Nat} (hdm : dm = 0) {x1 : Int} {x2 : Int} {w : Wd} {res : Rz}  (hq : p_X8_setChisel x1 x2 na w = some res) : mGI l yX8_setChisel cX8_setChisel 4 (some .int) (rmv 6 139 12 834) G dm na ad [.ref (ad (1)), iV (x1), iV (x2)] w res 12 834 := by
  refine met_GI hfl [(0, .ref (ad (1))), (1, iV (x1)), (2, iV (x2))] (by decide) (Nat.le_of_ble_eq_true rfl) rfl .int rfl (fun g d C S hT hR => ?_)
  obtain ⟨rfl, hR0, rfl, rfl, rfl, hA⟩ := S
  exact L_X8_setChisel (d := (na, ad, 0, 0)) C hdm hA hR0 ⟨Nat.le_of_ble_eq_true rfl, Nat.le_of_ble_eq_true rfl⟩ hT hR (AG.rf (na, ad, 0, 0))  _ _ w hq
