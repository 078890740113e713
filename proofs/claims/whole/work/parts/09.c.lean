set_option maxRecDepth 100000 in
set_option maxHeartbeats 4000000 in
theorem L_X5_put {g : Cx} {d : Dl} (C : CX g cX5_put 3 none RX5) (hdm : g.dm = 0) (hA : ∀ q : Nat, g.s.heap.size ≤ q → g.A q) (hR0 : g.R = rmv 0 0 0 0) (hce : d.ce ≤ g.R.cells ∧ d.so ≤ g.R.slots) {res : Wd} (hR : rtV g d cX5_put res) {o0 : Nat} (h0 : isK d.na g.dm 6 o0) (x1 : Int) (x2 : Int) (w : Wd) (hq : p_X5_put o0 x1 x2 w = some res) : XG g d (hP g d w) [(0, .ref (d.ad (o0))), (1, iV (x1)), (2, iV (x2))] [] 0 := by
  refine x_iload_n C 1 dX5_put_0 rfl ?_
  refine x_if_lt (tgt := 20) C dX5_put_1 (by decide) hq (fun hq => ?_) (fun hq => ?_)
  · exact hR _ _ _ hq dX5_put_20
  · refine x_iload_n C 1 dX5_put_4 rfl ?_
    refine x_aload_n C 0 dX5_put_5 rfl ?_
    refine x_getr (K := 6) (k := 0) (o2 := o0 + 1) C h0 (by decide) cl_X5 (by decide) ⟨rfl, rfl, rfl⟩ fl_X5_7 rfl dX5_put_6 ?_
    refine x_alen C (ik6 h0) dX5_put_9 ?_
    refine x_icmp_ge (tgt := 20) C dX5_put_10 (by decide) hq (fun hq => ?_) (fun hq => ?_)
    · exact hR _ _ _ hq dX5_put_20
    · refine x_aload_n C 0 dX5_put_13 rfl ?_
      refine x_getr (K := 6) (k := 0) (o2 := o0 + 1) C h0 (by decide) cl_X5 (by decide) ⟨rfl, rfl, rfl⟩ fl_X5_7 rfl dX5_put_14 ?_
      refine x_iload_n C 1 dX5_put_17 rfl ?_
      refine x_iload_n C 2 dX5_put_18 rfl ?_
      refine inb_2 hq (fun hi hq => ?_)
      refine x_iast C (ik6 h0) hi dX5_put_19 ?_
      exact hR _ _ _ hq dX5_put_20
set_option maxRecDepth 100000 in
set_option maxHeartbeats 4000000 in
theorem c_X5_put (l : Launch) (G : Gd) {dm na : Nat} {ad : Nat → Nat} (hdm : dm = 0) {o0 : Nat} {x1 : Int} {x2 : Int} {w w' : Wd}  (h0 : isK na dm 6 o0) (hq : p_X5_put o0 x1 x2 w = some w') : mV l yX5_put cX5_put 3 none (rmv 0 0 0 0) G dm na ad [.ref (ad (o0)), iV (x1), iV (x2)] w w' := by
  refine met_V [(0, .ref (ad (o0))), (1, iV (x1)), (2, iV (x2))] (by decide) (Nat.le_of_ble_eq_true rfl) rfl rfl (fun g d C S hR => ?_)
  obtain ⟨rfl, hR0, rfl, rfl, rfl, hA⟩ := S
  exact L_X5_put (d := (na, ad, 0, 0)) C hdm hA hR0 ⟨Nat.zero_le _, Nat.zero_le _⟩ hR h0 _ _ w hq
set_option maxRecDepth 100000 in
set_option maxHeartbeats 4000000 in
theorem L_X0_add {g : Cx} {d : Dl} (C : CX g cX0_add 2 none RX0) (hdm : g.dm = 0) (hA : ∀ q : Nat, g.s.heap.size ≤ q → g.A q) (hR0 : g.R = rmv 1 22 0 0) (hce : d.ce ≤ g.R.cells ∧ d.so ≤ g.R.slots) {res : Wd} (hR : rtV g d cX0_add res) {o0 : Nat} (h0 : isK d.na g.dm 1 o0) (x1 : Int) (w : Wd) (hq : p_X0_add o0 x1 w = some res) : XG g d (hP g d w) [(0, .ref (d.ad (o0))), (1, iV (x1))] [] 0 := by
  refine x_aload_n C 0 dX0_add_0 rfl ?_
  refine x_getr (K := 1) (k := 0) (o2 := o0 + 1) C h0 (by decide) cl_X0 (by decide) ⟨rfl, rfl, rfl⟩ fl_X0_18 rfl dX0_add_1 ?_
  refine x_aload_n C 0 dX0_add_4 rfl ?_
  refine x_get (K := 1) (k := 1) C h0 (by decide) cl_X0 (by decide) ⟨rfl, rfl, rfl⟩ fl_X0_7 dX0_add_5 ?_
  refine x_iload_n C 1 dX0_add_8 rfl ?_
  refine x_sipush (v := 255) C dX0_add_9 (by decide +kernel) ?_
  refine x_iand C dX0_add_12 ?_
  refine x_callVv (K := 6) (rm := rmv 0 0 0 0) (As := [iV (gF w o0 1), iV (an32 x1 255)]) (rest := []) C hA hR0 mf_X5_put lk_X0_22 rfl (ik1 h0) (by decide) ⟨rfl, rfl⟩ ⟨Nat.le_of_ble_eq_true rfl, Nat.le_of_ble_eq_true rfl⟩ rfl rfl (Nat.le_of_ble_eq_true rfl) hce dX0_add_13 hq (fun _ h => c_X5_put g.l g.G hdm (ik1 h0) h) (fun w1 _ hq => ?_)
  refine x_aload_n C 0 dX0_add_16 rfl ?_
  refine x_dup C rfl dX0_add_17 ?_
  refine x_get (K := 1) (k := 1) C h0 (by decide) cl_X0 (by decide) ⟨rfl, rfl, rfl⟩ fl_X0_7 dX0_add_18 ?_
  refine x_iconst C dX0_add_21 ?_
  refine x_iadd C dX0_add_22 ?_
  refine x_put (K := 1) (k := 1) C h0 (by decide) cl_X0 (by decide) ⟨rfl, rfl, rfl, rfl⟩ fl_X0_7 ⟨rfl, rfl⟩ dX0_add_23 ?_
  exact hR _ _ _ hq dX0_add_26
set_option maxRecDepth 100000 in
set_option maxHeartbeats 4000000 in
theorem c_X0_add (l : Launch) (G : Gd) {dm na : Nat} {ad : Nat → Nat} (hdm : dm = 0) {o0 : Nat} {x1 : Int} {w w' : Wd}  (h0 : isK na dm 1 o0) (hq : p_X0_add o0 x1 w = some w') : mV l yX0_add cX0_add 2 none (rmv 1 22 0 0) G dm na ad [.ref (ad (o0)), iV (x1)] w w' := by
  refine met_V [(0, .ref (ad (o0))), (1, iV (x1))] (by decide) (Nat.le_of_ble_eq_true rfl) rfl rfl (fun g d C S hR => ?_)
  obtain ⟨rfl, hR0, rfl, rfl, rfl, hA⟩ := S
  exact L_X0_add (d := (na, ad, 0, 0)) C hdm hA hR0 ⟨Nat.zero_le _, Nat.zero_le _⟩ hR h0 _ w hq
set_option maxRecDepth 100000 in
set_option maxHeartbeats 4000000 in
theorem L_X0_addFour {g : Cx} {d : Dl} (C : CX g cX0_addFour 2 none RX0) (hdm : g.dm = 0) (hA : ∀ q : Nat, g.s.heap.size ≤ q → g.A q) (hR0 : g.R = rmv 2 43 0 0) (hce : d.ce ≤ g.R.cells ∧ d.so ≤ g.R.slots) {res : Wd} (hR : rtV g d cX0_addFour res) {o0 : Nat} (h0 : isK d.na g.dm 1 o0) (x1 : Int) (w : Wd) (hq : p_X0_addFour o0 x1 w = some res) : XG g d (hP g d w) [(0, .ref (d.ad (o0))), (1, iV (x1))] [] 0 := by
  refine x_aload_n C 0 dX0_addFour_0 rfl ?_
  refine x_iload_n C 1 dX0_addFour_1 rfl ?_
  refine x_bipush (v := 24) C dX0_addFour_2 (by decide +kernel) ?_
  refine x_iushr C dX0_addFour_4 ?_
  refine x_callVv (K := 1) (rm := rmv 1 22 0 0) (As := [iV (us32 x1 24)]) (rest := []) C hA hR0 mf_X0_add lk_X0_26 rfl h0 (by decide) ⟨rfl, rfl⟩ ⟨Nat.le_of_ble_eq_true rfl, Nat.le_of_ble_eq_true rfl⟩ rfl rfl (Nat.le_of_ble_eq_true rfl) hce dX0_addFour_5 hq (fun _ h => c_X0_add g.l g.G hdm h0 h) (fun w1 _ hq => ?_)
  refine x_aload_n C 0 dX0_addFour_8 rfl ?_
  refine x_iload_n C 1 dX0_addFour_9 rfl ?_
  refine x_bipush (v := 16) C dX0_addFour_10 (by decide +kernel) ?_
  refine x_iushr C dX0_addFour_12 ?_
  refine x_callVv (K := 1) (rm := rmv 1 22 0 0) (As := [iV (us32 x1 16)]) (rest := []) C hA hR0 mf_X0_add lk_X0_26 rfl h0 (by decide) ⟨rfl, rfl⟩ ⟨Nat.le_of_ble_eq_true rfl, Nat.le_of_ble_eq_true rfl⟩ rfl rfl (Nat.le_of_ble_eq_true rfl) hce dX0_addFour_13 hq (fun _ h => c_X0_add g.l g.G hdm h0 h) (fun w2 _ hq => ?_)
  refine x_aload_n C 0 dX0_addFour_16 rfl ?_
  refine x_iload_n C 1 dX0_addFour_17 rfl ?_
  refine x_bipush (v := 8) C dX0_addFour_18 (by decide +kernel) ?_
  refine x_iushr C dX0_addFour_20 ?_
  refine x_callVv (K := 1) (rm := rmv 1 22 0 0) (As := [iV (us32 x1 8)]) (rest := []) C hA hR0 mf_X0_add lk_X0_26 rfl h0 (by decide) ⟨rfl, rfl⟩ ⟨Nat.le_of_ble_eq_true rfl, Nat.le_of_ble_eq_true rfl⟩ rfl rfl (Nat.le_of_ble_eq_true rfl) hce dX0_addFour_21 hq (fun _ h => c_X0_add g.l g.G hdm h0 h) (fun w3 _ hq => ?_)
  refine x_aload_n C 0 dX0_addFour_24 rfl ?_
  refine x_iload_n C 1 dX0_addFour_25 rfl ?_
  refine x_callVv (K := 1) (rm := rmv 1 22 0 0) (As := [iV (x1)]) (rest := []) C hA hR0 mf_X0_add lk_X0_26 rfl h0 (by decide) ⟨rfl, rfl⟩ ⟨Nat.le_of_ble_eq_true rfl, Nat.le_of_ble_eq_true rfl⟩ rfl rfl (Nat.le_of_ble_eq_true rfl) hce dX0_addFour_26 hq (fun _ h => c_X0_add g.l g.G hdm h0 h) (fun w4 _ hq => ?_)
  exact hR _ _ _ hq dX0_addFour_29
set_option maxRecDepth 100000 in
set_option maxHeartbeats 4000000 in
theorem c_X0_addFour (l : Launch) (G : Gd) {dm na : Nat} {ad : Nat → Nat} (hdm : dm = 0) {o0 : Nat} {x1 : Int} {w w' : Wd}  (h0 : isK na dm 1 o0) (hq : p_X0_addFour o0 x1 w = some w') : mV l yX0_addFour cX0_addFour 2 none (rmv 2 43 0 0) G dm na ad [.ref (ad (o0)), iV (x1)] w w' := by
  refine met_V [(0, .ref (ad (o0))), (1, iV (x1))] (by decide) (Nat.le_of_ble_eq_true rfl) rfl rfl (fun g d C S hR => ?_)
  obtain ⟨rfl, hR0, rfl, rfl, rfl, hA⟩ := S
  exact L_X0_addFour (d := (na, ad, 0, 0)) C hdm hA hR0 ⟨Nat.zero_le _, Nat.zero_le _⟩ hR h0 _ w hq
set_option maxRecDepth 100000 in
set_option maxHeartbeats 4000000 in
theorem L_X1_renew {g : Cx} {d : Dl} (C : CX g cX1_renew 3 none RX1) (hdm : g.dm = 0) (hA : ∀ q : Nat, g.s.heap.size ≤ q → g.A q) (hR0 : g.R = rmv 0 0 0 0) (hce : d.ce ≤ g.R.cells ∧ d.so ≤ g.R.slots) {res : Wd} (hR : rtV g d cX1_renew res) {o0 : Nat} (h0 : isK d.na g.dm 2 o0) (x1 : Int) (x2 : Int) (w : Wd) (hq : p_X1_renew o0 x1 x2 w = some res) : XG g d (hP g d w) [(0, .ref (d.ad (o0))), (1, iV (x1)), (2, iV (x2))] [] 0 := by
  refine x_aload_n C 0 dX1_renew_0 rfl ?_
  refine x_iload_n C 1 dX1_renew_1 rfl ?_
  refine x_put (K := 2) (k := 0) C h0 (by decide) cl_X1 (by decide) ⟨rfl, rfl, rfl, rfl⟩ fl_X1_9 ⟨rfl, rfl⟩ dX1_renew_2 ?_
  refine x_aload_n C 0 dX1_renew_5 rfl ?_
  refine x_iload_n C 2 dX1_renew_6 rfl ?_
  refine x_put (K := 2) (k := 1) C h0 (by decide) cl_X1 (by decide) ⟨rfl, rfl, rfl, rfl⟩ fl_X1_15 ⟨rfl, rfl⟩ dX1_renew_7 ?_
  refine nmW hq (fun w1 ew1 hq => ?_)
  rw [← ew1]
  refine x_aload_n C 0 dX1_renew_10 rfl ?_
  refine x_iload_n C 1 dX1_renew_11 rfl ?_
  refine x_put (K := 2) (k := 2) C h0 (by decide) cl_X1 (by decide) ⟨rfl, rfl, rfl, rfl⟩ fl_X1_18 ⟨rfl, rfl⟩ dX1_renew_12 ?_
  exact hR _ _ _ hq dX1_renew_15
set_option maxRecDepth 100000 in
set_option maxHeartbeats 4000000 in
theorem c_X1_renew (l : Launch) (G : Gd) {dm na : Nat} {ad : Nat → Nat} (hdm : dm = 0) {o0 : Nat} {x1 : Int} {x2 : Int} {w w' : Wd}  (h0 : isK na dm 2 o0) (hq : p_X1_renew o0 x1 x2 w = some w') : mV l yX1_renew cX1_renew 3 none (rmv 0 0 0 0) G dm na ad [.ref (ad (o0)), iV (x1), iV (x2)] w w' := by
  refine met_V [(0, .ref (ad (o0))), (1, iV (x1)), (2, iV (x2))] (by decide) (Nat.le_of_ble_eq_true rfl) rfl rfl (fun g d C S hR => ?_)
  obtain ⟨rfl, hR0, rfl, rfl, rfl, hA⟩ := S
  exact L_X1_renew (d := (na, ad, 0, 0)) C hdm hA hR0 ⟨Nat.zero_le _, Nat.zero_le _⟩ hR h0 _ _ w hq
set_option maxRecDepth 100000 in
set_option maxHeartbeats 4000000 in
theorem L_X1_hone {g : Cx} {d : Dl} (C : CX g cX1_hone 1 none RX1) (hdm : g.dm = 0) (hA : ∀ q : Nat, g.s.heap.size ≤ q → g.A q) (hR0 : g.R = rmv 0 0 0 0) (hce : d.ce ≤ g.R.cells ∧ d.so ≤ g.R.slots) {res : Wd} (hR : rtV g d cX1_hone res) {o0 : Nat} (h0 : isK d.na g.dm 2 o0)  (w : Wd) (hq : p_X1_hone o0 w = some res) : XG g d (hP g d w) [(0, .ref (d.ad (o0)))] [] 0 := by
  refine x_aload_n C 0 dX1_hone_0 rfl ?_
  refine x_aload_n C 0 dX1_hone_1 rfl ?_
  refine x_get (K := 2) (k := 0) C h0 (by decide) cl_X1 (by decide) ⟨rfl, rfl, rfl⟩ fl_X1_9 dX1_hone_2 ?_
  refine x_put (K := 2) (k := 2) C h0 (by decide) cl_X1 (by decide) ⟨rfl, rfl, rfl, rfl⟩ fl_X1_18 ⟨rfl, rfl⟩ dX1_hone_5 ?_
  refine x_aload_n C 0 dX1_hone_8 rfl ?_
  refine x_dup C rfl dX1_hone_9 ?_
  refine x_get (K := 2) (k := 3) C h0 (by decide) cl_X1 (by decide) ⟨rfl, rfl, rfl⟩ fl_X1_21 dX1_hone_10 ?_
  refine x_aload_n C 0 dX1_hone_13 rfl ?_
  refine x_get (K := 2) (k := 1) C h0 (by decide) cl_X1 (by decide) ⟨rfl, rfl, rfl⟩ fl_X1_15 dX1_hone_14 ?_
  refine x_iadd C dX1_hone_17 ?_
  refine x_put (K := 2) (k := 3) C h0 (by decide) cl_X1 (by decide) ⟨rfl, rfl, rfl, rfl⟩ fl_X1_21 ⟨rfl, rfl⟩ dX1_hone_18 ?_
  refine nmW hq (fun w1 ew1 hq => ?_)
  rw [← ew1]
  refine x_aload_n C 0 dX1_hone_21 rfl ?_
  refine x_dup C rfl dX1_hone_22 ?_
  refine x_get (K := 2) (k := 4) C h0 (by decide) cl_X1 (by decide) ⟨rfl, rfl, rfl⟩ fl_X1_24 dX1_hone_23 ?_
  refine x_iconst C dX1_hone_26 ?_
  refine x_iadd C dX1_hone_27 ?_
  refine x_put (K := 2) (k := 4) C h0 (by decide) cl_X1 (by decide) ⟨rfl, rfl, rfl, rfl⟩ fl_X1_24 ⟨rfl, rfl⟩ dX1_hone_28 ?_
  exact hR _ _ _ hq dX1_hone_31
set_option maxRecDepth 100000 in
set_option maxHeartbeats 4000000 in
theorem c_X1_hone (l : Launch) (G : Gd) {dm na : Nat} {ad : Nat → Nat} (hdm : dm = 0) {o0 : Nat} {w w' : Wd}  (h0 : isK na dm 2 o0) (hq : p_X1_hone o0 w = some w') : mV l yX1_hone cX1_hone 1 none (rmv 0 0 0 0) G dm na ad [.ref (ad (o0))] w w' := by
  refine met_V [(0, .ref (ad (o0)))] (by decide) (Nat.le_of_ble_eq_true rfl) rfl rfl (fun g d C S hR => ?_)
  obtain ⟨rfl, hR0, rfl, rfl, rfl, hA⟩ := S
  exact L_X1_hone (d := (na, ad, 0, 0)) C hdm hA hR0 ⟨Nat.zero_le _, Nat.zero_le _⟩ hR h0  w hq
set_option maxRecDepth 100000 in
set_option maxHeartbeats 4000000 in
theorem L_X1_cut_23 {g : Cx} {d : Dl} (C : CX g cX1_cut 2 none RX1) (hdm : g.dm = 0) (hA : ∀ q : Nat, g.s.heap.size ≤ q → g.A q) (hR0 : g.R = rmv 1 21 0 0) (hce : d.ce ≤ g.R.cells ∧ d.so ≤ g.R.slots) {res : Wd} (hR : rtV g d cX1_cut res) {o0 : Nat} (h0 : isK d.na g.dm 2 o0) (x1 : Int) (w : Wd) (hq : p_X1_cut_23 o0 x1 w = some res) : XG g d (hP g d w) [(0, .ref (d.ad (o0))), (1, iV (x1))] [] 23 := by
  refine x_aload_n C 0 dX1_cut_23 rfl ?_
  refine x_dup C rfl dX1_cut_24 ?_
  refine x_get (K := 2) (k := 3) C h0 (by decide) cl_X1 (by decide) ⟨rfl, rfl, rfl⟩ fl_X1_21 dX1_cut_25 ?_
  refine x_iload_n C 1 dX1_cut_28 rfl ?_
  refine x_iadd C dX1_cut_29 ?_
  refine x_put (K := 2) (k := 3) C h0 (by decide) cl_X1 (by decide) ⟨rfl, rfl, rfl, rfl⟩ fl_X1_21 ⟨rfl, rfl⟩ dX1_cut_30 ?_
  refine x_aload_n C 0 dX1_cut_33 rfl ?_
  refine x_iconst C dX1_cut_34 ?_
  refine x_aload_n C 0 dX1_cut_35 rfl ?_
  refine x_get (K := 2) (k := 2) C h0 (by decide) cl_X1 (by decide) ⟨rfl, rfl, rfl⟩ fl_X1_18 dX1_cut_36 ?_
  refine x_iload_n C 1 dX1_cut_39 rfl ?_
  refine x_isub C dX1_cut_40 ?_
  refine x_max C hR0 lk_X1_30 jm_max_s jm_i jm_max_c ⟨Nat.le_of_ble_eq_true rfl, Nat.le_of_ble_eq_true rfl⟩ hce dX1_cut_41 ?_
  refine x_put (K := 2) (k := 2) C h0 (by decide) cl_X1 (by decide) ⟨rfl, rfl, rfl, rfl⟩ fl_X1_18 ⟨rfl, rfl⟩ dX1_cut_44 ?_
  refine nmW hq (fun w1 ew1 hq => ?_)
  rw [← ew1]
  exact hR _ _ _ hq dX1_cut_47
set_option maxRecDepth 100000 in
set_option maxHeartbeats 4000000 in
theorem L_X1_cut {g : Cx} {d : Dl} (C : CX g cX1_cut 2 none RX1) (hdm : g.dm = 0) (hA : ∀ q : Nat, g.s.heap.size ≤ q → g.A q) (hR0 : g.R = rmv 1 21 0 0) (hce : d.ce ≤ g.R.cells ∧ d.so ≤ g.R.slots) {res : Wd} (hR : rtV g d cX1_cut res) {o0 : Nat} (h0 : isK d.na g.dm 2 o0) (x1 : Int) (w : Wd) (hq : p_X1_cut o0 x1 w = some res) : XG g d (hP g d w) [(0, .ref (d.ad (o0))), (1, iV (x1))] [] 0 := by
  refine x_aload_n C 0 dX1_cut_0 rfl ?_
  refine x_get (K := 2) (k := 2) C h0 (by decide) cl_X1 (by decide) ⟨rfl, rfl, rfl⟩ fl_X1_18 dX1_cut_1 ?_
  refine x_iload_n C 1 dX1_cut_4 rfl ?_
  refine x_icmp_ge (tgt := 23) C dX1_cut_5 (by decide) hq (fun hq => ?_) (fun hq => ?_)
  · exact L_X1_cut_23 C hdm hA hR0 hce hR h0 _ _ hq
  · refine x_aload_n C 0 dX1_cut_8 rfl ?_
    refine x_get (K := 2) (k := 2) C h0 (by decide) cl_X1 (by decide) ⟨rfl, rfl, rfl⟩ fl_X1_18 dX1_cut_9 ?_
    refine x_aload_n C 0 dX1_cut_12 rfl ?_
    refine x_get (K := 2) (k := 0) C h0 (by decide) cl_X1 (by decide) ⟨rfl, rfl, rfl⟩ fl_X1_9 dX1_cut_13 ?_
    refine x_icmp_ge (tgt := 23) C dX1_cut_16 (by decide) hq (fun hq => ?_) (fun hq => ?_)
    · exact L_X1_cut_23 C hdm hA hR0 hce hR h0 _ _ hq
    · refine x_aload_n C 0 dX1_cut_19 rfl ?_
      refine x_callVv (K := 2) (rm := rmv 0 0 0 0) (As := []) (rest := []) C hA hR0 mf_X1_hone lk_X1_27 rfl h0 (by decide) ⟨rfl, rfl⟩ ⟨Nat.le_of_ble_eq_true rfl, Nat.le_of_ble_eq_true rfl⟩ rfl rfl (Nat.le_of_ble_eq_true rfl) hce dX1_cut_20 hq (fun _ h => c_X1_hone g.l g.G hdm h0 h) (fun w1 _ hq => ?_)
      exact L_X1_cut_23 C hdm hA hR0 hce hR h0 _ _ hq
set_option maxRecDepth 100000 in
set_option maxHeartbeats 4000000 in
theorem c_X1_cut (l : Launch) (G : Gd) {dm na : Nat} {ad : Nat → Nat} (hdm : dm = 0) {o0 : Nat} {x1 : Int} {w w' : Wd}  (h0 : isK na dm 2 o0) (hq : p_X1_cut o0 x1 w = some w') : mV l yX1_cut cX1_cut 2 none (rmv 1 21 0 0) G dm na ad [.ref (ad (o0)), iV (x1)] w w' := by
  refine met_V [(0, .ref (ad (o0))), (1, iV (x1))] (by decide) (Nat.le_of_ble_eq_true rfl) rfl rfl (fun g d C S hR => ?_)
  obtain ⟨rfl, hR0, rfl, rfl, rfl, hA⟩ := S
  exact L_X1_cut (d := (na, ad, 0, 0)) C hdm hA hR0 ⟨Nat.zero_le _, Nat.zero_le _⟩ hR h0 _ w hq
set_option maxRecDepth 100000 in
set_option maxHeartbeats 4000000 in
theorem L_X1_copy {g : Cx} {d : Dl} (C : CX g cX1_copy 2 none RX1) (hdm : g.dm = 0) (hA : ∀ q : Nat, g.s.heap.size ≤ q → g.A q) (hR0 : g.R = rmv 0 0 0 0) (hce : d.ce ≤ g.R.cells ∧ d.so ≤ g.R.slots) {res : Wd} (hR : rtV g d cX1_copy res) {o0 : Nat} {o1 : Nat} (h0 : isK d.na g.dm 2 o0) (h1 : isK d.na g.dm 2 o1)  (w : Wd) (hq : p_X1_copy o0 o1 w = some res) : XG g d (hP g d w) [(0, .ref (d.ad (o0))), (1, .ref (d.ad (o1)))] [] 0 := by
  refine x_aload_n C 0 dX1_copy_0 rfl ?_
  refine x_aload_n C 1 dX1_copy_1 rfl ?_
  refine x_get (K := 2) (k := 0) C h1 (by decide) cl_X1 (by decide) ⟨rfl, rfl, rfl⟩ fl_X1_9 dX1_copy_2 ?_
  refine x_put (K := 2) (k := 0) C h0 (by decide) cl_X1 (by decide) ⟨rfl, rfl, rfl, rfl⟩ fl_X1_9 ⟨rfl, rfl⟩ dX1_copy_5 ?_
  refine x_aload_n C 0 dX1_copy_8 rfl ?_
  refine x_aload_n C 1 dX1_copy_9 rfl ?_
  refine x_get (K := 2) (k := 1) C h1 (by decide) cl_X1 (by decide) ⟨rfl, rfl, rfl⟩ fl_X1_15 dX1_copy_10 ?_
  refine x_put (K := 2) (k := 1) C h0 (by decide) cl_X1 (by decide) ⟨rfl, rfl, rfl, rfl⟩ fl_X1_15 ⟨rfl, rfl⟩ dX1_copy_13 ?_
  refine nmW hq (fun w1 ew1 hq => ?_)
  rw [← ew1]
  refine x_aload_n C 0 dX1_copy_16 rfl ?_
  refine x_aload_n C 1 dX1_copy_17 rfl ?_
  refine x_get (K := 2) (k := 2) C h1 (by decide) cl_X1 (by decide) ⟨rfl, rfl, rfl⟩ fl_X1_18 dX1_copy_18 ?_
  refine x_put (K := 2) (k := 2) C h0 (by decide) cl_X1 (by decide) ⟨rfl, rfl, rfl, rfl⟩ fl_X1_18 ⟨rfl, rfl⟩ dX1_copy_21 ?_
  refine x_aload_n C 0 dX1_copy_24 rfl ?_
  refine x_aload_n C 1 dX1_copy_25 rfl ?_
  refine x_get (K := 2) (k := 3) C h1 (by decide) cl_X1 (by decide) ⟨rfl, rfl, rfl⟩ fl_X1_21 dX1_copy_26 ?_
  refine x_put (K := 2) (k := 3) C h0 (by decide) cl_X1 (by decide) ⟨rfl, rfl, rfl, rfl⟩ fl_X1_21 ⟨rfl, rfl⟩ dX1_copy_29 ?_
  refine nmW hq (fun w2 ew2 hq => ?_)
  rw [← ew2]
  refine x_aload_n C 0 dX1_copy_32 rfl ?_
  refine x_aload_n C 1 dX1_copy_33 rfl ?_
  refine x_get (K := 2) (k := 4) C h1 (by decide) cl_X1 (by decide) ⟨rfl, rfl, rfl⟩ fl_X1_24 dX1_copy_34 ?_
  refine x_put (K := 2) (k := 4) C h0 (by decide) cl_X1 (by decide) ⟨rfl, rfl, rfl, rfl⟩ fl_X1_24 ⟨rfl, rfl⟩ dX1_copy_37 ?_
  exact hR _ _ _ hq dX1_copy_40
set_option maxRecDepth 100000 in
set_option maxHeartbeats 4000000 in
theorem c_X1_copy (l : Launch) (G : Gd) {dm na : Nat} {ad : Nat → Nat} (hdm : dm = 0) {o0 : Nat} {o1 : Nat} {w w' : Wd}  (h0 : isK na dm 2 o0) (h1 : isK na dm 2 o1) (hq : p_X1_copy o0 o1 w = some w') : mV l yX1_copy cX1_copy 2 none (rmv 0 0 0 0) G dm na ad [.ref (ad (o0)), .ref (ad (o1))] w w' := by
  refine met_V [(0, .ref (ad (o0))), (1, .ref (ad (o1)))] (by decide) (Nat.le_of_ble_eq_true rfl) rfl rfl (fun g d C S hR => ?_)
  obtain ⟨rfl, hR0, rfl, rfl, rfl, hA⟩ := S
  exact L_X1_copy (d := (na, ad, 0, 0)) C hdm hA hR0 ⟨Nat.zero_le _, Nat.zero_le _⟩ hR h0 h1  w hq
set_option maxRecDepth 100000 in
set_option maxHeartbeats 4000000 in
theorem L_X5_at {g : Cx} {d : Dl} (C : CX g cX5_at 2 (some .int) RX5) (hdm : g.dm = 0) (hA : ∀ q : Nat, g.s.heap.size ≤ q → g.A q) (hR0 : g.R = rmv 0 0 0 0) (hce : d.ce ≤ g.R.cells ∧ d.so ≤ g.R.slots) {res : Int × Wd} (hR : rtI g d cX5_at .int res) {o0 : Nat} (h0 : isK d.na g.dm 6 o0) (x1 : Int) (w : Wd) (hq : p_X5_at o0 x1 w = some res) : XG g d (hP g d w) [(0, .ref (d.ad (o0))), (1, iV (x1))] [] 0 := by
  refine x_iload_n C 1 dX5_at_0 rfl ?_
  refine x_if_lt (tgt := 22) C dX5_at_1 (by decide) hq (fun hq => ?_) (fun hq => ?_)
  · refine x_iconst C dX5_at_22 ?_
    exact hR _ _ _ _ hq rfl dX5_at_23
  · refine x_iload_n C 1 dX5_at_4 rfl ?_
    refine x_aload_n C 0 dX5_at_5 rfl ?_
    refine x_getr (K := 6) (k := 0) (o2 := o0 + 1) C h0 (by decide) cl_X5 (by decide) ⟨rfl, rfl, rfl⟩ fl_X5_7 rfl dX5_at_6 ?_
    refine x_alen C (ik6 h0) dX5_at_9 ?_
    refine x_icmp_ge (tgt := 22) C dX5_at_10 (by decide) hq (fun hq => ?_) (fun hq => ?_)
    · refine x_iconst C dX5_at_22 ?_
      exact hR _ _ _ _ hq rfl dX5_at_23
    · refine x_aload_n C 0 dX5_at_13 rfl ?_
      refine x_getr (K := 6) (k := 0) (o2 := o0 + 1) C h0 (by decide) cl_X5 (by decide) ⟨rfl, rfl, rfl⟩ fl_X5_7 rfl dX5_at_14 ?_
      refine x_iload_n C 1 dX5_at_17 rfl ?_
      refine inb_2 hq (fun hi hq => ?_)
      refine x_iald C (ik6 h0) hi dX5_at_18 ?_
      refine x_goto (tgt := 23) C dX5_at_19 (by decide) ?_
      exact hR _ _ _ _ hq rfl dX5_at_23
set_option maxRecDepth 100000 in
set_option maxHeartbeats 4000000 in
theorem c_X5_at (l : Launch) (G : Gd) {dm na : Nat} {ad : Nat → Nat} (hdm : dm = 0) {o0 : Nat} {x1 : Int} {w w' : Wd} {r : Int} (h0 : isK na dm 6 o0) (hq : p_X5_at o0 x1 w = some (r, w')) : mI l yX5_at cX5_at 2 (some .int) (rmv 0 0 0 0) G dm na ad [.ref (ad (o0)), iV (x1)] w r w' := by
  refine met_I [(0, .ref (ad (o0))), (1, iV (x1))] (by decide) (Nat.le_of_ble_eq_true rfl) rfl .int rfl (fun g d C S hR => ?_)
  obtain ⟨rfl, hR0, rfl, rfl, rfl, hA⟩ := S
  exact L_X5_at (d := (na, ad, 0, 0)) C hdm hA hR0 ⟨Nat.zero_le _, Nat.zero_le _⟩ hR h0 _ w hq
set_option maxRecDepth 100000 in
set_option maxHeartbeats 4000000 in
theorem L_X2_cells {g : Cx} {d : Dl} (C : CX g cX2_cells 2 (some .int) RX2) (hdm : g.dm = 0) (hA : ∀ q : Nat, g.s.heap.size ≤ q → g.A q) (hR0 : g.R = rmv 0 0 0 0) (hce : d.ce ≤ g.R.cells ∧ d.so ≤ g.R.slots) {res : Int × Wd} (hR : rtI g d cX2_cells .int res) (x0 : Int) (x1 : Int) (w : Wd) (hq : p_X2_cells x0 x1 w = some res) : XG g d (hP g d w) [(0, iV (x0)), (1, iV (x1))] [] 0 := by
  refine x_iconst C dX2_cells_0 ?_
  refine x_iload_n C 1 dX2_cells_1 rfl ?_
  refine x_ishl C dX2_cells_2 ?_
  refine x_iconst C dX2_cells_3 ?_
  refine x_isub C dX2_cells_4 ?_
  refine x_iload_n C 0 dX2_cells_5 rfl ?_
  refine x_ishl C dX2_cells_6 ?_
  exact hR _ _ _ _ hq rfl dX2_cells_7
set_option maxRecDepth 100000 in
set_option maxHeartbeats 4000000 in
theorem c_X2_cells (l : Launch) (G : Gd) {dm na : Nat} {ad : Nat → Nat} (hdm : dm = 0) {x0 : Int} {x1 : Int} {w w' : Wd} {r : Int}  (hq : p_X2_cells x0 x1 w = some (r, w')) : mI l yX2_cells cX2_cells 2 (some .int) (rmv 0 0 0 0) G dm na ad [iV (x0), iV (x1)] w r w' := by
  refine met_I [(0, iV (x0)), (1, iV (x1))] (by decide) (Nat.le_of_ble_eq_true rfl) rfl .int rfl (fun g d C S hR => ?_)
  obtain ⟨rfl, hR0, rfl, rfl, rfl, hA⟩ := S
  exact L_X2_cells (d := (na, ad, 0, 0)) C hdm hA hR0 ⟨Nat.zero_le _, Nat.zero_le _⟩ hR  _ _ w hq
set_option maxRecDepth 100000 in
set_option maxHeartbeats 4000000 in
theorem L_X2_layWord_64 {g : Cx} {d : Dl} (C : CX g cX2_layWord 7 (some .boolean) RX2) (hdm : g.dm = 0) (hA : ∀ q : Nat, g.s.heap.size ≤ q → g.A q) (hR0 : g.R = rmv 1 22 0 0) (hce : d.ce ≤ g.R.cells ∧ d.so ≤ g.R.slots) {res : Int × Wd} (hR : rtI g d cX2_layWord .boolean res) {o0 : Nat} {o1 : Nat} (h0 : isK d.na g.dm 3 o0) (h1 : isK d.na g.dm 7 o1) (x2 : Int) (x3 : Int) (x5 : Int) (x6 : Int) (w : Wd) (hq : p_X2_layWord_64 o0 o1 x2 x3 x5 x6 w = some res) : XG g d (hP g d w) [(0, .ref (d.ad (o0))), (2, iV (x2)), (3, iV (x3)), (5, iV (x5)), (6, iV (x6))] [] 64 := by
  refine x_aload_n C 0 dX2_layWord_64 rfl ?_
  refine x_getr (K := 3) (k := 0) (o2 := o0 + 1) C h0 (by decide) cl_X2 (by decide) ⟨rfl, rfl, rfl⟩ fl_X2_14 rfl dX2_layWord_65 ?_
  refine x_iload_n C 1 dX2_layWord_68 rfl ?_
  refine x_iload C 3 dX2_layWord_69 rfl ?_
  refine x_callVv (K := 6) (rm := rmv 0 0 0 0) (As := [iV (x2), iV (x5)]) (rest := []) C hA hR0 mf_X5_put lk_X2_71 rfl (ik3 h0).1 (by decide) ⟨rfl, rfl⟩ ⟨Nat.le_of_ble_eq_true rfl, Nat.le_of_ble_eq_true rfl⟩ rfl rfl (Nat.le_of_ble_eq_true rfl) hce dX2_layWord_71 hq (fun _ h => c_X5_put g.l g.G hdm (ik3 h0).1 h) (fun w1 _ hq => ?_)
  refine x_aload_n C 0 dX2_layWord_74 rfl ?_
  refine x_getr (K := 3) (k := 1) (o2 := o0 + 3) C h0 (by decide) cl_X2 (by decide) ⟨rfl, rfl, rfl⟩ fl_X2_20 rfl dX2_layWord_75 ?_
  refine x_iload_n C 1 dX2_layWord_78 rfl ?_
  refine x_iload C 4 dX2_layWord_79 rfl ?_
  refine x_callVv (K := 6) (rm := rmv 0 0 0 0) (As := [iV (x2), iV (x6)]) (rest := []) C hA hR0 mf_X5_put lk_X2_71 rfl (ik3 h0).2.1 (by decide) ⟨rfl, rfl⟩ ⟨Nat.le_of_ble_eq_true rfl, Nat.le_of_ble_eq_true rfl⟩ rfl rfl (Nat.le_of_ble_eq_true rfl) hce dX2_layWord_81 hq (fun _ h => c_X5_put g.l g.G hdm (ik3 h0).2.1 h) (fun w2 _ hq => ?_)
  refine x_aload_n C 0 dX2_layWord_84 rfl ?_
  refine x_iload_n C 1 dX2_layWord_85 rfl ?_
  refine x_iconst C dX2_layWord_86 ?_
  refine x_iadd C dX2_layWord_87 ?_
  refine x_put (K := 3) (k := 4) C h0 (by decide) cl_X2 (by decide) ⟨rfl, rfl, rfl, rfl⟩ fl_X2_29 ⟨rfl, rfl⟩ dX2_layWord_88 ?_
  refine x_aload_n C 0 dX2_layWord_91 rfl ?_
  refine x_iload C 3 dX2_layWord_92 rfl ?_
  refine x_put (K := 3) (k := 6) C h0 (by decide) cl_X2 (by decide) ⟨rfl, rfl, rfl, rfl⟩ fl_X2_36 ⟨rfl, rfl⟩ dX2_layWord_94 ?_
  refine nmW hq (fun w3 ew3 hq => ?_)
  rw [← ew3]
  refine x_aload_n C 0 dX2_layWord_97 rfl ?_
  refine x_iload C 4 dX2_layWord_98 rfl ?_
  refine x_iload_n C 2 dX2_layWord_100 rfl ?_
  refine x_iadd C dX2_layWord_101 ?_
  refine x_iconst C dX2_layWord_102 ?_
  refine x_iadd C dX2_layWord_103 ?_
  refine x_put (K := 3) (k := 7) C h0 (by decide) cl_X2 (by decide) ⟨rfl, rfl, rfl, rfl⟩ fl_X2_39 ⟨rfl, rfl⟩ dX2_layWord_104 ?_
  refine x_iconst C dX2_layWord_107 ?_
  exact hR _ _ _ _ hq (by decide +kernel) dX2_layWord_108
set_option maxRecDepth 100000 in
set_option maxHeartbeats 4000000 in
theorem L_X2_layWord_115 {g : Cx} {d : Dl} (C : CX g cX2_layWord 7 (some .boolean) RX2) (hdm : g.dm = 0) (hA : ∀ q : Nat, g.s.heap.size ≤ q → g.A q) (hR0 : g.R = rmv 1 22 0 0) (hce : d.ce ≤ g.R.cells ∧ d.so ≤ g.R.slots) {res : Int × Wd} (hR : rtI g d cX2_layWord .boolean res) {o0 : Nat} {o1 : Nat} (h0 : isK d.na g.dm 3 o0) (h1 : isK d.na g.dm 7 o1) {k21 : Int → Int → Int → Int → Wd → Option (Int × Wd)} (hk21 : ∀ (x2 : Int) (x3 : Int) (x4 : Int) (x5 : Int) (w : Wd), k21 x2 x3 x4 x5 w = some res → XG g d (hP g d w) [(0, .ref (d.ad (o0))), (1, .ref (d.ad (o1))), (2, iV (x2)), (3, iV (x3)), (4, iV (x4)), (5, iV (x5))] [] 21) (x2 : Int) (x3 : Int) (x5 : Int) (w : Wd) (hq : p_X2_layWord_115 o0 o1 k21 x2 x3 x5 w = some res) : XG g d (hP g d w) [(0, .ref (d.ad (o0))), (1, .ref (d.ad (o1))), (2, iV (x2)), (3, iV (x3)), (5, iV (x5))] [] 115 := by
  refine x_iconst C dX2_layWord_115 ?_
  refine x_istore (lv' := [(4, iV (0)), (0, .ref (d.ad (o0))), (1, .ref (d.ad (o1))), (2, iV (x2)), (3, iV (x3)), (5, iV (x5))]) C dX2_layWord_116 (by decide) rfl ?_
  refine x_iinc (lv' := [(5, iV (x5 + 1)), (4, iV (0)), (0, .ref (d.ad (o0))), (1, .ref (d.ad (o1))), (2, iV (x2)), (3, iV (x3))]) C 5 dX2_layWord_118 rfl (by decide) rfl ?_
  refine x_goto (tgt := 21) C dX2_layWord_121 (by decide) ?_
  refine XG.sub [2, 3, 4, 5, 1, 0] rfl ?_
  exact hk21 _ _ _ _ _ hq
set_option maxRecDepth 100000 in
set_option maxHeartbeats 4000000 in
theorem L_X2_layWord_34 {g : Cx} {d : Dl} (C : CX g cX2_layWord 7 (some .boolean) RX2) (hdm : g.dm = 0) (hA : ∀ q : Nat, g.s.heap.size ≤ q → g.A q) (hR0 : g.R = rmv 1 22 0 0) (hce : d.ce ≤ g.R.cells ∧ d.so ≤ g.R.slots) {res : Int × Wd} (hR : rtI g d cX2_layWord .boolean res) {o0 : Nat} {o1 : Nat} (h0 : isK d.na g.dm 3 o0) (h1 : isK d.na g.dm 7 o1) {k21 : Int → Int → Int → Int → Wd → Option (Int × Wd)} (hk21 : ∀ (x2 : Int) (x3 : Int) (x4 : Int) (x5 : Int) (w : Wd), k21 x2 x3 x4 x5 w = some res → XG g d (hP g d w) [(0, .ref (d.ad (o0))), (1, .ref (d.ad (o1))), (2, iV (x2)), (3, iV (x3)), (4, iV (x4)), (5, iV (x5))] [] 21) : ∀ (n : Nat) (x2 : Int) (x3 : Int) (x5 : Int) (x6 : Int) (w : Wd), p_X2_layWord_34 o0 o1 k21 n x2 x3 x5 x6 w = some res → XG g d (hP g d w) [(0, .ref (d.ad (o0))), (1, .ref (d.ad (o1))), (2, iV (x2)), (3, iV (x3)), (5, iV (x5)), (6, iV (x6))] [] 34 := by
  intro n
  induction n with
  | zero => intro x2 x3 x5 x6 w  hq; exact nomatch (show none = some _ from hq)
  | succ n ih =>
    intro x2 x3 x5 x6 w  hq
    refine x_iload C 5 dX2_layWord_34 rfl ?_
    refine x_iload_n C 3 dX2_layWord_36 rfl ?_
    refine x_iadd C dX2_layWord_37 ?_
    refine x_aload_n C 1 dX2_layWord_38 rfl ?_
    refine x_get (K := 7) (k := 0) C h1 (by decide) cl_X6 (by decide) ⟨rfl, rfl, rfl⟩ fl_X2_85 dX2_layWord_39 ?_
    refine x_icmp_gt (tgt := 115) C dX2_layWord_42 (by decide) hq (fun hq => ?_) (fun hq => ?_)
    · refine XG.sub [0, 1, 2, 3, 4] rfl ?_
      exact L_X2_layWord_115 C hdm hA hR0 hce hR h0 h1 hk21 _ _ _ _ hq
    · refine x_aload_n C 1 dX2_layWord_45 rfl ?_
      refine x_getr (K := 7) (k := 3) (o2 := o1 + 1) C h1 (by decide) cl_X6 (by decide) ⟨rfl, rfl, rfl⟩ fl_X2_88 rfl dX2_layWord_46 ?_
      refine x_iload C 4 dX2_layWord_49 rfl ?_
      refine x_callVi (K := 6) (rm := rmv 0 0 0 0) (As := [iV (x5)]) (rest := []) C hA hR0 mf_X5_at lk_X2_50 rfl (ik7 h1).1 (by decide) ⟨rfl, rfl⟩ ⟨Nat.le_of_ble_eq_true rfl, Nat.le_of_ble_eq_true rfl⟩ rfl rfl (Nat.le_of_ble_eq_true rfl) hce dX2_layWord_51 hq (fun _ _ h => c_X5_at g.l g.G hdm (ik7 h1).1 h) (fun r2 w1 _ hq => ?_)
      refine x_iload C 5 dX2_layWord_54 rfl ?_
      refine x_iload_n C 3 dX2_layWord_56 rfl ?_
      refine x_callSi (rm := rmv 0 0 0 0) (As := [iV (x6), iV (x3)]) (rest := [iV (r2)]) C hA hR0 mf_X2_cells lk_X2_91 ⟨rfl, rfl⟩ ⟨Nat.le_of_ble_eq_true rfl, Nat.le_of_ble_eq_true rfl⟩ rfl rfl (Nat.le_of_ble_eq_true rfl) hce dX2_layWord_57 hq (fun _ _ h => c_X2_cells g.l g.G hdm  h) (fun r4 w3 _ hq => ?_)
      refine x_iand C dX2_layWord_60 ?_
      refine x_if_ne (tgt := 109) C dX2_layWord_61 (by decide) hq (fun hq => ?_) (fun hq => ?_)
      · refine x_iinc (lv' := [(6, iV (x6 + 1)), (0, .ref (d.ad (o0))), (1, .ref (d.ad (o1))), (2, iV (x2)), (3, iV (x3)), (5, iV (x5))]) C 5 dX2_layWord_109 rfl (by decide) rfl ?_
        refine x_goto (tgt := 34) C dX2_layWord_112 (by decide) ?_
        refine XG.sub [1, 2, 3, 4, 5, 0] rfl ?_
        exact ih _ _ _ _ _ hq
      · refine XG.sub [0, 2, 3, 4, 5] rfl ?_
        exact L_X2_layWord_64 C hdm hA hR0 hce hR h0 h1 _ _ _ _ _ hq
set_option maxRecDepth 100000 in
set_option maxHeartbeats 4000000 in
theorem L_X2_layWord_21 {g : Cx} {d : Dl} (C : CX g cX2_layWord 7 (some .boolean) RX2) (hdm : g.dm = 0) (hA : ∀ q : Nat, g.s.heap.size ≤ q → g.A q) (hR0 : g.R = rmv 1 22 0 0) (hce : d.ce ≤ g.R.cells ∧ d.so ≤ g.R.slots) {res : Int × Wd} (hR : rtI g d cX2_layWord .boolean res) {o0 : Nat} {o1 : Nat} (h0 : isK d.na g.dm 3 o0) (h1 : isK d.na g.dm 7 o1) : ∀ (n : Nat) (x2 : Int) (x3 : Int) (x4 : Int) (x5 : Int) (w : Wd), p_X2_layWord_21 o0 o1 n x2 x3 x4 x5 w = some res → XG g d (hP g d w) [(0, .ref (d.ad (o0))), (1, .ref (d.ad (o1))), (2, iV (x2)), (3, iV (x3)), (4, iV (x4)), (5, iV (x5))] [] 21 := by
  intro n
  induction n with
  | zero => intro x2 x3 x4 x5 w  hq; exact nomatch (show none = some _ from hq)
  | succ n ih =>
    intro x2 x3 x4 x5 w  hq
    refine x_iload C 5 dX2_layWord_21 rfl ?_
    refine x_aload_n C 1 dX2_layWord_23 rfl ?_
    refine x_get (K := 7) (k := 1) C h1 (by decide) cl_X6 (by decide) ⟨rfl, rfl, rfl⟩ fl_X2_82 dX2_layWord_24 ?_
    refine x_icmp_ge (tgt := 124) C dX2_layWord_27 (by decide) hq (fun hq => ?_) (fun hq => ?_)
    · refine x_iconst C dX2_layWord_124 ?_
      exact hR _ _ _ _ hq (by decide +kernel) dX2_layWord_125
    · refine x_iload C 4 dX2_layWord_30 rfl ?_
      refine x_istore (lv' := [(6, iV (x4)), (0, .ref (d.ad (o0))), (1, .ref (d.ad (o1))), (2, iV (x2)), (3, iV (x3)), (4, iV (x4)), (5, iV (x5))]) C dX2_layWord_32 (by decide) rfl ?_
      refine XG.sub [1, 2, 3, 4, 6, 0] rfl ?_
      exact L_X2_layWord_34 C hdm hA hR0 hce hR h0 h1 ih _ _ _ _ _ _ hq
set_option maxRecDepth 100000 in
set_option maxHeartbeats 4000000 in
theorem L_X2_layWord {g : Cx} {d : Dl} (C : CX g cX2_layWord 7 (some .boolean) RX2) (hdm : g.dm = 0) (hA : ∀ q : Nat, g.s.heap.size ≤ q → g.A q) (hR0 : g.R = rmv 1 22 0 0) (hce : d.ce ≤ g.R.cells ∧ d.so ≤ g.R.slots) {res : Int × Wd} (hR : rtI g d cX2_layWord .boolean res) {o0 : Nat} {o1 : Nat} (h0 : isK d.na g.dm 3 o0) (h1 : isK d.na g.dm 7 o1) (x2 : Int) (w : Wd) (hq : p_X2_layWord o0 o1 x2 w = some res) : XG g d (hP g d w) [(0, .ref (d.ad (o0))), (1, .ref (d.ad (o1))), (2, iV (x2))] [] 0 := by
  refine x_aload_n C 1 dX2_layWord_0 rfl ?_
  refine x_getr (K := 7) (k := 8) (o2 := o1 + 7) C h1 (by decide) cl_X6 (by decide) ⟨rfl, rfl, rfl⟩ fl_X2_79 rfl dX2_layWord_1 ?_
  refine x_iload_n C 2 dX2_layWord_4 rfl ?_
  refine x_callVi (K := 6) (rm := rmv 0 0 0 0) (As := [iV (x2)]) (rest := []) C hA hR0 mf_X5_at lk_X2_50 rfl (ik7 h1).2.2.2.1 (by decide) ⟨rfl, rfl⟩ ⟨Nat.le_of_ble_eq_true rfl, Nat.le_of_ble_eq_true rfl⟩ rfl rfl (Nat.le_of_ble_eq_true rfl) hce dX2_layWord_5 hq (fun _ _ h => c_X5_at g.l g.G hdm (ik7 h1).2.2.2.1 h) (fun r2 w1 _ hq => ?_)
  refine x_istore_n (lv' := [(3, iV (r2)), (0, .ref (d.ad (o0))), (1, .ref (d.ad (o1))), (2, iV (x2))]) C dX2_layWord_8 (by decide) rfl ?_
  refine x_aload_n C 1 dX2_layWord_9 rfl ?_
  refine x_get (K := 3) (k := 7) C h0 (by decide) cl_X2 (by decide) ⟨rfl, rfl, rfl⟩ fl_X2_39 dX2_layWord_10 ?_
  refine x_istore (lv' := [(4, iV (gF w1 o0 7)), (3, iV (r2)), (0, .ref (d.ad (o0))), (1, .ref (d.ad (o1))), (2, iV (x2))]) C dX2_layWord_13 (by decide) rfl ?_
  refine x_aload_n C 2 dX2_layWord_15 rfl ?_
  refine x_get (K := 3) (k := 6) C h0 (by decide) cl_X2 (by decide) ⟨rfl, rfl, rfl⟩ fl_X2_36 dX2_layWord_16 ?_
  refine x_istore (lv' := [(5, iV (gF w1 o0 6)), (4, iV (gF w1 o0 7)), (3, iV (r2)), (0, .ref (d.ad (o0))), (1, .ref (d.ad (o1))), (2, iV (x2))]) C dX2_layWord_19 (by decide) rfl ?_
  refine XG.sub [3, 4, 5, 2, 1, 0] rfl ?_
  exact L_X2_layWord_21 C hdm hA hR0 hce hR h0 h1 _ _ _ _ _ _ hq
set_option maxRecDepth 100000 in
set_option maxHeartbeats 4000000 in
theorem c_X2_layWord (l : Launch) (G : Gd) {dm na : Nat} {ad : Nat → Nat} (hdm : dm = 0) {o0 : Nat} {o1 : Nat} {x2 : Int} {w w' : Wd} {r : Int} (h0 : isK na dm 3 o0) (h1 : isK na dm 7 o1) (hq : p_X2_layWord o0 o1 x2 w = some (r, w')) : mI l yX2_layWord cX2_layWord 7 (some .boolean) (rmv 1 22 0 0) G dm na ad [.ref (ad (o0)), .ref (ad (o1)), iV (x2)] w r w' := by
  refine met_I [(0, .ref (ad (o0))), (1, .ref (ad (o1))), (2, iV (x2))] (by decide) (Nat.le_of_ble_eq_true rfl) rfl .boolean rfl (fun g d C S hR => ?_)
  obtain ⟨rfl, hR0, rfl, rfl, rfl, hA⟩ := S
  exact L_X2_layWord (d := (na, ad, 0, 0)) C hdm hA hR0 ⟨Nat.zero_le _, Nat.zero_le _⟩ hR h0 h1 _ w hq
set_option maxRecDepth 100000 in
set_option maxHeartbeats 4000000 in
theorem L_X2_layWords_8 {g : Cx} {d : Dl} (C : CX g cX2_layWords 5 none RX2) (hdm : g.dm = 0) (hA : ∀ q : Nat, g.s.heap.size ≤ q → g.A q) (hR0 : g.R = rmv 2 48 0 0) (hce : d.ce ≤ g.R.cells ∧ d.so ≤ g.R.slots) {res : Wd} (hR : rtV g d cX2_layWords res) {o0 : Nat} {o1 : Nat} (h0 : isK d.na g.dm 3 o0) (h1 : isK d.na g.dm 7 o1) : ∀ (n : Nat) (x2 : Int) (x3 : Int) (x4 : Int) (w : Wd), p_X2_layWords_8 o0 o1 n x2 x3 x4 w = some res → XG g d (hP g d w) [(0, .ref (d.ad (o0))), (1, .ref (d.ad (o1))), (2, iV (x2)), (3, iV (x3)), (4, iV (x4))] [] 8 := by
  intro n
  induction n with
  | zero => intro x2 x3 x4 w  hq; exact nomatch (show none = some _ from hq)
  | succ n ih =>
    intro x2 x3 x4 w  hq
    refine x_iload C 4 dX2_layWords_8 rfl ?_
    refine x_iload_n C 2 dX2_layWords_10 rfl ?_
    refine x_icmp_ge (tgt := 32) C dX2_layWords_11 (by decide) hq (fun hq => ?_) (fun hq => ?_)
    · exact hR _ _ _ hq dX2_layWords_32
    · refine x_iload_n C 3 dX2_layWords_14 rfl ?_
      refine x_if_eq (tgt := 32) C dX2_layWords_15 (by decide) hq (fun hq => ?_) (fun hq => ?_)
      · exact hR _ _ _ hq dX2_layWords_32
      · refine x_aload_n C 0 dX2_layWords_18 rfl ?_
        refine x_aload_n C 1 dX2_layWords_19 rfl ?_
        refine x_iload C 4 dX2_layWords_20 rfl ?_
        refine x_callVi (K := 3) (rm := rmv 1 22 0 0) (As := [.ref (d.ad (o1)), iV (x4)]) (rest := []) C hA hR0 mf_X2_layWord lk_X2_75 rfl h0 (by decide) ⟨rfl, rfl⟩ ⟨Nat.le_of_ble_eq_true rfl, Nat.le_of_ble_eq_true rfl⟩ rfl rfl (Nat.le_of_ble_eq_true rfl) hce dX2_layWords_22 hq (fun _ _ h => c_X2_layWord g.l g.G hdm h0 h1 h) (fun r2 w1 _ hq => ?_)
        refine x_istore_n (lv' := [(3, iV (r2)), (0, .ref (d.ad (o0))), (1, .ref (d.ad (o1))), (2, iV (x2)), (4, iV (x4))]) C dX2_layWords_25 (by decide) rfl ?_
        refine x_iinc (lv' := [(4, iV (x4 + 1)), (3, iV (r2)), (0, .ref (d.ad (o0))), (1, .ref (d.ad (o1))), (2, iV (x2))]) C 4 dX2_layWords_26 rfl (by decide) rfl ?_
        refine x_goto (tgt := 8) C dX2_layWords_29 (by decide) ?_
        refine XG.sub [2, 3, 4, 1, 0] rfl ?_
        exact ih _ _ _ _ hq
set_option maxRecDepth 100000 in
set_option maxHeartbeats 4000000 in
theorem L_X2_layWords {g : Cx} {d : Dl} (C : CX g cX2_layWords 5 none RX2) (hdm : g.dm = 0) (hA : ∀ q : Nat, g.s.heap.size ≤ q → g.A q) (hR0 : g.R = rmv 2 48 0 0) (hce : d.ce ≤ g.R.cells ∧ d.so ≤ g.R.slots) {res : Wd} (hR : rtV g d cX2_layWords res) {o0 : Nat} {o1 : Nat} (h0 : isK d.na g.dm 3 o0) (h1 : isK d.na g.dm 7 o1) (x2 : Int) (w : Wd) (hq : p_X2_layWords o0 o1 x2 w = some res) : XG g d (hP g d w) [(0, .ref (d.ad (o0))), (1, .ref (d.ad (o1))), (2, iV (x2))] [] 0 := by
  refine x_iconst C dX2_layWords_0 ?_
  refine x_istore_n (lv' := [(3, iV (1)), (0, .ref (d.ad (o0))), (1, .ref (d.ad (o1))), (2, iV (x2))]) C dX2_layWords_1 (by decide) rfl ?_
  refine x_aload_n C 1 dX2_layWords_2 rfl ?_
  refine x_get (K := 3) (k := 4) C h0 (by decide) cl_X2 (by decide) ⟨rfl, rfl, rfl⟩ fl_X2_29 dX2_layWords_3 ?_
  refine x_istore (lv' := [(4, iV (gF w o0 4)), (3, iV (1)), (0, .ref (d.ad (o0))), (1, .ref (d.ad (o1))), (2, iV (x2))]) C dX2_layWords_6 (by decide) rfl ?_
  refine XG.sub [2, 3, 4, 1, 0] rfl ?_
  exact L_X2_layWords_8 C hdm hA hR0 hce hR h0 h1 _ _ _ _ _ hq
set_option maxRecDepth 100000 in
set_option maxHeartbeats 4000000 in
theorem c_X2_layWords (l : Launch) (G : Gd) {dm na : Nat} {ad : Nat → Nat} (hdm : dm = 0) {o0 : Nat} {o1 : Nat} {x2 : Int} {w w' : Wd}  (h0 : isK na dm 3 o0) (h1 : isK na dm 7 o1) (hq : p_X2_layWords o0 o1 x2 w = some w') : mV l yX2_layWords cX2_layWords 5 none (rmv 2 48 0 0) G dm na ad [.ref (ad (o0)), .ref (ad (o1)), iV (x2)] w w' := by
  refine met_V [(0, .ref (ad (o0))), (1, .ref (ad (o1))), (2, iV (x2))] (by decide) (Nat.le_of_ble_eq_true rfl) rfl rfl (fun g d C S hR => ?_)
  obtain ⟨rfl, hR0, rfl, rfl, rfl, hA⟩ := S
  exact L_X2_layWords (d := (na, ad, 0, 0)) C hdm hA hR0 ⟨Nat.zero_le _, Nat.zero_le _⟩ hR h0 h1 _ w hq
set_option maxRecDepth 100000 in
set_option maxHeartbeats 4000000 in
theorem L_X2_centreRow_121 {g : Cx} {d : Dl} (C : CX g cX2_centreRow 9 none RX2) (hdm : g.dm = 0) (hA : ∀ q : Nat, g.s.heap.size ≤ q → g.A q) (hR0 : g.R = rmv 1 22 0 0) (hce : d.ce ≤ g.R.cells ∧ d.so ≤ g.R.slots) {res : Wd} (hR : rtV g d cX2_centreRow res) {o0 : Nat} {o1 : Nat} (h0 : isK d.na g.dm 3 o0) (h1 : isK d.na g.dm 7 o1) : ∀ (n : Nat) (x3 : Int) (x7 : Int) (x8 : Int) (w : Wd), p_X2_centreRow_121 o0 o1 n x3 x7 x8 w = some res → XG g d (hP g d w) [(0, .ref (d.ad (o0))), (3, iV (x3)), (7, iV (x7)), (8, iV (x8))] [] 121 := by
  intro n
  induction n with
  | zero => intro x3 x7 x8 w  hq; exact nomatch (show none = some _ from hq)
  | succ n ih =>
    intro x3 x7 x8 w  hq
    refine x_iload C 3 dX2_centreRow_121 rfl ?_
    refine x_iload_n C 1 dX2_centreRow_123 rfl ?_
    refine x_icmp_ge (tgt := 154) C dX2_centreRow_124 (by decide) hq (fun hq => ?_) (fun hq => ?_)
    · exact hR _ _ _ hq dX2_centreRow_154
    · refine x_aload_n C 0 dX2_centreRow_127 rfl ?_
      refine x_getr (K := 3) (k := 1) (o2 := o0 + 3) C h0 (by decide) cl_X2 (by decide) ⟨rfl, rfl, rfl⟩ fl_X2_20 rfl dX2_centreRow_128 ?_
      refine x_iload C 3 dX2_centreRow_131 rfl ?_
      refine x_aload_n C 0 dX2_centreRow_133 rfl ?_
      refine x_getr (K := 3) (k := 1) (o2 := o0 + 3) C h0 (by decide) cl_X2 (by decide) ⟨rfl, rfl, rfl⟩ fl_X2_20 rfl dX2_centreRow_134 ?_
      refine x_iload C 3 dX2_centreRow_137 rfl ?_
      refine x_callVi (K := 6) (rm := rmv 0 0 0 0) (As := [iV (x8)]) (rest := [iV (x8), .ref (d.ad (o0 + 3))]) C hA hR0 mf_X5_at lk_X2_50 rfl (ik3 h0).2.1 (by decide) ⟨rfl, rfl⟩ ⟨Nat.le_of_ble_eq_true rfl, Nat.le_of_ble_eq_true rfl⟩ rfl rfl (Nat.le_of_ble_eq_true rfl) hce dX2_centreRow_139 hq (fun _ _ h => c_X5_at g.l g.G hdm (ik3 h0).2.1 h) (fun r2 w1 _ hq => ?_)
      refine x_iload C 2 dX2_centreRow_142 rfl ?_
      refine x_iadd C dX2_centreRow_144 ?_
      refine x_callVv (K := 6) (rm := rmv 0 0 0 0) (As := [iV (x8), iV (r2 + x7)]) (rest := []) C hA hR0 mf_X5_put lk_X2_71 rfl (ik3 h0).2.1 (by decide) ⟨rfl, rfl⟩ ⟨Nat.le_of_ble_eq_true rfl, Nat.le_of_ble_eq_true rfl⟩ rfl rfl (Nat.le_of_ble_eq_true rfl) hce dX2_centreRow_145 hq (fun _ h => c_X5_put g.l g.G hdm (ik3 h0).2.1 h) (fun w3 _ hq => ?_)
      refine x_iinc (lv' := [(8, iV (x8 + 1)), (0, .ref (d.ad (o0))), (3, iV (x3)), (7, iV (x7))]) C 3 dX2_centreRow_148 rfl (by decide) rfl ?_
      refine x_goto (tgt := 121) C dX2_centreRow_151 (by decide) ?_
      refine XG.sub [1, 2, 3, 0] rfl ?_
      exact ih _ _ _ _ hq
set_option maxRecDepth 100000 in
set_option maxHeartbeats 4000000 in
theorem L_X2_centreRow_118 {g : Cx} {d : Dl} (C : CX g cX2_centreRow 9 none RX2) (hdm : g.dm = 0) (hA : ∀ q : Nat, g.s.heap.size ≤ q → g.A q) (hR0 : g.R = rmv 1 22 0 0) (hce : d.ce ≤ g.R.cells ∧ d.so ≤ g.R.slots) {res : Wd} (hR : rtV g d cX2_centreRow res) {o0 : Nat} {o1 : Nat} (h0 : isK d.na g.dm 3 o0) (h1 : isK d.na g.dm 7 o1) (x2 : Int) (x3 : Int) (x7 : Int) (w : Wd) (hq : p_X2_centreRow_118 o0 o1 x2 x3 x7 w = some res) : XG g d (hP g d w) [(0, .ref (d.ad (o0))), (2, iV (x2)), (3, iV (x3)), (7, iV (x7))] [] 118 := by
  refine x_iload_n C 1 dX2_centreRow_118 rfl ?_
  refine x_istore (lv' := [(8, iV (x2)), (0, .ref (d.ad (o0))), (2, iV (x2)), (3, iV (x3)), (7, iV (x7))]) C dX2_centreRow_119 (by decide) rfl ?_
  refine XG.sub [1, 3, 4, 0] rfl ?_
  exact L_X2_centreRow_121 C hdm hA hR0 hce hR h0 h1 _ _ _ _ _ hq
set_option maxRecDepth 100000 in
set_option maxHeartbeats 4000000 in
theorem L_X2_centreRow_96 {g : Cx} {d : Dl} (C : CX g cX2_centreRow 9 none RX2) (hdm : g.dm = 0) (hA : ∀ q : Nat, g.s.heap.size ≤ q → g.A q) (hR0 : g.R = rmv 1 22 0 0) (hce : d.ce ≤ g.R.cells ∧ d.so ≤ g.R.slots) {res : Wd} (hR : rtV g d cX2_centreRow res) {o0 : Nat} {o1 : Nat} (h0 : isK d.na g.dm 3 o0) (h1 : isK d.na g.dm 7 o1) : ∀ (n : Nat) (x2 : Int) (x3 : Int) (x4 : Int) (x6 : Int) (x7 : Int) (w : Wd), p_X2_centreRow_96 o0 o1 n x2 x3 x4 x6 x7 w = some res → XG g d (hP g d w) [(0, .ref (d.ad (o0))), (2, iV (x2)), (3, iV (x3)), (4, iV (x4)), (6, iV (x6)), (7, iV (x7))] [] 96 := by
  intro n
  induction n with
  | zero => intro x2 x3 x4 x6 x7 w  hq; exact nomatch (show none = some _ from hq)
  | succ n ih =>
    intro x2 x3 x4 x6 x7 w  hq
    refine x_iload C 5 dX2_centreRow_96 rfl ?_
    refine x_if_le (tgt := 118) C dX2_centreRow_98 (by decide) hq (fun hq => ?_) (fun hq => ?_)
    · refine XG.sub [0, 1, 2, 5] rfl ?_
      exact L_X2_centreRow_118 C hdm hA hR0 hce hR h0 h1 _ _ _ _ hq
    · refine x_iload C 4 dX2_centreRow_101 rfl ?_
      refine x_iload C 3 dX2_centreRow_103 rfl ?_
      refine x_iload C 5 dX2_centreRow_105 rfl ?_
      refine x_ishl C dX2_centreRow_107 ?_
      refine x_iand C dX2_centreRow_108 ?_
      refine x_if_eq (tgt := 118) C dX2_centreRow_109 (by decide) hq (fun hq => ?_) (fun hq => ?_)
      · refine XG.sub [0, 1, 2, 5] rfl ?_
        exact L_X2_centreRow_118 C hdm hA hR0 hce hR h0 h1 _ _ _ _ hq
      · refine x_iinc (lv' := [(7, iV (x7 + (-1))), (0, .ref (d.ad (o0))), (2, iV (x2)), (3, iV (x3)), (4, iV (x4)), (6, iV (x6))]) C 5 dX2_centreRow_112 rfl (by decide) rfl ?_
        refine x_goto (tgt := 96) C dX2_centreRow_115 (by decide) ?_
        refine XG.sub [1, 2, 3, 4, 5, 0] rfl ?_
        exact ih _ _ _ _ _ _ hq
set_option maxRecDepth 100000 in
set_option maxHeartbeats 4000000 in
theorem L_X2_centreRow_68 {g : Cx} {d : Dl} (C : CX g cX2_centreRow 9 none RX2) (hdm : g.dm = 0) (hA : ∀ q : Nat, g.s.heap.size ≤ q → g.A q) (hR0 : g.R = rmv 1 22 0 0) (hce : d.ce ≤ g.R.cells ∧ d.so ≤ g.R.slots) {res : Wd} (hR : rtV g d cX2_centreRow res) {o0 : Nat} {o1 : Nat} (h0 : isK d.na g.dm 3 o0) (h1 : isK d.na g.dm 7 o1) (x2 : Int) (x3 : Int) (x4 : Int) (x5 : Int) (w : Wd) (hq : p_X2_centreRow_68 o0 o1 x2 x3 x4 x5 w = some res) : XG g d (hP g d w) [(0, .ref (d.ad (o0))), (1, .ref (d.ad (o1))), (2, iV (x2)), (3, iV (x3)), (4, iV (x4)), (5, iV (x5))] [] 68 := by
  refine x_aload_n C 1 dX2_centreRow_68 rfl ?_
  refine x_getr (K := 7) (k := 3) (o2 := o1 + 1) C h1 (by decide) cl_X6 (by decide) ⟨rfl, rfl, rfl⟩ fl_X2_88 rfl dX2_centreRow_69 ?_
  refine x_aload_n C 0 dX2_centreRow_72 rfl ?_
  refine x_getr (K := 3) (k := 0) (o2 := o0 + 1) C h0 (by decide) cl_X2 (by decide) ⟨rfl, rfl, rfl⟩ fl_X2_14 rfl dX2_centreRow_73 ?_
  refine x_iload_n C 2 dX2_centreRow_76 rfl ?_
  refine x_callVi (K := 6) (rm := rmv 0 0 0 0) (As := [iV (x2)]) (rest := [.ref (d.ad (o1 + 1))]) C hA hR0 mf_X5_at lk_X2_50 rfl (ik3 h0).1 (by decide) ⟨rfl, rfl⟩ ⟨Nat.le_of_ble_eq_true rfl, Nat.le_of_ble_eq_true rfl⟩ rfl rfl (Nat.le_of_ble_eq_true rfl) hce dX2_centreRow_77 hq (fun _ _ h => c_X5_at g.l g.G hdm (ik3 h0).1 h) (fun r2 w1 _ hq => ?_)
  refine x_callVi (K := 6) (rm := rmv 0 0 0 0) (As := [iV (r2)]) (rest := []) C hA hR0 mf_X5_at lk_X2_50 rfl (ik7 h1).1 (by decide) ⟨rfl, rfl⟩ ⟨Nat.le_of_ble_eq_true rfl, Nat.le_of_ble_eq_true rfl⟩ rfl rfl (Nat.le_of_ble_eq_true rfl) hce dX2_centreRow_80 hq (fun _ _ h => c_X5_at g.l g.G hdm (ik7 h1).1 h) (fun r4 w3 _ hq => ?_)
  refine x_istore (lv' := [(6, iV (r4)), (0, .ref (d.ad (o0))), (1, .ref (d.ad (o1))), (2, iV (x2)), (3, iV (x3)), (4, iV (x4)), (5, iV (x5))]) C dX2_centreRow_83 (by decide) rfl ?_
  refine x_aload_n C 2 dX2_centreRow_85 rfl ?_
  refine x_get (K := 7) (k := 0) C h1 (by decide) cl_X6 (by decide) ⟨rfl, rfl, rfl⟩ fl_X2_85 dX2_centreRow_86 ?_
  refine x_iload C 6 dX2_centreRow_89 rfl ?_
  refine x_isub C dX2_centreRow_91 ?_
  refine x_iconst C dX2_centreRow_92 ?_
  refine x_idiv C (by decide +kernel) dX2_centreRow_93 ?_
  refine x_istore (lv' := [(7, iV (dv32 ((gF w3 o1 0) - x5) 2)), (6, iV (r4)), (0, .ref (d.ad (o0))), (1, .ref (d.ad (o1))), (2, iV (x2)), (3, iV (x3)), (4, iV (x4)), (5, iV (x5))]) C dX2_centreRow_94 (by decide) rfl ?_
  refine XG.sub [2, 4, 5, 6, 1, 0] rfl ?_
  exact L_X2_centreRow_96 C hdm hA hR0 hce hR h0 h1 _ _ _ _ _ _ _ hq
set_option maxRecDepth 100000 in
set_option maxHeartbeats 4000000 in
theorem L_X2_centreRow_9 {g : Cx} {d : Dl} (C : CX g cX2_centreRow 9 none RX2) (hdm : g.dm = 0) (hA : ∀ q : Nat, g.s.heap.size ≤ q → g.A q) (hR0 : g.R = rmv 1 22 0 0) (hce : d.ce ≤ g.R.cells ∧ d.so ≤ g.R.slots) {res : Wd} (hR : rtV g d cX2_centreRow res) {o0 : Nat} {o1 : Nat} (h0 : isK d.na g.dm 3 o0) (h1 : isK d.na g.dm 7 o1) : ∀ (n : Nat) (x2 : Int) (x3 : Int) (x4 : Int) (x5 : Int) (x6 : Int) (w : Wd), p_X2_centreRow_9 o0 o1 n x2 x3 x4 x5 x6 w = some res → XG g d (hP g d w) [(0, .ref (d.ad (o0))), (1, .ref (d.ad (o1))), (2, iV (x2)), (3, iV (x3)), (4, iV (x4)), (5, iV (x5)), (6, iV (x6))] [] 9 := by
  intro n
  induction n with
  | zero => intro x2 x3 x4 x5 x6 w  hq; exact nomatch (show none = some _ from hq)
  | succ n ih =>
    intro x2 x3 x4 x5 x6 w  hq
    refine x_iload C 6 dX2_centreRow_9 rfl ?_
    refine x_iload_n C 3 dX2_centreRow_11 rfl ?_
    refine x_icmp_ge (tgt := 68) C dX2_centreRow_12 (by decide) hq (fun hq => ?_) (fun hq => ?_)
    · refine XG.sub [0, 1, 2, 3, 4, 5] rfl ?_
      exact L_X2_centreRow_68 C hdm hA hR0 hce hR h0 h1 _ _ _ _ _ hq
    · refine x_iload C 4 dX2_centreRow_15 rfl ?_
      refine x_aload_n C 0 dX2_centreRow_17 rfl ?_
      refine x_getr (K := 3) (k := 1) (o2 := o0 + 3) C h0 (by decide) cl_X2 (by decide) ⟨rfl, rfl, rfl⟩ fl_X2_20 rfl dX2_centreRow_18 ?_
      refine x_iload C 6 dX2_centreRow_21 rfl ?_
      refine x_callVi (K := 6) (rm := rmv 0 0 0 0) (As := [iV (x6)]) (rest := [iV (x4)]) C hA hR0 mf_X5_at lk_X2_50 rfl (ik3 h0).2.1 (by decide) ⟨rfl, rfl⟩ ⟨Nat.le_of_ble_eq_true rfl, Nat.le_of_ble_eq_true rfl⟩ rfl rfl (Nat.le_of_ble_eq_true rfl) hce dX2_centreRow_23 hq (fun _ _ h => c_X5_at g.l g.G hdm (ik3 h0).2.1 h) (fun r2 w1 _ hq => ?_)
      refine x_aload_n C 1 dX2_centreRow_26 rfl ?_
      refine x_getr (K := 7) (k := 8) (o2 := o1 + 7) C h1 (by decide) cl_X6 (by decide) ⟨rfl, rfl, rfl⟩ fl_X2_79 rfl dX2_centreRow_27 ?_
      refine x_iload C 6 dX2_centreRow_30 rfl ?_
      refine x_callVi (K := 6) (rm := rmv 0 0 0 0) (As := [iV (x6)]) (rest := [iV (r2), iV (x4)]) C hA hR0 mf_X5_at lk_X2_50 rfl (ik7 h1).2.2.2.1 (by decide) ⟨rfl, rfl⟩ ⟨Nat.le_of_ble_eq_true rfl, Nat.le_of_ble_eq_true rfl⟩ rfl rfl (Nat.le_of_ble_eq_true rfl) hce dX2_centreRow_32 hq (fun _ _ h => c_X5_at g.l g.G hdm (ik7 h1).2.2.2.1 h) (fun r4 w3 _ hq => ?_)
      refine x_callSi (rm := rmv 0 0 0 0) (As := [iV (r2), iV (r4)]) (rest := [iV (x4)]) C hA hR0 mf_X2_cells lk_X2_91 ⟨rfl, rfl⟩ ⟨Nat.le_of_ble_eq_true rfl, Nat.le_of_ble_eq_true rfl⟩ rfl rfl (Nat.le_of_ble_eq_true rfl) hce dX2_centreRow_35 hq (fun _ _ h => c_X2_cells g.l g.G hdm  h) (fun r6 w5 _ hq => ?_)
      refine x_ior C dX2_centreRow_38 ?_
      refine x_istore (lv' := [(4, iV (or32 x4 r6)), (0, .ref (d.ad (o0))), (1, .ref (d.ad (o1))), (2, iV (x2)), (3, iV (x3)), (5, iV (x5)), (6, iV (x6))]) C dX2_centreRow_39 (by decide) rfl ?_
      refine x_aload_n C 1 dX2_centreRow_41 rfl ?_
      refine x_getr (K := 3) (k := 1) (o2 := o0 + 3) C h0 (by decide) cl_X2 (by decide) ⟨rfl, rfl, rfl⟩ fl_X2_20 rfl dX2_centreRow_42 ?_
      refine x_iload C 6 dX2_centreRow_45 rfl ?_
      refine x_callVi (K := 6) (rm := rmv 0 0 0 0) (As := [iV (x6)]) (rest := []) C hA hR0 mf_X5_at lk_X2_50 rfl (ik3 h0).2.1 (by decide) ⟨rfl, rfl⟩ ⟨Nat.le_of_ble_eq_true rfl, Nat.le_of_ble_eq_true rfl⟩ rfl rfl (Nat.le_of_ble_eq_true rfl) hce dX2_centreRow_47 hq (fun _ _ h => c_X5_at g.l g.G hdm (ik3 h0).2.1 h) (fun r8 w7 _ hq => ?_)
      refine x_aload_n C 2 dX2_centreRow_50 rfl ?_
      refine x_getr (K := 7) (k := 8) (o2 := o1 + 7) C h1 (by decide) cl_X6 (by decide) ⟨rfl, rfl, rfl⟩ fl_X2_79 rfl dX2_centreRow_51 ?_
      refine x_iload C 6 dX2_centreRow_54 rfl ?_
      refine x_callVi (K := 6) (rm := rmv 0 0 0 0) (As := [iV (x6)]) (rest := [iV (r8)]) C hA hR0 mf_X5_at lk_X2_50 rfl (ik7 h1).2.2.2.1 (by decide) ⟨rfl, rfl⟩ ⟨Nat.le_of_ble_eq_true rfl, Nat.le_of_ble_eq_true rfl⟩ rfl rfl (Nat.le_of_ble_eq_true rfl) hce dX2_centreRow_56 hq (fun _ _ h => c_X5_at g.l g.G hdm (ik7 h1).2.2.2.1 h) (fun r10 w9 _ hq => ?_)
      refine x_iadd C dX2_centreRow_59 ?_
      refine x_istore (lv' := [(5, iV (r8 + r10)), (4, iV (or32 x4 r6)), (0, .ref (d.ad (o0))), (1, .ref (d.ad (o1))), (2, iV (x2)), (3, iV (x3)), (6, iV (x6))]) C dX2_centreRow_60 (by decide) rfl ?_
      refine x_iinc (lv' := [(6, iV (x6 + 1)), (5, iV (r8 + r10)), (4, iV (or32 x4 r6)), (0, .ref (d.ad (o0))), (1, .ref (d.ad (o1))), (2, iV (x2)), (3, iV (x3))]) C 6 dX2_centreRow_62 rfl (by decide) rfl ?_
      refine x_goto (tgt := 9) C dX2_centreRow_65 (by decide) ?_
      refine XG.sub [3, 4, 5, 6, 2, 1, 0] rfl ?_
      exact ih _ _ _ _ _ _ hq
set_option maxRecDepth 100000 in
set_option maxHeartbeats 4000000 in
theorem L_X2_centreRow {g : Cx} {d : Dl} (C : CX g cX2_centreRow 9 none RX2) (hdm : g.dm = 0) (hA : ∀ q : Nat, g.s.heap.size ≤ q → g.A q) (hR0 : g.R = rmv 1 22 0 0) (hce : d.ce ≤ g.R.cells ∧ d.so ≤ g.R.slots) {res : Wd} (hR : rtV g d cX2_centreRow res) {o0 : Nat} {o1 : Nat} (h0 : isK d.na g.dm 3 o0) (h1 : isK d.na g.dm 7 o1) (x2 : Int) (x3 : Int) (w : Wd) (hq : p_X2_centreRow o0 o1 x2 x3 w = some res) : XG g d (hP g d w) [(0, .ref (d.ad (o0))), (1, .ref (d.ad (o1))), (2, iV (x2)), (3, iV (x3))] [] 0 := by
  refine x_iconst C dX2_centreRow_0 ?_
  refine x_istore (lv' := [(4, iV (0)), (0, .ref (d.ad (o0))), (1, .ref (d.ad (o1))), (2, iV (x2)), (3, iV (x3))]) C dX2_centreRow_1 (by decide) rfl ?_
  refine x_iconst C dX2_centreRow_3 ?_
  refine x_istore (lv' := [(5, iV (0)), (4, iV (0)), (0, .ref (d.ad (o0))), (1, .ref (d.ad (o1))), (2, iV (x2)), (3, iV (x3))]) C dX2_centreRow_4 (by decide) rfl ?_
  refine x_iload_n C 4 dX2_centreRow_6 rfl ?_
  refine x_istore (lv' := [(6, iV (x2)), (5, iV (0)), (4, iV (0)), (0, .ref (d.ad (o0))), (1, .ref (d.ad (o1))), (2, iV (x2)), (3, iV (x3))]) C dX2_centreRow_7 (by decide) rfl ?_
  refine XG.sub [3, 4, 5, 6, 2, 1, 0] rfl ?_
  exact L_X2_centreRow_9 C hdm hA hR0 hce hR h0 h1 _ _ _ _ _ _ _ hq
set_option maxRecDepth 100000 in
set_option maxHeartbeats 4000000 in
theorem c_X2_centreRow (l : Launch) (G : Gd) {dm na : Nat} {ad : Nat → Nat} (hdm : dm = 0) {o0 : Nat} {o1 : Nat} {x2 : Int} {x3 : Int} {w w' : Wd}  (h0 : isK na dm 3 o0) (h1 : isK na dm 7 o1) (hq : p_X2_centreRow o0 o1 x2 x3 w = some w') : mV l yX2_centreRow cX2_centreRow 9 none (rmv 1 22 0 0) G dm na ad [.ref (ad (o0)), .ref (ad (o1)), iV (x2), iV (x3)] w w' := by
  refine met_V [(0, .ref (ad (o0))), (1, .ref (ad (o1))), (2, iV (x2)), (3, iV (x3))] (by decide) (Nat.le_of_ble_eq_true rfl) rfl rfl (fun g d C S hR => ?_)
  obtain ⟨rfl, hR0, rfl, rfl, rfl, hA⟩ := S
  exact L_X2_centreRow (d := (na, ad, 0, 0)) C hdm hA hR0 ⟨Nat.zero_le _, Nat.zero_le _⟩ hR h0 h1 _ _ w hq
set_option maxRecDepth 100000 in
set_option maxHeartbeats 4000000 in
theorem L_X2_centre_54 {g : Cx} {d : Dl} (C : CX g cX2_centre 6 none RX2) (hdm : g.dm = 0) (hA : ∀ q : Nat, g.s.heap.size ≤ q → g.A q) (hR0 : g.R = rmv 2 50 0 0) (hce : d.ce ≤ g.R.cells ∧ d.so ≤ g.R.slots) {res : Wd} (hR : rtV g d cX2_centre res) {o0 : Nat} {o1 : Nat} (h0 : isK d.na g.dm 3 o0) (h1 : isK d.na g.dm 7 o1) {k8 : Int → Int → Int → Wd → Option (Wd)} (hk8 : ∀ (x3 : Int) (x4 : Int) (x5 : Int) (w : Wd), k8 x3 x4 x5 w = some res → XG g d (hP g d w) [(0, .ref (d.ad (o0))), (1, .ref (d.ad (o1))), (3, iV (x3)), (4, iV (x4)), (5, iV (x5))] [] 8) (x3 : Int) (x4 : Int) (x5 : Int) (w : Wd) (hq : p_X2_centre_54 o0 o1 k8 x3 x4 x5 w = some res) : XG g d (hP g d w) [(0, .ref (d.ad (o0))), (1, .ref (d.ad (o1))), (3, iV (x3)), (4, iV (x4)), (5, iV (x5))] [] 54 := by
  refine x_iinc (lv' := [(5, iV (x5 + 1)), (0, .ref (d.ad (o0))), (1, .ref (d.ad (o1))), (3, iV (x3)), (4, iV (x4))]) C 4 dX2_centre_54 rfl (by decide) rfl ?_
  refine x_goto (tgt := 8) C dX2_centre_57 (by decide) ?_
  refine XG.sub [1, 2, 3, 4, 0] rfl ?_
  exact hk8 _ _ _ _ hq
set_option maxRecDepth 100000 in
set_option maxHeartbeats 4000000 in
theorem L_X2_centre_41 {g : Cx} {d : Dl} (C : CX g cX2_centre 6 none RX2) (hdm : g.dm = 0) (hA : ∀ q : Nat, g.s.heap.size ≤ q → g.A q) (hR0 : g.R = rmv 2 50 0 0) (hce : d.ce ≤ g.R.cells ∧ d.so ≤ g.R.slots) {res : Wd} (hR : rtV g d cX2_centre res) {o0 : Nat} {o1 : Nat} (h0 : isK d.na g.dm 3 o0) (h1 : isK d.na g.dm 7 o1) {k8 : Int → Int → Int → Wd → Option (Wd)} (hk8 : ∀ (x3 : Int) (x4 : Int) (x5 : Int) (w : Wd), k8 x3 x4 x5 w = some res → XG g d (hP g d w) [(0, .ref (d.ad (o0))), (1, .ref (d.ad (o1))), (3, iV (x3)), (4, iV (x4)), (5, iV (x5))] [] 8) (x3 : Int) (x4 : Int) (x5 : Int) (w : Wd) (hq : p_X2_centre_41 o0 o1 k8 x3 x4 x5 w = some res) : XG g d (hP g d w) [(0, .ref (d.ad (o0))), (1, .ref (d.ad (o1))), (3, iV (x3)), (4, iV (x4)), (5, iV (x5))] [] 41 := by
  refine x_aload_n C 0 dX2_centre_41 rfl ?_
  refine x_aload_n C 1 dX2_centre_42 rfl ?_
  refine x_iload C 3 dX2_centre_43 rfl ?_
  refine x_iload C 4 dX2_centre_45 rfl ?_
  refine x_callVv (K := 3) (rm := rmv 1 22 0 0) (As := [.ref (d.ad (o1)), iV (x4), iV (x5)]) (rest := []) C hA hR0 mf_X2_centreRow lk_X2_95 rfl h0 (by decide) ⟨rfl, rfl⟩ ⟨Nat.le_of_ble_eq_true rfl, Nat.le_of_ble_eq_true rfl⟩ rfl rfl (Nat.le_of_ble_eq_true rfl) hce dX2_centre_47 hq (fun _ h => c_X2_centreRow g.l g.G hdm h0 h1 h) (fun w1 _ hq => ?_)
  refine x_iload C 4 dX2_centre_50 rfl ?_
  refine x_istore (lv' := [(4, iV (x5)), (0, .ref (d.ad (o0))), (1, .ref (d.ad (o1))), (3, iV (x3)), (5, iV (x5))]) C dX2_centre_52 (by decide) rfl ?_
  refine XG.sub [1, 2, 3, 0, 4] rfl ?_
  exact L_X2_centre_54 C hdm hA hR0 hce hR h0 h1 hk8 _ _ _ _ hq
set_option maxRecDepth 100000 in
set_option maxHeartbeats 4000000 in
theorem L_X2_centre_8 {g : Cx} {d : Dl} (C : CX g cX2_centre 6 none RX2) (hdm : g.dm = 0) (hA : ∀ q : Nat, g.s.heap.size ≤ q → g.A q) (hR0 : g.R = rmv 2 50 0 0) (hce : d.ce ≤ g.R.cells ∧ d.so ≤ g.R.slots) {res : Wd} (hR : rtV g d cX2_centre res) {o0 : Nat} {o1 : Nat} (h0 : isK d.na g.dm 3 o0) (h1 : isK d.na g.dm 7 o1) : ∀ (n : Nat) (x3 : Int) (x4 : Int) (x5 : Int) (w : Wd), p_X2_centre_8 o0 o1 n x3 x4 x5 w = some res → XG g d (hP g d w) [(0, .ref (d.ad (o0))), (1, .ref (d.ad (o1))), (3, iV (x3)), (4, iV (x4)), (5, iV (x5))] [] 8 := by
  intro n
  induction n with
  | zero => intro x3 x4 x5 w  hq; exact nomatch (show none = some _ from hq)
  | succ n ih =>
    intro x3 x4 x5 w  hq
    refine x_iload C 4 dX2_centre_8 rfl ?_
    refine x_iload_n C 2 dX2_centre_10 rfl ?_
    refine x_icmp_gt (tgt := 60) C dX2_centre_11 (by decide) hq (fun hq => ?_) (fun hq => ?_)
    · exact hR _ _ _ hq dX2_centre_60
    · refine x_iload C 4 dX2_centre_14 rfl ?_
      refine x_iload_n C 2 dX2_centre_16 rfl ?_
      refine x_icmp_eq (tgt := 41) C dX2_centre_17 (by decide) hq (fun hq => ?_) (fun hq => ?_)
      · exact L_X2_centre_41 C hdm hA hR0 hce hR h0 h1 ih _ _ _ _ hq
      · refine x_aload_n C 0 dX2_centre_20 rfl ?_
        refine x_getr (K := 3) (k := 0) (o2 := o0 + 1) C h0 (by decide) cl_X2 (by decide) ⟨rfl, rfl, rfl⟩ fl_X2_14 rfl dX2_centre_21 ?_
        refine x_iload C 4 dX2_centre_24 rfl ?_
        refine x_callVi (K := 6) (rm := rmv 0 0 0 0) (As := [iV (x5)]) (rest := []) C hA hR0 mf_X5_at lk_X2_50 rfl (ik3 h0).1 (by decide) ⟨rfl, rfl⟩ ⟨Nat.le_of_ble_eq_true rfl, Nat.le_of_ble_eq_true rfl⟩ rfl rfl (Nat.le_of_ble_eq_true rfl) hce dX2_centre_26 hq (fun _ _ h => c_X5_at g.l g.G hdm (ik3 h0).1 h) (fun r2 w1 _ hq => ?_)
        refine x_aload_n C 0 dX2_centre_29 rfl ?_
        refine x_getr (K := 3) (k := 0) (o2 := o0 + 1) C h0 (by decide) cl_X2 (by decide) ⟨rfl, rfl, rfl⟩ fl_X2_14 rfl dX2_centre_30 ?_
        refine x_iload C 3 dX2_centre_33 rfl ?_
        refine x_callVi (K := 6) (rm := rmv 0 0 0 0) (As := [iV (x4)]) (rest := [iV (r2)]) C hA hR0 mf_X5_at lk_X2_50 rfl (ik3 h0).1 (by decide) ⟨rfl, rfl⟩ ⟨Nat.le_of_ble_eq_true rfl, Nat.le_of_ble_eq_true rfl⟩ rfl rfl (Nat.le_of_ble_eq_true rfl) hce dX2_centre_35 hq (fun _ _ h => c_X5_at g.l g.G hdm (ik3 h0).1 h) (fun r4 w3 _ hq => ?_)
        refine x_icmp_eq (tgt := 54) C dX2_centre_38 (by decide) hq (fun hq => ?_) (fun hq => ?_)
        · exact L_X2_centre_54 C hdm hA hR0 hce hR h0 h1 ih _ _ _ _ hq
        · exact L_X2_centre_41 C hdm hA hR0 hce hR h0 h1 ih _ _ _ _ hq
set_option maxRecDepth 100000 in
set_option maxHeartbeats 4000000 in
theorem L_X2_centre {g : Cx} {d : Dl} (C : CX g cX2_centre 6 none RX2) (hdm : g.dm = 0) (hA : ∀ q : Nat, g.s.heap.size ≤ q → g.A q) (hR0 : g.R = rmv 2 50 0 0) (hce : d.ce ≤ g.R.cells ∧ d.so ≤ g.R.slots) {res : Wd} (hR : rtV g d cX2_centre res) {o0 : Nat} {o1 : Nat} (h0 : isK d.na g.dm 3 o0) (h1 : isK d.na g.dm 7 o1) (x2 : Int) (x3 : Int) (w : Wd) (hq : p_X2_centre o0 o1 x2 x3 w = some res) : XG g d (hP g d w) [(0, .ref (d.ad (o0))), (1, .ref (d.ad (o1))), (2, iV (x2)), (3, iV (x3))] [] 0 := by
  refine x_iload_n C 2 dX2_centre_0 rfl ?_
  refine x_istore (lv' := [(4, iV (x2)), (0, .ref (d.ad (o0))), (1, .ref (d.ad (o1))), (2, iV (x2)), (3, iV (x3))]) C dX2_centre_1 (by decide) rfl ?_
  refine x_iload_n C 3 dX2_centre_3 rfl ?_
  refine x_iconst C dX2_centre_4 ?_
  refine x_iadd C dX2_centre_5 ?_
  refine x_istore (lv' := [(5, iV (x2 + 1)), (4, iV (x2)), (0, .ref (d.ad (o0))), (1, .ref (d.ad (o1))), (2, iV (x2)), (3, iV (x3))]) C dX2_centre_6 (by decide) rfl ?_
  refine XG.sub [2, 3, 5, 1, 0] rfl ?_
  exact L_X2_centre_8 C hdm hA hR0 hce hR h0 h1 _ _ _ _ _ hq
set_option maxRecDepth 100000 in
set_option maxHeartbeats 4000000 in
theorem c_X2_centre (l : Launch) (G : Gd) {dm na : Nat} {ad : Nat → Nat} (hdm : dm = 0) {o0 : Nat} {o1 : Nat} {x2 : Int} {x3 : Int} {w w' : Wd}  (h0 : isK na dm 3 o0) (h1 : isK na dm 7 o1) (hq : p_X2_centre o0 o1 x2 x3 w = some w') : mV l yX2_centre cX2_centre 6 none (rmv 2 50 0 0) G dm na ad [.ref (ad (o0)), .ref (ad (o1)), iV (x2), iV (x3)] w w' := by
  refine met_V [(0, .ref (ad (o0))), (1, .ref (ad (o1))), (2, iV (x2)), (3, iV (x3))] (by decide) (Nat.le_of_ble_eq_true rfl) rfl rfl (fun g d C S hR => ?_)
  obtain ⟨rfl, hR0, rfl, rfl, rfl, hA⟩ := S
  exact L_X2_centre (d := (na, ad, 0, 0)) C hdm hA hR0 ⟨Nat.zero_le _, Nat.zero_le _⟩ hR h0 h1 _ _ w hq
set_option maxRecDepth 100000 in
set_option maxHeartbeats 4000000 in
theorem L_X2_lay_83 {g : Cx} {d : Dl} (C : CX g cX2_lay 5 none RX2) (hdm : g.dm = 0) (hA : ∀ q : Nat, g.s.heap.size ≤ q → g.A q) (hR0 : g.R = rmv 3 75 0 0) (hce : d.ce ≤ g.R.cells ∧ d.so ≤ g.R.slots) {res : Wd} (hR : rtV g d cX2_lay res) {o0 : Nat} {o1 : Nat} (h0 : isK d.na g.dm 3 o0) (h1 : isK d.na g.dm 7 o1) {k19 : Int → Int → Wd → Option (Wd)} (hk19 : ∀ (x2 : Int) (x3 : Int) (w : Wd), k19 x2 x3 w = some res → XG g d (hP g d w) [(0, .ref (d.ad (o0))), (1, .ref (d.ad (o1))), (2, iV (x2)), (3, iV (x3))] [] 19) (x2 : Int) (x3 : Int) (w : Wd) (hq : p_X2_lay_83 o0 o1 k19 x2 x3 w = some res) : XG g d (hP g d w) [(0, .ref (d.ad (o0))), (1, .ref (d.ad (o1))), (2, iV (x2)), (3, iV (x3))] [] 83 := by
  refine x_aload_n C 0 dX2_lay_83 rfl ?_
  refine x_dup C rfl dX2_lay_84 ?_
  refine x_get (K := 3) (k := 6) C h0 (by decide) cl_X2 (by decide) ⟨rfl, rfl, rfl⟩ fl_X2_36 dX2_lay_85 ?_
  refine x_aload_n C 1 dX2_lay_88 rfl ?_
  refine x_get (K := 7) (k := 2) C h1 (by decide) cl_X6 (by decide) ⟨rfl, rfl, rfl⟩ fl_X2_65 dX2_lay_89 ?_
  refine x_iconst C dX2_lay_92 ?_
  refine x_iadd C dX2_lay_93 ?_
  refine x_iadd C dX2_lay_94 ?_
  refine x_put (K := 3) (k := 6) C h0 (by decide) cl_X2 (by decide) ⟨rfl, rfl, rfl, rfl⟩ fl_X2_36 ⟨rfl, rfl⟩ dX2_lay_95 ?_
  refine x_aload_n C 0 dX2_lay_98 rfl ?_
  refine x_iconst C dX2_lay_99 ?_
  refine x_put (K := 3) (k := 7) C h0 (by decide) cl_X2 (by decide) ⟨rfl, rfl, rfl, rfl⟩ fl_X2_39 ⟨rfl, rfl⟩ dX2_lay_100 ?_
  refine nmW hq (fun w1 ew1 hq => ?_)
  rw [← ew1]
  refine x_iinc (lv' := [(3, iV (x3 + 1)), (0, .ref (d.ad (o0))), (1, .ref (d.ad (o1))), (2, iV (x2))]) C 3 dX2_lay_103 rfl (by decide) rfl ?_
  refine x_goto (tgt := 19) C dX2_lay_106 (by decide) ?_
  refine XG.sub [1, 2, 3, 0] rfl ?_
  exact hk19 _ _ _ hq
set_option maxRecDepth 100000 in
set_option maxHeartbeats 4000000 in
theorem L_X2_lay_114 {g : Cx} {d : Dl} (C : CX g cX2_lay 5 none RX2) (hdm : g.dm = 0) (hA : ∀ q : Nat, g.s.heap.size ≤ q → g.A q) (hR0 : g.R = rmv 3 75 0 0) (hce : d.ce ≤ g.R.cells ∧ d.so ≤ g.R.slots) {res : Wd} (hR : rtV g d cX2_lay res) {o0 : Nat} {o1 : Nat} (h0 : isK d.na g.dm 3 o0) (h1 : isK d.na g.dm 7 o1) : ∀ (n : Nat) (x3 : Int) (w : Wd), p_X2_lay_114 o0 o1 n x3 w = some res → XG g d (hP g d w) [(0, .ref (d.ad (o0))), (1, .ref (d.ad (o1))), (3, iV (x3))] [] 114 := by
  intro n
  induction n with
  | zero => intro x3 w  hq; exact nomatch (show none = some _ from hq)
  | succ n ih =>
    intro x3 w  hq
    refine x_iload_n C 2 dX2_lay_114 rfl ?_
    refine x_aload_n C 1 dX2_lay_115 rfl ?_
    refine x_get (K := 7) (k := 7) C h1 (by decide) cl_X6 (by decide) ⟨rfl, rfl, rfl⟩ fl_X2_68 dX2_lay_116 ?_
    refine x_icmp_ge (tgt := 146) C dX2_lay_119 (by decide) hq (fun hq => ?_) (fun hq => ?_)
    · exact hR _ _ _ hq dX2_lay_146
    · refine x_aload_n C 0 dX2_lay_122 rfl ?_
      refine x_getr (K := 3) (k := 0) (o2 := o0 + 1) C h0 (by decide) cl_X2 (by decide) ⟨rfl, rfl, rfl⟩ fl_X2_14 rfl dX2_lay_123 ?_
      refine x_iload_n C 2 dX2_lay_126 rfl ?_
      refine x_iconst C dX2_lay_127 ?_
      refine x_callVv (K := 6) (rm := rmv 0 0 0 0) (As := [iV (x3), iV (-1)]) (rest := []) C hA hR0 mf_X5_put lk_X2_71 rfl (ik3 h0).1 (by decide) ⟨rfl, rfl⟩ ⟨Nat.le_of_ble_eq_true rfl, Nat.le_of_ble_eq_true rfl⟩ rfl rfl (Nat.le_of_ble_eq_true rfl) hce dX2_lay_128 hq (fun _ h => c_X5_put g.l g.G hdm (ik3 h0).1 h) (fun w1 _ hq => ?_)
      refine x_aload_n C 0 dX2_lay_131 rfl ?_
      refine x_getr (K := 3) (k := 1) (o2 := o0 + 3) C h0 (by decide) cl_X2 (by decide) ⟨rfl, rfl, rfl⟩ fl_X2_20 rfl dX2_lay_132 ?_
      refine x_iload_n C 2 dX2_lay_135 rfl ?_
      refine x_iconst C dX2_lay_136 ?_
      refine x_callVv (K := 6) (rm := rmv 0 0 0 0) (As := [iV (x3), iV (-1)]) (rest := []) C hA hR0 mf_X5_put lk_X2_71 rfl (ik3 h0).2.1 (by decide) ⟨rfl, rfl⟩ ⟨Nat.le_of_ble_eq_true rfl, Nat.le_of_ble_eq_true rfl⟩ rfl rfl (Nat.le_of_ble_eq_true rfl) hce dX2_lay_137 hq (fun _ h => c_X5_put g.l g.G hdm (ik3 h0).2.1 h) (fun w2 _ hq => ?_)
      refine x_iinc (lv' := [(3, iV (x3 + 1)), (0, .ref (d.ad (o0))), (1, .ref (d.ad (o1)))]) C 2 dX2_lay_140 rfl (by decide) rfl ?_
      refine x_goto (tgt := 114) C dX2_lay_143 (by decide) ?_
      refine XG.sub [1, 2, 0] rfl ?_
      exact ih _ _ hq
set_option maxRecDepth 100000 in
set_option maxHeartbeats 4000000 in
theorem L_X2_lay_109 {g : Cx} {d : Dl} (C : CX g cX2_lay 5 none RX2) (hdm : g.dm = 0) (hA : ∀ q : Nat, g.s.heap.size ≤ q → g.A q) (hR0 : g.R = rmv 3 75 0 0) (hce : d.ce ≤ g.R.cells ∧ d.so ≤ g.R.slots) {res : Wd} (hR : rtV g d cX2_lay res) {o0 : Nat} {o1 : Nat} (h0 : isK d.na g.dm 3 o0) (h1 : isK d.na g.dm 7 o1)  (w : Wd) (hq : p_X2_lay_109 o0 o1 w = some res) : XG g d (hP g d w) [(0, .ref (d.ad (o0))), (1, .ref (d.ad (o1)))] [] 109 := by
  refine x_aload_n C 0 dX2_lay_109 rfl ?_
  refine x_get (K := 3) (k := 4) C h0 (by decide) cl_X2 (by decide) ⟨rfl, rfl, rfl⟩ fl_X2_29 dX2_lay_110 ?_
  refine x_istore_n (lv' := [(3, iV (gF w o0 4)), (0, .ref (d.ad (o0))), (1, .ref (d.ad (o1)))]) C dX2_lay_113 (by decide) rfl ?_
  refine XG.sub [1, 2, 0] rfl ?_
  exact L_X2_lay_114 C hdm hA hR0 hce hR h0 h1 _ _ _ hq
set_option maxRecDepth 100000 in
set_option maxHeartbeats 4000000 in
theorem L_X2_lay_19 {g : Cx} {d : Dl} (C : CX g cX2_lay 5 none RX2) (hdm : g.dm = 0) (hA : ∀ q : Nat, g.s.heap.size ≤ q → g.A q) (hR0 : g.R = rmv 3 75 0 0) (hce : d.ce ≤ g.R.cells ∧ d.so ≤ g.R.slots) {res : Wd} (hR : rtV g d cX2_lay res) {o0 : Nat} {o1 : Nat} (h0 : isK d.na g.dm 3 o0) (h1 : isK d.na g.dm 7 o1) : ∀ (n : Nat) (x2 : Int) (x3 : Int) (w : Wd), p_X2_lay_19 o0 o1 n x2 x3 w = some res → XG g d (hP g d w) [(0, .ref (d.ad (o0))), (1, .ref (d.ad (o1))), (2, iV (x2)), (3, iV (x3))] [] 19 := by
  intro n
  induction n with
  | zero => intro x2 x3 w  hq; exact nomatch (show none = some _ from hq)
  | succ n ih =>
    intro x2 x3 w  hq
    refine x_iload_n C 3 dX2_lay_19 rfl ?_
    refine x_aload_n C 1 dX2_lay_20 rfl ?_
    refine x_get (K := 7) (k := 4) C h1 (by decide) cl_X6 (by decide) ⟨rfl, rfl, rfl⟩ fl_X2_42 dX2_lay_21 ?_
    refine x_icmp_ge (tgt := 109) C dX2_lay_24 (by decide) hq (fun hq => ?_) (fun hq => ?_)
    · refine XG.sub [0, 1] rfl ?_
      exact L_X2_lay_109 C hdm hA hR0 hce hR h0 h1 _ hq
    · refine x_aload_n C 0 dX2_lay_27 rfl ?_
      refine x_get (K := 3) (k := 4) C h0 (by decide) cl_X2 (by decide) ⟨rfl, rfl, rfl⟩ fl_X2_29 dX2_lay_28 ?_
      refine x_iload_n C 2 dX2_lay_31 rfl ?_
      refine x_icmp_ne (tgt := 109) C dX2_lay_32 (by decide) hq (fun hq => ?_) (fun hq => ?_)
      · refine XG.sub [0, 1] rfl ?_
        exact L_X2_lay_109 C hdm hA hR0 hce hR h0 h1 _ hq
      · refine x_iload_n C 2 dX2_lay_35 rfl ?_
        refine x_istore (lv' := [(4, iV (x2)), (0, .ref (d.ad (o0))), (1, .ref (d.ad (o1))), (2, iV (x2)), (3, iV (x3))]) C dX2_lay_36 (by decide) rfl ?_
        refine x_iload C 0 dX2_lay_38 rfl ?_
        refine x_aload_n C 2 dX2_lay_40 rfl ?_
        refine x_getr (K := 7) (k := 6) (o2 := o1 + 5) C h1 (by decide) cl_X6 (by decide) ⟨rfl, rfl, rfl⟩ fl_X2_47 rfl dX2_lay_41 ?_
        refine x_iload_n C 4 dX2_lay_44 rfl ?_
        refine x_callVi (K := 6) (rm := rmv 0 0 0 0) (As := [iV (x3)]) (rest := [iV (x2)]) C hA hR0 mf_X5_at lk_X2_50 rfl (ik7 h1).2.2.1 (by decide) ⟨rfl, rfl⟩ ⟨Nat.le_of_ble_eq_true rfl, Nat.le_of_ble_eq_true rfl⟩ rfl rfl (Nat.le_of_ble_eq_true rfl) hce dX2_lay_45 hq (fun _ _ h => c_X5_at g.l g.G hdm (ik7 h1).2.2.1 h) (fun r2 w1 _ hq => ?_)
        refine x_iadd C dX2_lay_48 ?_
        refine x_istore_n (lv' := [(2, iV (x2 + r2)), (4, iV (x2)), (0, .ref (d.ad (o0))), (1, .ref (d.ad (o1))), (3, iV (x3))]) C dX2_lay_49 (by decide) rfl ?_
        refine x_aload_n C 2 dX2_lay_50 rfl ?_
        refine x_aload_n C 3 dX2_lay_51 rfl ?_
        refine x_iload_n C 0 dX2_lay_52 rfl ?_
        refine x_callVv (K := 3) (rm := rmv 2 48 0 0) (As := [.ref (d.ad (o1)), iV (x2 + r2)]) (rest := []) C hA hR0 mf_X2_layWords lk_X2_54 rfl h0 (by decide) ⟨rfl, rfl⟩ ⟨Nat.le_of_ble_eq_true rfl, Nat.le_of_ble_eq_true rfl⟩ rfl rfl (Nat.le_of_ble_eq_true rfl) hce dX2_lay_53 hq (fun _ h => c_X2_layWords g.l g.G hdm h0 h1 h) (fun w3 _ hq => ?_)
        refine x_aload_n C 2 dX2_lay_56 rfl ?_
        refine x_get (K := 3) (k := 4) C h0 (by decide) cl_X2 (by decide) ⟨rfl, rfl, rfl⟩ fl_X2_29 dX2_lay_57 ?_
        refine x_iload_n C 0 dX2_lay_60 rfl ?_
        refine x_icmp_ne (tgt := 83) C dX2_lay_61 (by decide) hq (fun hq => ?_) (fun hq => ?_)
        · refine XG.sub [2, 3, 0, 4] rfl ?_
          exact L_X2_lay_83 C hdm hA hR0 hce hR h0 h1 ih _ _ _ hq
        · refine x_aload_n C 3 dX2_lay_64 rfl ?_
          refine x_getr (K := 7) (k := 5) (o2 := o1 + 3) C h1 (by decide) cl_X6 (by decide) ⟨rfl, rfl, rfl⟩ fl_X2_58 rfl dX2_lay_65 ?_
          refine x_iload_n C 4 dX2_lay_68 rfl ?_
          refine x_callVi (K := 6) (rm := rmv 0 0 0 0) (As := [iV (x3)]) (rest := []) C hA hR0 mf_X5_at lk_X2_50 rfl (ik7 h1).2.1 (by decide) ⟨rfl, rfl⟩ ⟨Nat.le_of_ble_eq_true rfl, Nat.le_of_ble_eq_true rfl⟩ rfl rfl (Nat.le_of_ble_eq_true rfl) hce dX2_lay_69 hq (fun _ _ h => c_X5_at g.l g.G hdm (ik7 h1).2.1 h) (fun r5 w4 _ hq => ?_)
          refine x_if_ne (tgt := 83) C dX2_lay_72 (by decide) hq (fun hq => ?_) (fun hq => ?_)
          · refine XG.sub [2, 3, 0, 4] rfl ?_
            exact L_X2_lay_83 C hdm hA hR0 hce hR h0 h1 ih _ _ _ hq
          · refine x_aload_n C 2 dX2_lay_75 rfl ?_
            refine x_aload_n C 3 dX2_lay_76 rfl ?_
            refine x_iload C 1 dX2_lay_77 rfl ?_
            refine x_iload_n C 0 dX2_lay_79 rfl ?_
            refine x_callVv (K := 3) (rm := rmv 2 50 0 0) (As := [.ref (d.ad (o1)), iV (x2), iV (x2 + r2)]) (rest := []) C hA hR0 mf_X2_centre lk_X2_61 rfl h0 (by decide) ⟨rfl, rfl⟩ ⟨Nat.le_of_ble_eq_true rfl, Nat.le_of_ble_eq_true rfl⟩ rfl rfl (Nat.le_of_ble_eq_true rfl) hce dX2_lay_80 hq (fun _ h => c_X2_centre g.l g.G hdm h0 h1 h) (fun w6 _ hq => ?_)
            refine XG.sub [2, 3, 0, 4] rfl ?_
            exact L_X2_lay_83 C hdm hA hR0 hce hR h0 h1 ih _ _ _ hq
set_option maxRecDepth 100000 in
set_option maxHeartbeats 4000000 in
theorem L_X2_lay {g : Cx} {d : Dl} (C : CX g cX2_lay 5 none RX2) (hdm : g.dm = 0) (hA : ∀ q : Nat, g.s.heap.size ≤ q → g.A q) (hR0 : g.R = rmv 3 75 0 0) (hce : d.ce ≤ g.R.cells ∧ d.so ≤ g.R.slots) {res : Wd} (hR : rtV g d cX2_lay res) {o0 : Nat} {o1 : Nat} (h0 : isK d.na g.dm 3 o0) (h1 : isK d.na g.dm 7 o1)  (w : Wd) (hq : p_X2_lay o0 o1 w = some res) : XG g d (hP g d w) [(0, .ref (d.ad (o0))), (1, .ref (d.ad (o1)))] [] 0 := by
  refine x_aload_n C 0 dX2_lay_0 rfl ?_
  refine x_iconst C dX2_lay_1 ?_
  refine x_put (K := 3) (k := 4) C h0 (by decide) cl_X2 (by decide) ⟨rfl, rfl, rfl, rfl⟩ fl_X2_29 ⟨rfl, rfl⟩ dX2_lay_2 ?_
  refine x_aload_n C 0 dX2_lay_5 rfl ?_
  refine x_iconst C dX2_lay_6 ?_
  refine x_put (K := 3) (k := 6) C h0 (by decide) cl_X2 (by decide) ⟨rfl, rfl, rfl, rfl⟩ fl_X2_36 ⟨rfl, rfl⟩ dX2_lay_7 ?_
  refine nmW hq (fun w1 ew1 hq => ?_)
  rw [← ew1]
  refine x_aload_n C 0 dX2_lay_10 rfl ?_
  refine x_iconst C dX2_lay_11 ?_
  refine x_put (K := 3) (k := 7) C h0 (by decide) cl_X2 (by decide) ⟨rfl, rfl, rfl, rfl⟩ fl_X2_39 ⟨rfl, rfl⟩ dX2_lay_12 ?_
  refine x_iconst C dX2_lay_15 ?_
  refine x_istore_n (lv' := [(2, iV (0)), (0, .ref (d.ad (o0))), (1, .ref (d.ad (o1)))]) C dX2_lay_16 (by decide) rfl ?_
  refine x_iconst C dX2_lay_17 ?_
  refine x_istore_n (lv' := [(3, iV (0)), (2, iV (0)), (0, .ref (d.ad (o0))), (1, .ref (d.ad (o1)))]) C dX2_lay_18 (by decide) rfl ?_
  refine XG.sub [2, 3, 1, 0] rfl ?_
  exact L_X2_lay_19 C hdm hA hR0 hce hR h0 h1 _ _ _ _ hq
set_option maxRecDepth 100000 in
set_option maxHeartbeats 4000000 in
theorem c_X2_lay (l : Launch) (G : Gd) {dm na : Nat} {ad : Nat → Nat} (hdm : dm = 0) {o0 : Nat} {o1 : Nat} {w w' : Wd}  (h0 : isK na dm 3 o0) (h1 : isK na dm 7 o1) (hq : p_X2_lay o0 o1 w = some w') : mV l yX2_lay cX2_lay 5 none (rmv 3 75 0 0) G dm na ad [.ref (ad (o0)), .ref (ad (o1))] w w' := by
  refine met_V [(0, .ref (ad (o0))), (1, .ref (ad (o1)))] (by decide) (Nat.le_of_ble_eq_true rfl) rfl rfl (fun g d C S hR => ?_)
  obtain ⟨rfl, hR0, rfl, rfl, rfl, hA⟩ := S
  exact L_X2_lay (d := (na, ad, 0, 0)) C hdm hA hR0 ⟨Nat.zero_le _, Nat.zero_le _⟩ hR h0 h1  w hq
set_option maxRecDepth 100000 in
set_option maxHeartbeats 4000000 in
theorem L_X6_byteOf {g : Cx} {d : Dl} (C : CX g cX6_byteOf 3 (some .int) RX6) (hdm : g.dm = 0) (hA : ∀ q : Nat, g.s.heap.size ≤ q → g.A q) (hR0 : g.R = rmv 1 21 0 0) (hce : d.ce ≤ g.R.cells ∧ d.so ≤ g.R.slots) {res : Int × Wd} (hR : rtI g d cX6_byteOf .int res) {o0 : Nat} (h0 : isK d.na g.dm 7 o0) (x1 : Int) (x2 : Int) (w : Wd) (hq : p_X6_byteOf o0 x1 x2 w = some res) : XG g d (hP g d w) [(0, .ref (d.ad (o0))), (1, iV (x1)), (2, iV (x2))] [] 0 := by
  refine x_aload_n C 0 dX6_byteOf_0 rfl ?_
  refine x_getr (K := 7) (k := 9) (o2 := o0 + 9) C h0 (by decide) cl_X6 (by decide) ⟨rfl, rfl, rfl⟩ fl_X6_45 rfl dX6_byteOf_1 ?_
  refine x_iload_n C 1 dX6_byteOf_4 rfl ?_
  refine x_bipush (v := 12) C dX6_byteOf_5 (by decide +kernel) ?_
  refine x_imul C dX6_byteOf_7 ?_
  refine x_iload_n C 2 dX6_byteOf_8 rfl ?_
  refine x_iadd C dX6_byteOf_9 ?_
  refine x_callVi (K := 6) (rm := rmv 0 0 0 0) (As := [iV ((x1 * 12) + x2)]) (rest := []) C hA hR0 mf_X5_at lk_X6_81 rfl (ik7 h0).2.2.2.2.1 (by decide) ⟨rfl, rfl⟩ ⟨Nat.le_of_ble_eq_true rfl, Nat.le_of_ble_eq_true rfl⟩ rfl rfl (Nat.le_of_ble_eq_true rfl) hce dX6_byteOf_10 hq (fun _ _ h => c_X5_at g.l g.G hdm (ik7 h0).2.2.2.2.1 h) (fun r2 w1 _ hq => ?_)
  exact hR _ _ _ _ hq rfl dX6_byteOf_13
set_option maxRecDepth 100000 in
set_option maxHeartbeats 4000000 in
theorem c_X6_byteOf (l : Launch) (G : Gd) {dm na : Nat} {ad : Nat → Nat} (hdm : dm = 0) {o0 : Nat} {x1 : Int} {x2 : Int} {w w' : Wd} {r : Int} (h0 : isK na dm 7 o0) (hq : p_X6_byteOf o0 x1 x2 w = some (r, w')) : mI l yX6_byteOf cX6_byteOf 3 (some .int) (rmv 1 21 0 0) G dm na ad [.ref (ad (o0)), iV (x1), iV (x2)] w r w' := by
  refine met_I [(0, .ref (ad (o0))), (1, iV (x1)), (2, iV (x2))] (by decide) (Nat.le_of_ble_eq_true rfl) rfl .int rfl (fun g d C S hR => ?_)
  obtain ⟨rfl, hR0, rfl, rfl, rfl, hA⟩ := S
  exact L_X6_byteOf (d := (na, ad, 0, 0)) C hdm hA hR0 ⟨Nat.zero_le _, Nat.zero_le _⟩ hR h0 _ _ w hq
set_option maxRecDepth 100000 in
set_option maxHeartbeats 4000000 in
theorem L_X6_touched {g : Cx} {d : Dl} (C : CX g cX6_touched 5 (some .boolean) RX6) (hdm : g.dm = 0) (hA : ∀ q : Nat, g.s.heap.size ≤ q → g.A q) (hR0 : g.R = rmv 1 21 0 0) (hce : d.ce ≤ g.R.cells ∧ d.so ≤ g.R.slots) {res : Int × Wd} (hR : rtI g d cX6_touched .boolean res) {o0 : Nat} (h0 : isK d.na g.dm 7 o0) (x1 : Int) (x2 : Int) (w : Wd) (hq : p_X6_touched o0 x1 x2 w = some res) : XG g d (hP g d w) [(0, .ref (d.ad (o0))), (1, iV (x1)), (2, iV (x2))] [] 0 := by
  refine x_aload_n C 0 dX6_touched_0 rfl ?_
  refine x_getr (K := 7) (k := 3) (o2 := o0 + 1) C h0 (by decide) cl_X6 (by decide) ⟨rfl, rfl, rfl⟩ fl_X6_26 rfl dX6_touched_1 ?_
  refine x_iload_n C 2 dX6_touched_4 rfl ?_
  refine x_callVi (K := 6) (rm := rmv 0 0 0 0) (As := [iV (x2)]) (rest := []) C hA hR0 mf_X5_at lk_X6_81 rfl (ik7 h0).1 (by decide) ⟨rfl, rfl⟩ ⟨Nat.le_of_ble_eq_true rfl, Nat.le_of_ble_eq_true rfl⟩ rfl rfl (Nat.le_of_ble_eq_true rfl) hce dX6_touched_5 hq (fun _ _ h => c_X5_at g.l g.G hdm (ik7 h0).1 h) (fun r2 w1 _ hq => ?_)
  refine x_istore_n (lv' := [(3, iV (r2)), (0, .ref (d.ad (o0))), (1, iV (x1)), (2, iV (x2))]) C dX6_touched_8 (by decide) rfl ?_
  refine x_iload_n C 0 dX6_touched_9 rfl ?_
  refine x_iconst C dX6_touched_10 ?_
  refine x_ishl C dX6_touched_11 ?_
  refine x_iload_n C 0 dX6_touched_12 rfl ?_
  refine x_iconst C dX6_touched_13 ?_
  refine x_ishr C dX6_touched_14 ?_
  refine x_ior C dX6_touched_15 ?_
  refine x_aload_n C 1 dX6_touched_16 rfl ?_
  refine x_getr (K := 7) (k := 3) (o2 := o0 + 1) C h0 (by decide) cl_X6 (by decide) ⟨rfl, rfl, rfl⟩ fl_X6_26 rfl dX6_touched_17 ?_
  refine x_iload_n C 3 dX6_touched_20 rfl ?_
  refine x_iconst C dX6_touched_21 ?_
  refine x_isub C dX6_touched_22 ?_
  refine x_callVi (K := 6) (rm := rmv 0 0 0 0) (As := [iV (x2 - 1)]) (rest := [iV (or32 (sl32 r2 1) (sr32 r2 1))]) C hA hR0 mf_X5_at lk_X6_81 rfl (ik7 h0).1 (by decide) ⟨rfl, rfl⟩ ⟨Nat.le_of_ble_eq_true rfl, Nat.le_of_ble_eq_true rfl⟩ rfl rfl (Nat.le_of_ble_eq_true rfl) hce dX6_touched_23 hq (fun _ _ h => c_X5_at g.l g.G hdm (ik7 h0).1 h) (fun r4 w3 _ hq => ?_)
  refine x_ior C dX6_touched_26 ?_
  refine x_aload_n C 1 dX6_touched_27 rfl ?_
  refine x_getr (K := 7) (k := 3) (o2 := o0 + 1) C h0 (by decide) cl_X6 (by decide) ⟨rfl, rfl, rfl⟩ fl_X6_26 rfl dX6_touched_28 ?_
  refine x_iload_n C 3 dX6_touched_31 rfl ?_
  refine x_iconst C dX6_touched_32 ?_
  refine x_iadd C dX6_touched_33 ?_
  refine x_callVi (K := 6) (rm := rmv 0 0 0 0) (As := [iV (x2 + 1)]) (rest := [iV (or32 (or32 (sl32 r2 1) (sr32 r2 1)) r4)]) C hA hR0 mf_X5_at lk_X6_81 rfl (ik7 h0).1 (by decide) ⟨rfl, rfl⟩ ⟨Nat.le_of_ble_eq_true rfl, Nat.le_of_ble_eq_true rfl⟩ rfl rfl (Nat.le_of_ble_eq_true rfl) hce dX6_touched_34 hq (fun _ _ h => c_X5_at g.l g.G hdm (ik7 h0).1 h) (fun r6 w5 _ hq => ?_)
  refine x_ior C dX6_touched_37 ?_
  refine x_istore (lv' := [(4, iV (or32 (or32 (or32 (sl32 r2 1) (sr32 r2 1)) r4) r6)), (3, iV (r2)), (0, .ref (d.ad (o0))), (1, iV (x1)), (2, iV (x2))]) C dX6_touched_38 (by decide) rfl ?_
  refine x_iload C 0 dX6_touched_40 rfl ?_
  refine x_iload_n C 3 dX6_touched_42 rfl ?_
  refine x_ishr C dX6_touched_43 ?_
  refine x_iconst C dX6_touched_44 ?_
  refine x_iand C dX6_touched_45 ?_
  refine x_iconst C dX6_touched_46 ?_
  refine x_icmp_ne (tgt := 54) C dX6_touched_47 (by decide) hq (fun hq => ?_) (fun hq => ?_)
  · refine x_iconst C dX6_touched_54 ?_
    exact hR _ _ _ _ hq (by decide +kernel) dX6_touched_55
  · refine x_iconst C dX6_touched_50 ?_
    refine x_goto (tgt := 55) C dX6_touched_51 (by decide) ?_
    exact hR _ _ _ _ hq (by decide +kernel) dX6_touched_55
set_option maxRecDepth 100000 in
set_option maxHeartbeats 4000000 in
theorem c_X6_touched (l : Launch) (G : Gd) {dm na : Nat} {ad : Nat → Nat} (hdm : dm = 0) {o0 : Nat} {x1 : Int} {x2 : Int} {w w' : Wd} {r : Int} (h0 : isK na dm 7 o0) (hq : p_X6_touched o0 x1 x2 w = some (r, w')) : mI l yX6_touched cX6_touched 5 (some .boolean) (rmv 1 21 0 0) G dm na ad [.ref (ad (o0)), iV (x1), iV (x2)] w r w' := by
  refine met_I [(0, .ref (ad (o0))), (1, iV (x1)), (2, iV (x2))] (by decide) (Nat.le_of_ble_eq_true rfl) rfl .boolean rfl (fun g d C S hR => ?_)
  obtain ⟨rfl, hR0, rfl, rfl, rfl, hA⟩ := S
  exact L_X6_touched (d := (na, ad, 0, 0)) C hdm hA hR0 ⟨Nat.zero_le _, Nat.zero_le _⟩ hR h0 _ _ w hq
set_option maxRecDepth 100000 in
set_option maxHeartbeats 4000000 in
theorem L_X6_strokesOn_46 {g : Cx} {d : Dl} (C : CX g cX6_strokesOn 6 (some .int) RX6) (hdm : g.dm = 0) (hA : ∀ q : Nat, g.s.heap.size ≤ q → g.A q) (hR0 : g.R = rmv 2 45 0 0) (hce : d.ce ≤ g.R.cells ∧ d.so ≤ g.R.slots) {res : Int × Wd} (hR : rtI g d cX6_strokesOn .int res) {o0 : Nat} (h0 : isK d.na g.dm 7 o0) (x2 : Int) (x3 : Int) (s0 : Int) (w : Wd) (hq : p_X6_strokesOn_46 o0 x2 x3 s0 w = some res) : XG g d (hP g d w) [(0, .ref (d.ad (o0))), (2, iV (x2)), (3, iV (x3))] [iV (s0)] 46 := by
  refine x_istore (lv' := [(5, iV (s0)), (0, .ref (d.ad (o0))), (2, iV (x2)), (3, iV (x3))]) C dX6_strokesOn_46 (by decide) rfl ?_
  refine x_aload_n C 1 dX6_strokesOn_48 rfl ?_
  refine x_iload_n C 2 dX6_strokesOn_49 rfl ?_
  refine x_iload_n C 3 dX6_strokesOn_50 rfl ?_
  refine x_callVi (K := 7) (rm := rmv 1 21 0 0) (As := [iV (x2), iV (x3)]) (rest := []) C hA hR0 mf_X6_touched lk_X6_115 rfl h0 (by decide) ⟨rfl, rfl⟩ ⟨Nat.le_of_ble_eq_true rfl, Nat.le_of_ble_eq_true rfl⟩ rfl rfl (Nat.le_of_ble_eq_true rfl) hce dX6_strokesOn_51 hq (fun _ _ h => c_X6_touched g.l g.G hdm h0 h) (fun r2 w1 _ hq => ?_)
  refine x_if_eq (tgt := 64) C dX6_strokesOn_54 (by decide) hq (fun hq => ?_) (fun hq => ?_)
  · refine x_iload C 0 dX6_strokesOn_64 rfl ?_
    exact hR _ _ _ _ hq rfl dX6_strokesOn_66
  · refine x_iconst C dX6_strokesOn_57 ?_
    refine x_iload C 0 dX6_strokesOn_58 rfl ?_
    refine x_imul C dX6_strokesOn_60 ?_
    refine x_goto (tgt := 66) C dX6_strokesOn_61 (by decide) ?_
    exact hR _ _ _ _ hq rfl dX6_strokesOn_66
set_option maxRecDepth 100000 in
set_option maxHeartbeats 4000000 in
theorem L_X6_strokesOn_17 {g : Cx} {d : Dl} (C : CX g cX6_strokesOn 6 (some .int) RX6) (hdm : g.dm = 0) (hA : ∀ q : Nat, g.s.heap.size ≤ q → g.A q) (hR0 : g.R = rmv 2 45 0 0) (hce : d.ce ≤ g.R.cells ∧ d.so ≤ g.R.slots) {res : Int × Wd} (hR : rtI g d cX6_strokesOn .int res) {o0 : Nat} (h0 : isK d.na g.dm 7 o0) (x1 : Int) (x2 : Int) (x3 : Int) (s0 : Int) (w : Wd) (hq : p_X6_strokesOn_17 o0 x1 x2 x3 s0 w = some res) : XG g d (hP g d w) [(0, .ref (d.ad (o0))), (1, iV (x1)), (2, iV (x2)), (3, iV (x3))] [iV (s0)] 17 := by
  refine x_istore (lv' := [(4, iV (s0)), (0, .ref (d.ad (o0))), (1, iV (x1)), (2, iV (x2)), (3, iV (x3))]) C dX6_strokesOn_17 (by decide) rfl ?_
  refine x_iload C 0 dX6_strokesOn_19 rfl ?_
  refine x_if_eq (tgt := 35) C dX6_strokesOn_21 (by decide) hq (fun hq => ?_) (fun hq => ?_)
  · refine x_iconst C dX6_strokesOn_35 ?_
    refine x_bipush (v := 7) C dX6_strokesOn_36 (by decide +kernel) ?_
    refine x_iload_n C 2 dX6_strokesOn_38 rfl ?_
    refine x_bipush (v := 97) C dX6_strokesOn_39 (by decide +kernel) ?_
    refine x_isub C dX6_strokesOn_41 ?_
    refine x_imul C dX6_strokesOn_42 ?_
    refine x_iconst C dX6_strokesOn_43 ?_
    refine x_irem C (by decide +kernel) dX6_strokesOn_44 ?_
    refine x_iadd C dX6_strokesOn_45 ?_
    refine XG.sub [1, 3, 4] rfl ?_
    exact L_X6_strokesOn_46 C hdm hA hR0 hce hR h0 _ _ _ _ hq
  · refine x_iconst C dX6_strokesOn_24 ?_
    refine x_iload_n C 2 dX6_strokesOn_25 rfl ?_
    refine x_bipush (v := 48) C dX6_strokesOn_26 (by decide +kernel) ?_
    refine x_isub C dX6_strokesOn_28 ?_
    refine x_iconst C dX6_strokesOn_29 ?_
    refine x_irem C (by decide +kernel) dX6_strokesOn_30 ?_
    refine x_iadd C dX6_strokesOn_31 ?_
    refine x_goto (tgt := 46) C dX6_strokesOn_32 (by decide) ?_
    refine XG.sub [1, 3, 4] rfl ?_
    exact L_X6_strokesOn_46 C hdm hA hR0 hce hR h0 _ _ _ _ hq
set_option maxRecDepth 100000 in
set_option maxHeartbeats 4000000 in
theorem L_X6_strokesOn_16 {g : Cx} {d : Dl} (C : CX g cX6_strokesOn 6 (some .int) RX6) (hdm : g.dm = 0) (hA : ∀ q : Nat, g.s.heap.size ≤ q → g.A q) (hR0 : g.R = rmv 2 45 0 0) (hce : d.ce ≤ g.R.cells ∧ d.so ≤ g.R.slots) {res : Int × Wd} (hR : rtI g d cX6_strokesOn .int res) {o0 : Nat} (h0 : isK d.na g.dm 7 o0) (x1 : Int) (x2 : Int) (x3 : Int) (w : Wd) (hq : p_X6_strokesOn_16 o0 x1 x2 x3 w = some res) : XG g d (hP g d w) [(0, .ref (d.ad (o0))), (1, iV (x1)), (2, iV (x2)), (3, iV (x3))] [] 16 := by
  refine x_iconst C dX6_strokesOn_16 ?_
  exact L_X6_strokesOn_17 C hdm hA hR0 hce hR h0 _ _ _ _ _ hq
set_option maxRecDepth 100000 in
set_option maxHeartbeats 4000000 in
theorem L_X6_strokesOn {g : Cx} {d : Dl} (C : CX g cX6_strokesOn 6 (some .int) RX6) (hdm : g.dm = 0) (hA : ∀ q : Nat, g.s.heap.size ≤ q → g.A q) (hR0 : g.R = rmv 2 45 0 0) (hce : d.ce ≤ g.R.cells ∧ d.so ≤ g.R.slots) {res : Int × Wd} (hR : rtI g d cX6_strokesOn .int res) {o0 : Nat} (h0 : isK d.na g.dm 7 o0) (x1 : Int) (x2 : Int) (x3 : Int) (w : Wd) (hq : p_X6_strokesOn o0 x1 x2 x3 w = some res) : XG g d (hP g d w) [(0, .ref (d.ad (o0))), (1, iV (x1)), (2, iV (x2)), (3, iV (x3))] [] 0 := by
  refine x_iload_n C 1 dX6_strokesOn_0 rfl ?_
  refine x_bipush (v := 48) C dX6_strokesOn_1 (by decide +kernel) ?_
  refine x_icmp_lt (tgt := 16) C dX6_strokesOn_3 (by decide) hq (fun hq => ?_) (fun hq => ?_)
  · exact L_X6_strokesOn_16 C hdm hA hR0 hce hR h0 _ _ _ _ hq
  · refine x_iload_n C 1 dX6_strokesOn_6 rfl ?_
    refine x_bipush (v := 57) C dX6_strokesOn_7 (by decide +kernel) ?_
    refine x_icmp_gt (tgt := 16) C dX6_strokesOn_9 (by decide) hq (fun hq => ?_) (fun hq => ?_)
    · exact L_X6_strokesOn_16 C hdm hA hR0 hce hR h0 _ _ _ _ hq
    · refine x_iconst C dX6_strokesOn_12 ?_
      refine x_goto (tgt := 17) C dX6_strokesOn_13 (by decide) ?_
      exact L_X6_strokesOn_17 C hdm hA hR0 hce hR h0 _ _ _ _ _ hq
set_option maxRecDepth 100000 in
set_option maxHeartbeats 4000000 in
theorem c_X6_strokesOn (l : Launch) (G : Gd) {dm na : Nat} {ad : Nat → Nat} (hdm : dm = 0) {o0 : Nat} {x1 : Int} {x2 : Int} {x3 : Int} {w w' : Wd} {r : Int} (h0 : isK na dm 7 o0) (hq : p_X6_strokesOn o0 x1 x2 x3 w = some (r, w')) : mI l yX6_strokesOn cX6_strokesOn 6 (some .int) (rmv 2 45 0 0) G dm na ad [.ref (ad (o0)), iV (x1), iV (x2), iV (x3)] w r w' := by
  refine met_I [(0, .ref (ad (o0))), (1, iV (x1)), (2, iV (x2)), (3, iV (x3))] (by decide) (Nat.le_of_ble_eq_true rfl) rfl .int rfl (fun g d C S hR => ?_)
  obtain ⟨rfl, hR0, rfl, rfl, rfl, hA⟩ := S
  exact L_X6_strokesOn (d := (na, ad, 0, 0)) C hdm hA hR0 ⟨Nat.zero_le _, Nat.zero_le _⟩ hR h0 _ _ _ w hq
set_option maxRecDepth 100000 in
set_option maxHeartbeats 4000000 in
theorem L_X2_listLetters_119 {g : Cx} {d : Dl} (C : CX g cX2_listLetters 6 none RX2) (hdm : g.dm = 0) (hA : ∀ q : Nat, g.s.heap.size ≤ q → g.A q) (hR0 : g.R = rmv 3 70 0 0) (hce : d.ce ≤ g.R.cells ∧ d.so ≤ g.R.slots) {res : Wd} (hR : rtV g d cX2_listLetters res) {o0 : Nat} {o1 : Nat} (h0 : isK d.na g.dm 3 o0) (h1 : isK d.na g.dm 7 o1) {k7 : Int → Wd → Option (Wd)} (hk7 : ∀ (x2 : Int) (w : Wd), k7 x2 w = some res → XG g d (hP g d w) [(0, .ref (d.ad (o0))), (1, .ref (d.ad (o1))), (2, iV (x2))] [] 7) (x2 : Int) (w : Wd) (hq : p_X2_listLetters_119 o0 o1 k7 x2 w = some res) : XG g d (hP g d w) [(0, .ref (d.ad (o0))), (1, .ref (d.ad (o1))), (2, iV (x2))] [] 119 := by
  refine x_iinc (lv' := [(2, iV (x2 + 1)), (0, .ref (d.ad (o0))), (1, .ref (d.ad (o1)))]) C 2 dX2_listLetters_119 rfl (by decide) rfl ?_
  refine x_goto (tgt := 7) C dX2_listLetters_122 (by decide) ?_
  refine XG.sub [1, 2, 0] rfl ?_
  exact hk7 _ _ hq
set_option maxRecDepth 100000 in
set_option maxHeartbeats 4000000 in
theorem L_X2_listLetters_27 {g : Cx} {d : Dl} (C : CX g cX2_listLetters 6 none RX2) (hdm : g.dm = 0) (hA : ∀ q : Nat, g.s.heap.size ≤ q → g.A q) (hR0 : g.R = rmv 3 70 0 0) (hce : d.ce ≤ g.R.cells ∧ d.so ≤ g.R.slots) {res : Wd} (hR : rtV g d cX2_listLetters res) {o0 : Nat} {o1 : Nat} (h0 : isK d.na g.dm 3 o0) (h1 : isK d.na g.dm 7 o1) {k7 : Int → Wd → Option (Wd)} (hk7 : ∀ (x2 : Int) (w : Wd), k7 x2 w = some res → XG g d (hP g d w) [(0, .ref (d.ad (o0))), (1, .ref (d.ad (o1))), (2, iV (x2))] [] 7) : ∀ (n : Nat) (x2 : Int) (x3 : Int) (x4 : Int) (w : Wd), p_X2_listLetters_27 o0 o1 k7 n x2 x3 x4 w = some res → XG g d (hP g d w) [(0, .ref (d.ad (o0))), (1, .ref (d.ad (o1))), (2, iV (x2)), (3, iV (x3)), (4, iV (x4))] [] 27 := by
  intro n
  induction n with
  | zero => intro x2 x3 x4 w  hq; exact nomatch (show none = some _ from hq)
  | succ n ih =>
    intro x2 x3 x4 w  hq
    refine x_iload C 4 dX2_listLetters_27 rfl ?_
    refine x_iload_n C 3 dX2_listLetters_29 rfl ?_
    refine x_icmp_ge (tgt := 119) C dX2_listLetters_30 (by decide) hq (fun hq => ?_) (fun hq => ?_)
    · refine XG.sub [0, 1, 2] rfl ?_
      exact L_X2_listLetters_119 C hdm hA hR0 hce hR h0 h1 hk7 _ _ hq
    · refine x_aload_n C 0 dX2_listLetters_33 rfl ?_
      refine x_getr (K := 3) (k := 1) (o2 := o0 + 3) C h0 (by decide) cl_X2 (by decide) ⟨rfl, rfl, rfl⟩ fl_X2_20 rfl dX2_listLetters_34 ?_
      refine x_iload_n C 2 dX2_listLetters_37 rfl ?_
      refine x_callVi (K := 6) (rm := rmv 0 0 0 0) (As := [iV (x2)]) (rest := []) C hA hR0 mf_X5_at lk_X2_50 rfl (ik3 h0).2.1 (by decide) ⟨rfl, rfl⟩ ⟨Nat.le_of_ble_eq_true rfl, Nat.le_of_ble_eq_true rfl⟩ rfl rfl (Nat.le_of_ble_eq_true rfl) hce dX2_listLetters_38 hq (fun _ _ h => c_X5_at g.l g.G hdm (ik3 h0).2.1 h) (fun r2 w1 _ hq => ?_)
      refine x_iload C 4 dX2_listLetters_41 rfl ?_
      refine x_iadd C dX2_listLetters_43 ?_
      refine x_istore (lv' := [(5, iV (r2 + x4)), (0, .ref (d.ad (o0))), (1, .ref (d.ad (o1))), (2, iV (x2)), (3, iV (x3)), (4, iV (x4))]) C dX2_listLetters_44 (by decide) rfl ?_
      refine x_aload_n C 1 dX2_listLetters_46 rfl ?_
      refine x_getr (K := 3) (k := 2) (o2 := o0 + 5) C h0 (by decide) cl_X2 (by decide) ⟨rfl, rfl, rfl⟩ fl_X2_23 rfl dX2_listLetters_47 ?_
      refine x_aload_n C 1 dX2_listLetters_50 rfl ?_
      refine x_get (K := 3) (k := 5) C h0 (by decide) cl_X2 (by decide) ⟨rfl, rfl, rfl⟩ fl_X2_33 dX2_listLetters_51 ?_
      refine x_bipush (v := 100) C dX2_listLetters_54 (by decide +kernel) ?_
      refine x_aload_n C 1 dX2_listLetters_56 rfl ?_
      refine x_getr (K := 3) (k := 0) (o2 := o0 + 1) C h0 (by decide) cl_X2 (by decide) ⟨rfl, rfl, rfl⟩ fl_X2_14 rfl dX2_listLetters_57 ?_
      refine x_iload_n C 3 dX2_listLetters_60 rfl ?_
      refine x_callVi (K := 6) (rm := rmv 0 0 0 0) (As := [iV (x2)]) (rest := [iV (100), iV (gF w1 o0 5), .ref (d.ad (o0 + 5))]) C hA hR0 mf_X5_at lk_X2_50 rfl (ik3 h0).1 (by decide) ⟨rfl, rfl⟩ ⟨Nat.le_of_ble_eq_true rfl, Nat.le_of_ble_eq_true rfl⟩ rfl rfl (Nat.le_of_ble_eq_true rfl) hce dX2_listLetters_61 hq (fun _ _ h => c_X5_at g.l g.G hdm (ik3 h0).1 h) (fun r4 w3 _ hq => ?_)
      refine x_imul C dX2_listLetters_64 ?_
      refine x_iload C 0 dX2_listLetters_65 rfl ?_
      refine x_iadd C dX2_listLetters_67 ?_
      refine x_callVv (K := 6) (rm := rmv 0 0 0 0) (As := [iV (gF w1 o0 5), iV ((100 * r4) + (r2 + x4))]) (rest := []) C hA hR0 mf_X5_put lk_X2_71 rfl (ik3 h0).2.2.1 (by decide) ⟨rfl, rfl⟩ ⟨Nat.le_of_ble_eq_true rfl, Nat.le_of_ble_eq_true rfl⟩ rfl rfl (Nat.le_of_ble_eq_true rfl) hce dX2_listLetters_68 hq (fun _ h => c_X5_put g.l g.G hdm (ik3 h0).2.2.1 h) (fun w5 _ hq => ?_)
      refine x_aload_n C 1 dX2_listLetters_71 rfl ?_
      refine x_getr (K := 3) (k := 3) (o2 := o0 + 7) C h0 (by decide) cl_X2 (by decide) ⟨rfl, rfl, rfl⟩ fl_X2_26 rfl dX2_listLetters_72 ?_
      refine x_aload_n C 1 dX2_listLetters_75 rfl ?_
      refine x_get (K := 3) (k := 5) C h0 (by decide) cl_X2 (by decide) ⟨rfl, rfl, rfl⟩ fl_X2_33 dX2_listLetters_76 ?_
      refine x_aload_n C 2 dX2_listLetters_79 rfl ?_
      refine x_aload_n C 2 dX2_listLetters_80 rfl ?_
      refine x_iload_n C 3 dX2_listLetters_81 rfl ?_
      refine x_iload C 5 dX2_listLetters_82 rfl ?_
      refine x_callVi (K := 7) (rm := rmv 1 21 0 0) (As := [iV (x2), iV (x4)]) (rest := [.ref (d.ad (o1)), iV (gF w5 o0 5), .ref (d.ad (o0 + 7))]) C hA hR0 mf_X6_byteOf lk_X2_98 rfl h1 (by decide) ⟨rfl, rfl⟩ ⟨Nat.le_of_ble_eq_true rfl, Nat.le_of_ble_eq_true rfl⟩ rfl rfl (Nat.le_of_ble_eq_true rfl) hce dX2_listLetters_84 hq (fun _ _ h => c_X6_byteOf g.l g.G hdm h1 h) (fun r7 w6 _ hq => ?_)
      refine x_iload C 0 dX2_listLetters_87 rfl ?_
      refine x_aload_n C 1 dX2_listLetters_89 rfl ?_
      refine x_getr (K := 3) (k := 0) (o2 := o0 + 1) C h0 (by decide) cl_X2 (by decide) ⟨rfl, rfl, rfl⟩ fl_X2_14 rfl dX2_listLetters_90 ?_
      refine x_iload_n C 3 dX2_listLetters_93 rfl ?_
      refine x_callVi (K := 6) (rm := rmv 0 0 0 0) (As := [iV (x2)]) (rest := [iV (r2 + x4), iV (r7), .ref (d.ad (o1)), iV (gF w5 o0 5), .ref (d.ad (o0 + 7))]) C hA hR0 mf_X5_at lk_X2_50 rfl (ik3 h0).1 (by decide) ⟨rfl, rfl⟩ ⟨Nat.le_of_ble_eq_true rfl, Nat.le_of_ble_eq_true rfl⟩ rfl rfl (Nat.le_of_ble_eq_true rfl) hce dX2_listLetters_94 hq (fun _ _ h => c_X5_at g.l g.G hdm (ik3 h0).1 h) (fun r9 w8 _ hq => ?_)
      refine x_callVi (K := 7) (rm := rmv 2 45 0 0) (As := [iV (r7), iV (r2 + x4), iV (r9)]) (rest := [iV (gF w5 o0 5), .ref (d.ad (o0 + 7))]) C hA hR0 mf_X6_strokesOn lk_X2_101 rfl h1 (by decide) ⟨rfl, rfl⟩ ⟨Nat.le_of_ble_eq_true rfl, Nat.le_of_ble_eq_true rfl⟩ rfl rfl (Nat.le_of_ble_eq_true rfl) hce dX2_listLetters_97 hq (fun _ _ h => c_X6_strokesOn g.l g.G hdm h1 h) (fun r11 w10 _ hq => ?_)
      refine x_callVv (K := 6) (rm := rmv 0 0 0 0) (As := [iV (gF w5 o0 5), iV (r11)]) (rest := []) C hA hR0 mf_X5_put lk_X2_71 rfl (ik3 h0).2.2.2 (by decide) ⟨rfl, rfl⟩ ⟨Nat.le_of_ble_eq_true rfl, Nat.le_of_ble_eq_true rfl⟩ rfl rfl (Nat.le_of_ble_eq_true rfl) hce dX2_listLetters_100 hq (fun _ h => c_X5_put g.l g.G hdm (ik3 h0).2.2.2 h) (fun w12 _ hq => ?_)
      refine x_aload_n C 1 dX2_listLetters_103 rfl ?_
      refine x_dup C rfl dX2_listLetters_104 ?_
      refine x_get (K := 3) (k := 5) C h0 (by decide) cl_X2 (by decide) ⟨rfl, rfl, rfl⟩ fl_X2_33 dX2_listLetters_105 ?_
      refine x_iconst C dX2_listLetters_108 ?_
      refine x_iadd C dX2_listLetters_109 ?_
      refine x_put (K := 3) (k := 5) C h0 (by decide) cl_X2 (by decide) ⟨rfl, rfl, rfl, rfl⟩ fl_X2_33 ⟨rfl, rfl⟩ dX2_listLetters_110 ?_
      refine x_iinc (lv' := [(4, iV (x4 + 1)), (5, iV (r2 + x4)), (0, .ref (d.ad (o0))), (1, .ref (d.ad (o1))), (2, iV (x2)), (3, iV (x3))]) C 5 dX2_listLetters_113 rfl (by decide) rfl ?_
      refine x_goto (tgt := 27) C dX2_listLetters_116 (by decide) ?_
      refine XG.sub [2, 3, 4, 5, 0] rfl ?_
      exact ih _ _ _ _ hq
set_option maxRecDepth 100000 in
set_option maxHeartbeats 4000000 in
theorem L_X2_listLetters_7 {g : Cx} {d : Dl} (C : CX g cX2_listLetters 6 none RX2) (hdm : g.dm = 0) (hA : ∀ q : Nat, g.s.heap.size ≤ q → g.A q) (hR0 : g.R = rmv 3 70 0 0) (hce : d.ce ≤ g.R.cells ∧ d.so ≤ g.R.slots) {res : Wd} (hR : rtV g d cX2_listLetters res) {o0 : Nat} {o1 : Nat} (h0 : isK d.na g.dm 3 o0) (h1 : isK d.na g.dm 7 o1) : ∀ (n : Nat) (x2 : Int) (w : Wd), p_X2_listLetters_7 o0 o1 n x2 w = some res → XG g d (hP g d w) [(0, .ref (d.ad (o0))), (1, .ref (d.ad (o1))), (2, iV (x2))] [] 7 := by
  intro n
  induction n with
  | zero => intro x2 w  hq; exact nomatch (show none = some _ from hq)
  | succ n ih =>
    intro x2 w  hq
    refine x_iload_n C 2 dX2_listLetters_7 rfl ?_
    refine x_aload_n C 0 dX2_listLetters_8 rfl ?_
    refine x_get (K := 3) (k := 4) C h0 (by decide) cl_X2 (by decide) ⟨rfl, rfl, rfl⟩ fl_X2_29 dX2_listLetters_9 ?_
    refine x_icmp_ge (tgt := 125) C dX2_listLetters_12 (by decide) hq (fun hq => ?_) (fun hq => ?_)
    · exact hR _ _ _ hq dX2_listLetters_125
    · refine x_aload_n C 1 dX2_listLetters_15 rfl ?_
      refine x_getr (K := 7) (k := 8) (o2 := o1 + 7) C h1 (by decide) cl_X6 (by decide) ⟨rfl, rfl, rfl⟩ fl_X2_79 rfl dX2_listLetters_16 ?_
      refine x_iload_n C 2 dX2_listLetters_19 rfl ?_
      refine x_callVi (K := 6) (rm := rmv 0 0 0 0) (As := [iV (x2)]) (rest := []) C hA hR0 mf_X5_at lk_X2_50 rfl (ik7 h1).2.2.2.1 (by decide) ⟨rfl, rfl⟩ ⟨Nat.le_of_ble_eq_true rfl, Nat.le_of_ble_eq_true rfl⟩ rfl rfl (Nat.le_of_ble_eq_true rfl) hce dX2_listLetters_20 hq (fun _ _ h => c_X5_at g.l g.G hdm (ik7 h1).2.2.2.1 h) (fun r2 w1 _ hq => ?_)
      refine x_istore_n (lv' := [(3, iV (r2)), (0, .ref (d.ad (o0))), (1, .ref (d.ad (o1))), (2, iV (x2))]) C dX2_listLetters_23 (by decide) rfl ?_
      refine x_iconst C dX2_listLetters_24 ?_
      refine x_istore (lv' := [(4, iV (0)), (3, iV (r2)), (0, .ref (d.ad (o0))), (1, .ref (d.ad (o1))), (2, iV (x2))]) C dX2_listLetters_25 (by decide) rfl ?_
      refine XG.sub [2, 3, 4, 1, 0] rfl ?_
      exact L_X2_listLetters_27 C hdm hA hR0 hce hR h0 h1 ih _ _ _ _ _ hq
set_option maxRecDepth 100000 in
set_option maxHeartbeats 4000000 in
theorem L_X2_listLetters {g : Cx} {d : Dl} (C : CX g cX2_listLetters 6 none RX2) (hdm : g.dm = 0) (hA : ∀ q : Nat, g.s.heap.size ≤ q → g.A q) (hR0 : g.R = rmv 3 70 0 0) (hce : d.ce ≤ g.R.cells ∧ d.so ≤ g.R.slots) {res : Wd} (hR : rtV g d cX2_listLetters res) {o0 : Nat} {o1 : Nat} (h0 : isK d.na g.dm 3 o0) (h1 : isK d.na g.dm 7 o1)  (w : Wd) (hq : p_X2_listLetters o0 o1 w = some res) : XG g d (hP g d w) [(0, .ref (d.ad (o0))), (1, .ref (d.ad (o1)))] [] 0 := by
  refine x_aload_n C 0 dX2_listLetters_0 rfl ?_
  refine x_iconst C dX2_listLetters_1 ?_
  refine x_put (K := 3) (k := 5) C h0 (by decide) cl_X2 (by decide) ⟨rfl, rfl, rfl, rfl⟩ fl_X2_33 ⟨rfl, rfl⟩ dX2_listLetters_2 ?_
  refine x_iconst C dX2_listLetters_5 ?_
  refine x_istore_n (lv' := [(2, iV (0)), (0, .ref (d.ad (o0))), (1, .ref (d.ad (o1)))]) C dX2_listLetters_6 (by decide) rfl ?_
  refine XG.sub [1, 2, 0] rfl ?_
  exact L_X2_listLetters_7 C hdm hA hR0 hce hR h0 h1 _ _ _ hq
set_option maxRecDepth 100000 in
set_option maxHeartbeats 4000000 in
theorem c_X2_listLetters (l : Launch) (G : Gd) {dm na : Nat} {ad : Nat → Nat} (hdm : dm = 0) {o0 : Nat} {o1 : Nat} {w w' : Wd}  (h0 : isK na dm 3 o0) (h1 : isK na dm 7 o1) (hq : p_X2_listLetters o0 o1 w = some w') : mV l yX2_listLetters cX2_listLetters 6 none (rmv 3 70 0 0) G dm na ad [.ref (ad (o0)), .ref (ad (o1))] w w' := by
  refine met_V [(0, .ref (ad (o0))), (1, .ref (ad (o1)))] (by decide) (Nat.le_of_ble_eq_true rfl) rfl rfl (fun g d C S hR => ?_)
  obtain ⟨rfl, hR0, rfl, rfl, rfl, hA⟩ := S
  exact L_X2_listLetters (d := (na, ad, 0, 0)) C hdm hA hR0 ⟨Nat.zero_le _, Nat.zero_le _⟩ hR h0 h1  w hq
set_option maxRecDepth 100000 in
set_option maxHeartbeats 4000000 in
theorem L_X2_costsOf_5 {g : Cx} {d : Dl} (C : CX g cX2_costsOf 5 (some .int) RX2) (hdm : g.dm = 0) (hA : ∀ q : Nat, g.s.heap.size ≤ q → g.A q) (hR0 : g.R = rmv 1 21 0 0) (hce : d.ce ≤ g.R.cells ∧ d.so ≤ g.R.slots) {res : Int × Wd} (hR : rtI g d cX2_costsOf .int res) {o0 : Nat} (h0 : isK d.na g.dm 3 o0) : ∀ (n : Nat) (x2 : Int) (x3 : Int) (x4 : Int) (w : Wd), p_X2_costsOf_5 o0 n x2 x3 x4 w = some res → XG g d (hP g d w) [(0, .ref (d.ad (o0))), (2, iV (x2)), (3, iV (x3)), (4, iV (x4))] [] 5 := by
  intro n
  induction n with
  | zero => intro x2 x3 x4 w  hq; exact nomatch (show none = some _ from hq)
  | succ n ih =>
    intro x2 x3 x4 w  hq
    refine x_iload C 3 dX2_costsOf_5 rfl ?_
    refine x_iload_n C 1 dX2_costsOf_7 rfl ?_
    refine x_icmp_ge (tgt := 29) C dX2_costsOf_8 (by decide) hq (fun hq => ?_) (fun hq => ?_)
    · refine x_iload_n C 2 dX2_costsOf_29 rfl ?_
      exact hR _ _ _ _ hq rfl dX2_costsOf_30
    · refine x_iload_n C 2 dX2_costsOf_11 rfl ?_
      refine x_aload_n C 0 dX2_costsOf_12 rfl ?_
      refine x_getr (K := 3) (k := 3) (o2 := o0 + 7) C h0 (by decide) cl_X2 (by decide) ⟨rfl, rfl, rfl⟩ fl_X2_26 rfl dX2_costsOf_13 ?_
      refine x_iload C 3 dX2_costsOf_16 rfl ?_
      refine x_callVi (K := 6) (rm := rmv 0 0 0 0) (As := [iV (x4)]) (rest := [iV (x3)]) C hA hR0 mf_X5_at lk_X2_50 rfl (ik3 h0).2.2.2 (by decide) ⟨rfl, rfl⟩ ⟨Nat.le_of_ble_eq_true rfl, Nat.le_of_ble_eq_true rfl⟩ rfl rfl (Nat.le_of_ble_eq_true rfl) hce dX2_costsOf_18 hq (fun _ _ h => c_X5_at g.l g.G hdm (ik3 h0).2.2.2 h) (fun r2 w1 _ hq => ?_)
      refine x_iadd C dX2_costsOf_21 ?_
      refine x_istore_n (lv' := [(3, iV (x3 + r2)), (0, .ref (d.ad (o0))), (2, iV (x2)), (4, iV (x4))]) C dX2_costsOf_22 (by decide) rfl ?_
      refine x_iinc (lv' := [(4, iV (x4 + 1)), (3, iV (x3 + r2)), (0, .ref (d.ad (o0))), (2, iV (x2))]) C 3 dX2_costsOf_23 rfl (by decide) rfl ?_
      refine x_goto (tgt := 5) C dX2_costsOf_26 (by decide) ?_
      refine XG.sub [2, 3, 1, 0] rfl ?_
      exact ih _ _ _ _ hq
set_option maxRecDepth 100000 in
set_option maxHeartbeats 4000000 in
theorem L_X2_costsOf {g : Cx} {d : Dl} (C : CX g cX2_costsOf 5 (some .int) RX2) (hdm : g.dm = 0) (hA : ∀ q : Nat, g.s.heap.size ≤ q → g.A q) (hR0 : g.R = rmv 1 21 0 0) (hce : d.ce ≤ g.R.cells ∧ d.so ≤ g.R.slots) {res : Int × Wd} (hR : rtI g d cX2_costsOf .int res) {o0 : Nat} (h0 : isK d.na g.dm 3 o0) (x1 : Int) (x2 : Int) (w : Wd) (hq : p_X2_costsOf o0 x1 x2 w = some res) : XG g d (hP g d w) [(0, .ref (d.ad (o0))), (1, iV (x1)), (2, iV (x2))] [] 0 := by
  refine x_iconst C dX2_costsOf_0 ?_
  refine x_istore_n (lv' := [(3, iV (0)), (0, .ref (d.ad (o0))), (1, iV (x1)), (2, iV (x2))]) C dX2_costsOf_1 (by decide) rfl ?_
  refine x_iload_n C 2 dX2_costsOf_2 rfl ?_
  refine x_istore (lv' := [(4, iV (x1)), (3, iV (0)), (0, .ref (d.ad (o0))), (1, iV (x1)), (2, iV (x2))]) C dX2_costsOf_3 (by decide) rfl ?_
  refine XG.sub [2, 4, 1, 0] rfl ?_
  exact L_X2_costsOf_5 C hdm hA hR0 hce hR h0 _ _ _ _ _ hq
set_option maxRecDepth 100000 in
set_option maxHeartbeats 4000000 in
theorem c_X2_costsOf (l : Launch) (G : Gd) {dm na : Nat} {ad : Nat → Nat} (hdm : dm = 0) {o0 : Nat} {x1 : Int} {x2 : Int} {w w' : Wd} {r : Int} (h0 : isK na dm 3 o0) (hq : p_X2_costsOf o0 x1 x2 w = some (r, w')) : mI l yX2_costsOf cX2_costsOf 5 (some .int) (rmv 1 21 0 0) G dm na ad [.ref (ad (o0)), iV (x1), iV (x2)] w r w' := by
  refine met_I [(0, .ref (ad (o0))), (1, iV (x1)), (2, iV (x2))] (by decide) (Nat.le_of_ble_eq_true rfl) rfl .int rfl (fun g d C S hR => ?_)
  obtain ⟨rfl, hR0, rfl, rfl, rfl, hA⟩ := S
  exact L_X2_costsOf (d := (na, ad, 0, 0)) C hdm hA hR0 ⟨Nat.zero_le _, Nat.zero_le _⟩ hR h0 _ _ w hq
set_option maxRecDepth 100000 in
set_option maxHeartbeats 4000000 in
theorem L_X2_wordOn_73 {g : Cx} {d : Dl} (C : CX g cX2_wordOn 7 (some .int) RX2) (hdm : g.dm = 0) (hA : ∀ q : Nat, g.s.heap.size ≤ q → g.A q) (hR0 : g.R = rmv 1 21 0 0) (hce : d.ce ≤ g.R.cells ∧ d.so ≤ g.R.slots) {res : Int × Wd} (hR : rtI g d cX2_wordOn .int res) {o0 : Nat} {o1 : Nat} (h0 : isK d.na g.dm 3 o0) (h1 : isK d.na g.dm 7 o1) {k3 : Int → Int → Int → Wd → Option (Int × Wd)} (hk3 : ∀ (x2 : Int) (x3 : Int) (x4 : Int) (w : Wd), k3 x2 x3 x4 w = some res → XG g d (hP g d w) [(0, .ref (d.ad (o0))), (1, .ref (d.ad (o1))), (2, iV (x2)), (3, iV (x3)), (4, iV (x4))] [] 3) (x2 : Int) (x3 : Int) (x4 : Int) (w : Wd) (hq : p_X2_wordOn_73 o0 o1 k3 x2 x3 x4 w = some res) : XG g d (hP g d w) [(0, .ref (d.ad (o0))), (1, .ref (d.ad (o1))), (2, iV (x2)), (3, iV (x3)), (4, iV (x4))] [] 73 := by
  refine x_iinc (lv' := [(4, iV (x4 + 1)), (0, .ref (d.ad (o0))), (1, .ref (d.ad (o1))), (2, iV (x2)), (3, iV (x3))]) C 4 dX2_wordOn_73 rfl (by decide) rfl ?_
  refine x_goto (tgt := 3) C dX2_wordOn_76 (by decide) ?_
  refine XG.sub [1, 2, 3, 4, 0] rfl ?_
  exact hk3 _ _ _ _ hq
set_option maxRecDepth 100000 in
set_option maxHeartbeats 4000000 in
theorem L_X2_wordOn_50 {g : Cx} {d : Dl} (C : CX g cX2_wordOn 7 (some .int) RX2) (hdm : g.dm = 0) (hA : ∀ q : Nat, g.s.heap.size ≤ q → g.A q) (hR0 : g.R = rmv 1 21 0 0) (hce : d.ce ≤ g.R.cells ∧ d.so ≤ g.R.slots) {res : Int × Wd} (hR : rtI g d cX2_wordOn .int res) {o0 : Nat} {o1 : Nat} (h0 : isK d.na g.dm 3 o0) (h1 : isK d.na g.dm 7 o1) {k3 : Int → Int → Int → Wd → Option (Int × Wd)} (hk3 : ∀ (x2 : Int) (x3 : Int) (x4 : Int) (w : Wd), k3 x2 x3 x4 w = some res → XG g d (hP g d w) [(0, .ref (d.ad (o0))), (1, .ref (d.ad (o1))), (2, iV (x2)), (3, iV (x3)), (4, iV (x4))] [] 3) (x2 : Int) (x3 : Int) (x4 : Int) (s0 : Int) (w : Wd) (hq : p_X2_wordOn_50 o0 o1 k3 x2 x3 x4 s0 w = some res) : XG g d (hP g d w) [(0, .ref (d.ad (o0))), (1, .ref (d.ad (o1))), (2, iV (x2)), (3, iV (x3)), (4, iV (x4))] [iV (s0)] 50 := by
  refine x_istore (lv' := [(6, iV (s0)), (0, .ref (d.ad (o0))), (1, .ref (d.ad (o1))), (2, iV (x2)), (3, iV (x3)), (4, iV (x4))]) C dX2_wordOn_50 (by decide) rfl ?_
  refine x_iload C 0 dX2_wordOn_52 rfl ?_
  refine x_if_eq (tgt := 73) C dX2_wordOn_54 (by decide) hq (fun hq => ?_) (fun hq => ?_)
  · refine XG.sub [1, 2, 3, 4, 5] rfl ?_
    exact L_X2_wordOn_73 C hdm hA hR0 hce hR h0 h1 hk3 _ _ _ _ hq
  · refine x_aload_n C 1 dX2_wordOn_57 rfl ?_
    refine x_getr (K := 3) (k := 0) (o2 := o0 + 1) C h0 (by decide) cl_X2 (by decide) ⟨rfl, rfl, rfl⟩ fl_X2_14 rfl dX2_wordOn_58 ?_
    refine x_iload C 5 dX2_wordOn_61 rfl ?_
    refine x_callVi (K := 6) (rm := rmv 0 0 0 0) (As := [iV (x4)]) (rest := []) C hA hR0 mf_X5_at lk_X2_50 rfl (ik3 h0).1 (by decide) ⟨rfl, rfl⟩ ⟨Nat.le_of_ble_eq_true rfl, Nat.le_of_ble_eq_true rfl⟩ rfl rfl (Nat.le_of_ble_eq_true rfl) hce dX2_wordOn_63 hq (fun _ _ h => c_X5_at g.l g.G hdm (ik3 h0).1 h) (fun r2 w1 _ hq => ?_)
    refine x_iload_n C 4 dX2_wordOn_66 rfl ?_
    refine x_icmp_ne (tgt := 73) C dX2_wordOn_67 (by decide) hq (fun hq => ?_) (fun hq => ?_)
    · refine XG.sub [1, 2, 3, 4, 5] rfl ?_
      exact L_X2_wordOn_73 C hdm hA hR0 hce hR h0 h1 hk3 _ _ _ _ hq
    · refine x_iload C 5 dX2_wordOn_70 rfl ?_
      exact hR _ _ _ _ hq rfl dX2_wordOn_72
set_option maxRecDepth 100000 in
set_option maxHeartbeats 4000000 in
theorem L_X2_wordOn_49 {g : Cx} {d : Dl} (C : CX g cX2_wordOn 7 (some .int) RX2) (hdm : g.dm = 0) (hA : ∀ q : Nat, g.s.heap.size ≤ q → g.A q) (hR0 : g.R = rmv 1 21 0 0) (hce : d.ce ≤ g.R.cells ∧ d.so ≤ g.R.slots) {res : Int × Wd} (hR : rtI g d cX2_wordOn .int res) {o0 : Nat} {o1 : Nat} (h0 : isK d.na g.dm 3 o0) (h1 : isK d.na g.dm 7 o1) {k3 : Int → Int → Int → Wd → Option (Int × Wd)} (hk3 : ∀ (x2 : Int) (x3 : Int) (x4 : Int) (w : Wd), k3 x2 x3 x4 w = some res → XG g d (hP g d w) [(0, .ref (d.ad (o0))), (1, .ref (d.ad (o1))), (2, iV (x2)), (3, iV (x3)), (4, iV (x4))] [] 3) (x2 : Int) (x3 : Int) (x4 : Int) (w : Wd) (hq : p_X2_wordOn_49 o0 o1 k3 x2 x3 x4 w = some res) : XG g d (hP g d w) [(0, .ref (d.ad (o0))), (1, .ref (d.ad (o1))), (2, iV (x2)), (3, iV (x3)), (4, iV (x4))] [] 49 := by
  refine x_iconst C dX2_wordOn_49 ?_
  exact L_X2_wordOn_50 C hdm hA hR0 hce hR h0 h1 hk3 _ _ _ _ _ hq
set_option maxRecDepth 100000 in
set_option maxHeartbeats 4000000 in
theorem L_X2_wordOn_3 {g : Cx} {d : Dl} (C : CX g cX2_wordOn 7 (some .int) RX2) (hdm : g.dm = 0) (hA : ∀ q : Nat, g.s.heap.size ≤ q → g.A q) (hR0 : g.R = rmv 1 21 0 0) (hce : d.ce ≤ g.R.cells ∧ d.so ≤ g.R.slots) {res : Int × Wd} (hR : rtI g d cX2_wordOn .int res) {o0 : Nat} {o1 : Nat} (h0 : isK d.na g.dm 3 o0) (h1 : isK d.na g.dm 7 o1) : ∀ (n : Nat) (x2 : Int) (x3 : Int) (x4 : Int) (w : Wd), p_X2_wordOn_3 o0 o1 n x2 x3 x4 w = some res → XG g d (hP g d w) [(0, .ref (d.ad (o0))), (1, .ref (d.ad (o1))), (2, iV (x2)), (3, iV (x3)), (4, iV (x4))] [] 3 := by
  intro n
  induction n with
  | zero => intro x2 x3 x4 w  hq; exact nomatch (show none = some _ from hq)
  | succ n ih =>
    intro x2 x3 x4 w  hq
    refine x_iload C 4 dX2_wordOn_3 rfl ?_
    refine x_aload_n C 0 dX2_wordOn_5 rfl ?_
    refine x_get (K := 3) (k := 4) C h0 (by decide) cl_X2 (by decide) ⟨rfl, rfl, rfl⟩ fl_X2_29 dX2_wordOn_6 ?_
    refine x_icmp_ge (tgt := 79) C dX2_wordOn_9 (by decide) hq (fun hq => ?_) (fun hq => ?_)
    · refine x_iconst C dX2_wordOn_79 ?_
      exact hR _ _ _ _ hq rfl dX2_wordOn_80
    · refine x_aload_n C 0 dX2_wordOn_12 rfl ?_
      refine x_getr (K := 3) (k := 1) (o2 := o0 + 3) C h0 (by decide) cl_X2 (by decide) ⟨rfl, rfl, rfl⟩ fl_X2_20 rfl dX2_wordOn_13 ?_
      refine x_iload C 4 dX2_wordOn_16 rfl ?_
      refine x_callVi (K := 6) (rm := rmv 0 0 0 0) (As := [iV (x4)]) (rest := []) C hA hR0 mf_X5_at lk_X2_50 rfl (ik3 h0).2.1 (by decide) ⟨rfl, rfl⟩ ⟨Nat.le_of_ble_eq_true rfl, Nat.le_of_ble_eq_true rfl⟩ rfl rfl (Nat.le_of_ble_eq_true rfl) hce dX2_wordOn_18 hq (fun _ _ h => c_X5_at g.l g.G hdm (ik3 h0).2.1 h) (fun r2 w1 _ hq => ?_)
      refine x_istore (lv' := [(5, iV (r2)), (0, .ref (d.ad (o0))), (1, .ref (d.ad (o1))), (2, iV (x2)), (3, iV (x3)), (4, iV (x4))]) C dX2_wordOn_21 (by decide) rfl ?_
      refine x_iload C 0 dX2_wordOn_23 rfl ?_
      refine x_iload_n C 3 dX2_wordOn_25 rfl ?_
      refine x_icmp_gt (tgt := 49) C dX2_wordOn_26 (by decide) hq (fun hq => ?_) (fun hq => ?_)
      · refine XG.sub [1, 2, 3, 4, 5] rfl ?_
        exact L_X2_wordOn_49 C hdm hA hR0 hce hR h0 h1 ih _ _ _ _ hq
      · refine x_iload_n C 3 dX2_wordOn_29 rfl ?_
        refine x_iload C 0 dX2_wordOn_30 rfl ?_
        refine x_aload_n C 2 dX2_wordOn_32 rfl ?_
        refine x_getr (K := 7) (k := 8) (o2 := o1 + 7) C h1 (by decide) cl_X6 (by decide) ⟨rfl, rfl, rfl⟩ fl_X2_79 rfl dX2_wordOn_33 ?_
        refine x_iload C 5 dX2_wordOn_36 rfl ?_
        refine x_callVi (K := 6) (rm := rmv 0 0 0 0) (As := [iV (x4)]) (rest := [iV (r2), iV (x2)]) C hA hR0 mf_X5_at lk_X2_50 rfl (ik7 h1).2.2.2.1 (by decide) ⟨rfl, rfl⟩ ⟨Nat.le_of_ble_eq_true rfl, Nat.le_of_ble_eq_true rfl⟩ rfl rfl (Nat.le_of_ble_eq_true rfl) hce dX2_wordOn_38 hq (fun _ _ h => c_X5_at g.l g.G hdm (ik7 h1).2.2.2.1 h) (fun r4 w3 _ hq => ?_)
        refine x_iadd C dX2_wordOn_41 ?_
        refine x_icmp_ge (tgt := 49) C dX2_wordOn_42 (by decide) hq (fun hq => ?_) (fun hq => ?_)
        · refine XG.sub [1, 2, 3, 4, 5] rfl ?_
          exact L_X2_wordOn_49 C hdm hA hR0 hce hR h0 h1 ih _ _ _ _ hq
        · refine x_iconst C dX2_wordOn_45 ?_
          refine x_goto (tgt := 50) C dX2_wordOn_46 (by decide) ?_
          refine XG.sub [1, 2, 3, 4, 5] rfl ?_
          exact L_X2_wordOn_50 C hdm hA hR0 hce hR h0 h1 ih _ _ _ _ _ hq
set_option maxRecDepth 100000 in
set_option maxHeartbeats 4000000 in
theorem L_X2_wordOn {g : Cx} {d : Dl} (C : CX g cX2_wordOn 7 (some .int) RX2) (hdm : g.dm = 0) (hA : ∀ q : Nat, g.s.heap.size ≤ q → g.A q) (hR0 : g.R = rmv 1 21 0 0) (hce : d.ce ≤ g.R.cells ∧ d.so ≤ g.R.slots) {res : Int × Wd} (hR : rtI g d cX2_wordOn .int res) {o0 : Nat} {o1 : Nat} (h0 : isK d.na g.dm 3 o0) (h1 : isK d.na g.dm 7 o1) (x2 : Int) (x3 : Int) (w : Wd) (hq : p_X2_wordOn o0 o1 x2 x3 w = some res) : XG g d (hP g d w) [(0, .ref (d.ad (o0))), (1, .ref (d.ad (o1))), (2, iV (x2)), (3, iV (x3))] [] 0 := by
  refine x_iconst C dX2_wordOn_0 ?_
  refine x_istore (lv' := [(4, iV (0)), (0, .ref (d.ad (o0))), (1, .ref (d.ad (o1))), (2, iV (x2)), (3, iV (x3))]) C dX2_wordOn_1 (by decide) rfl ?_
  refine XG.sub [1, 2, 3, 4, 0] rfl ?_
  exact L_X2_wordOn_3 C hdm hA hR0 hce hR h0 h1 _ _ _ _ _ hq
set_option maxRecDepth 100000 in
set_option maxHeartbeats 4000000 in
theorem c_X2_wordOn (l : Launch) (G : Gd) {dm na : Nat} {ad : Nat → Nat} (hdm : dm = 0) {o0 : Nat} {o1 : Nat} {x2 : Int} {x3 : Int} {w w' : Wd} {r : Int} (h0 : isK na dm 3 o0) (h1 : isK na dm 7 o1) (hq : p_X2_wordOn o0 o1 x2 x3 w = some (r, w')) : mI l yX2_wordOn cX2_wordOn 7 (some .int) (rmv 1 21 0 0) G dm na ad [.ref (ad (o0)), .ref (ad (o1)), iV (x2), iV (x3)] w r w' := by
  refine met_I [(0, .ref (ad (o0))), (1, .ref (ad (o1))), (2, iV (x2)), (3, iV (x3))] (by decide) (Nat.le_of_ble_eq_true rfl) rfl .int rfl (fun g d C S hR => ?_)
  obtain ⟨rfl, hR0, rfl, rfl, rfl, hA⟩ := S
  exact L_X2_wordOn (d := (na, ad, 0, 0)) C hdm hA hR0 ⟨Nat.zero_le _, Nat.zero_le _⟩ hR h0 h1 _ _ w hq
set_option maxRecDepth 100000 in
set_option maxHeartbeats 4000000 in
theorem L_X5_clear_2 {g : Cx} {d : Dl} (C : CX g cX5_clear 2 none RX5) (hdm : g.dm = 0) (hA : ∀ q : Nat, g.s.heap.size ≤ q → g.A q) (hR0 : g.R = rmv 0 0 0 0) (hce : d.ce ≤ g.R.cells ∧ d.so ≤ g.R.slots) {res : Wd} (hR : rtV g d cX5_clear res) {o0 : Nat} (h0 : isK d.na g.dm 6 o0) : ∀ (n : Nat) (x1 : Int) (w : Wd), p_X5_clear_2 o0 n x1 w = some res → XG g d (hP g d w) [(0, .ref (d.ad (o0))), (1, iV (x1))] [] 2 := by
  intro n
  induction n with
  | zero => intro x1 w  hq; exact nomatch (show none = some _ from hq)
  | succ n ih =>
    intro x1 w  hq
    refine x_iload_n C 1 dX5_clear_2 rfl ?_
    refine x_aload_n C 0 dX5_clear_3 rfl ?_
    refine x_getr (K := 6) (k := 0) (o2 := o0 + 1) C h0 (by decide) cl_X5 (by decide) ⟨rfl, rfl, rfl⟩ fl_X5_7 rfl dX5_clear_4 ?_
    refine x_alen C (ik6 h0) dX5_clear_7 ?_
    refine x_icmp_ge (tgt := 24) C dX5_clear_8 (by decide) hq (fun hq => ?_) (fun hq => ?_)
    · exact hR _ _ _ hq dX5_clear_24
    · refine x_aload_n C 0 dX5_clear_11 rfl ?_
      refine x_getr (K := 6) (k := 0) (o2 := o0 + 1) C h0 (by decide) cl_X5 (by decide) ⟨rfl, rfl, rfl⟩ fl_X5_7 rfl dX5_clear_12 ?_
      refine x_iload_n C 1 dX5_clear_15 rfl ?_
      refine x_iconst C dX5_clear_16 ?_
      refine inb_2 hq (fun hi hq => ?_)
      refine x_iast C (ik6 h0) hi dX5_clear_17 ?_
      refine x_iinc (lv' := [(1, iV (x1 + 1)), (0, .ref (d.ad (o0)))]) C 1 dX5_clear_18 rfl (by decide) rfl ?_
      refine x_goto (tgt := 2) C dX5_clear_21 (by decide) ?_
      refine XG.sub [1, 0] rfl ?_
      exact ih _ _ hq
set_option maxRecDepth 100000 in
set_option maxHeartbeats 4000000 in
theorem L_X5_clear {g : Cx} {d : Dl} (C : CX g cX5_clear 2 none RX5) (hdm : g.dm = 0) (hA : ∀ q : Nat, g.s.heap.size ≤ q → g.A q) (hR0 : g.R = rmv 0 0 0 0) (hce : d.ce ≤ g.R.cells ∧ d.so ≤ g.R.slots) {res : Wd} (hR : rtV g d cX5_clear res) {o0 : Nat} (h0 : isK d.na g.dm 6 o0)  (w : Wd) (hq : p_X5_clear o0 w = some res) : XG g d (hP g d w) [(0, .ref (d.ad (o0)))] [] 0 := by
  refine x_iconst C dX5_clear_0 ?_
  refine x_istore_n (lv' := [(1, iV (0)), (0, .ref (d.ad (o0)))]) C dX5_clear_1 (by decide) rfl ?_
  refine XG.sub [1, 0] rfl ?_
  exact L_X5_clear_2 C hdm hA hR0 hce hR h0 _ _ _ hq
set_option maxRecDepth 100000 in
set_option maxHeartbeats 4000000 in
theorem c_X5_clear (l : Launch) (G : Gd) {dm na : Nat} {ad : Nat → Nat} (hdm : dm = 0) {o0 : Nat} {w w' : Wd}  (h0 : isK na dm 6 o0) (hq : p_X5_clear o0 w = some w') : mV l yX5_clear cX5_clear 2 none (rmv 0 0 0 0) G dm na ad [.ref (ad (o0))] w w' := by
  refine met_V [(0, .ref (ad (o0)))] (by decide) (Nat.le_of_ble_eq_true rfl) rfl rfl (fun g d C S hR => ?_)
  obtain ⟨rfl, hR0, rfl, rfl, rfl, hA⟩ := S
  exact L_X5_clear (d := (na, ad, 0, 0)) C hdm hA hR0 ⟨Nat.zero_le _, Nat.zero_le _⟩ hR h0  w hq
set_option maxRecDepth 100000 in
set_option maxHeartbeats 4000000 in
theorem L_X5_copy_16 {g : Cx} {d : Dl} (C : CX g cX5_copy 4 none RX5) (hdm : g.dm = 0) (hA : ∀ q : Nat, g.s.heap.size ≤ q → g.A q) (hR0 : g.R = rmv 1 21 0 0) (hce : d.ce ≤ g.R.cells ∧ d.so ≤ g.R.slots) {res : Wd} (hR : rtV g d cX5_copy res) {o0 : Nat} {o1 : Nat} (h0 : isK d.na g.dm 6 o0) (h1 : isK d.na g.dm 6 o1) : ∀ (n : Nat) (x2 : Int) (x3 : Int) (w : Wd), p_X5_copy_16 o0 o1 n x2 x3 w = some res → XG g d (hP g d w) [(0, .ref (d.ad (o0))), (1, .ref (d.ad (o1))), (2, iV (x2)), (3, iV (x3))] [] 16 := by
  intro n
  induction n with
  | zero => intro x2 x3 w  hq; exact nomatch (show none = some _ from hq)
  | succ n ih =>
    intro x2 x3 w  hq
    refine x_iload_n C 3 dX5_copy_16 rfl ?_
    refine x_iload_n C 2 dX5_copy_17 rfl ?_
    refine x_icmp_ge (tgt := 39) C dX5_copy_18 (by decide) hq (fun hq => ?_) (fun hq => ?_)
    · exact hR _ _ _ hq dX5_copy_39
    · refine x_aload_n C 0 dX5_copy_21 rfl ?_
      refine x_getr (K := 6) (k := 0) (o2 := o0 + 1) C h0 (by decide) cl_X5 (by decide) ⟨rfl, rfl, rfl⟩ fl_X5_7 rfl dX5_copy_22 ?_
      refine x_iload_n C 3 dX5_copy_25 rfl ?_
      refine x_aload_n C 1 dX5_copy_26 rfl ?_
      refine x_getr (K := 6) (k := 0) (o2 := o1 + 1) C h1 (by decide) cl_X5 (by decide) ⟨rfl, rfl, rfl⟩ fl_X5_7 rfl dX5_copy_27 ?_
      refine x_iload_n C 3 dX5_copy_30 rfl ?_
      refine inb_2 hq (fun hi hq => ?_)
      refine x_iald C (ik6 h1) hi dX5_copy_31 ?_
      refine inb_2 hq (fun hi hq => ?_)
      refine x_iast C (ik6 h0) hi dX5_copy_32 ?_
      refine x_iinc (lv' := [(3, iV (x3 + 1)), (0, .ref (d.ad (o0))), (1, .ref (d.ad (o1))), (2, iV (x2))]) C 3 dX5_copy_33 rfl (by decide) rfl ?_
      refine x_goto (tgt := 16) C dX5_copy_36 (by decide) ?_
      refine XG.sub [1, 2, 3, 0] rfl ?_
      exact ih _ _ _ hq
set_option maxRecDepth 100000 in
set_option maxHeartbeats 4000000 in
theorem L_X5_copy {g : Cx} {d : Dl} (C : CX g cX5_copy 4 none RX5) (hdm : g.dm = 0) (hA : ∀ q : Nat, g.s.heap.size ≤ q → g.A q) (hR0 : g.R = rmv 1 21 0 0) (hce : d.ce ≤ g.R.cells ∧ d.so ≤ g.R.slots) {res : Wd} (hR : rtV g d cX5_copy res) {o0 : Nat} {o1 : Nat} (h0 : isK d.na g.dm 6 o0) (h1 : isK d.na g.dm 6 o1)  (w : Wd) (hq : p_X5_copy o0 o1 w = some res) : XG g d (hP g d w) [(0, .ref (d.ad (o0))), (1, .ref (d.ad (o1)))] [] 0 := by
  refine x_aload_n C 0 dX5_copy_0 rfl ?_
  refine x_getr (K := 6) (k := 0) (o2 := o0 + 1) C h0 (by decide) cl_X5 (by decide) ⟨rfl, rfl, rfl⟩ fl_X5_7 rfl dX5_copy_1 ?_
  refine x_alen C (ik6 h0) dX5_copy_4 ?_
  refine x_aload_n C 1 dX5_copy_5 rfl ?_
  refine x_getr (K := 6) (k := 0) (o2 := o1 + 1) C h1 (by decide) cl_X5 (by decide) ⟨rfl, rfl, rfl⟩ fl_X5_7 rfl dX5_copy_6 ?_
  refine x_alen C (ik6 h1) dX5_copy_9 ?_
  refine x_min C hR0 lk_X5_13 jm_min_s jm_i jm_min_c ⟨Nat.le_of_ble_eq_true rfl, Nat.le_of_ble_eq_true rfl⟩ hce dX5_copy_10 ?_
  refine x_istore_n (lv' := [(2, iV (mn32 ((ln (o0 + 1) : Nat) : Int) ((ln (o1 + 1) : Nat) : Int))), (0, .ref (d.ad (o0))), (1, .ref (d.ad (o1)))]) C dX5_copy_13 (by decide) rfl ?_
  refine x_iconst C dX5_copy_14 ?_
  refine x_istore_n (lv' := [(3, iV (0)), (2, iV (mn32 ((ln (o0 + 1) : Nat) : Int) ((ln (o1 + 1) : Nat) : Int))), (0, .ref (d.ad (o0))), (1, .ref (d.ad (o1)))]) C dX5_copy_15 (by decide) rfl ?_
  refine XG.sub [2, 3, 1, 0] rfl ?_
  exact L_X5_copy_16 C hdm hA hR0 hce hR h0 h1 _ _ _ _ hq
set_option maxRecDepth 100000 in
set_option maxHeartbeats 4000000 in
theorem c_X5_copy (l : Launch) (G : Gd) {dm na : Nat} {ad : Nat → Nat} (hdm : dm = 0) {o0 : Nat} {o1 : Nat} {w w' : Wd}  (h0 : isK na dm 6 o0) (h1 : isK na dm 6 o1) (hq : p_X5_copy o0 o1 w = some w') : mV l yX5_copy cX5_copy 4 none (rmv 1 21 0 0) G dm na ad [.ref (ad (o0)), .ref (ad (o1))] w w' := by
  refine met_V [(0, .ref (ad (o0))), (1, .ref (ad (o1)))] (by decide) (Nat.le_of_ble_eq_true rfl) rfl rfl (fun g d C S hR => ?_)
  obtain ⟨rfl, hR0, rfl, rfl, rfl, hA⟩ := S
  exact L_X5_copy (d := (na, ad, 0, 0)) C hdm hA hR0 ⟨Nat.zero_le _, Nat.zero_le _⟩ hR h0 h1  w hq
set_option maxRecDepth 100000 in
set_option maxHeartbeats 4000000 in
theorem L_X6_clearParts {g : Cx} {d : Dl} (C : CX g cX6_clearParts 1 none RX6) (hdm : g.dm = 0) (hA : ∀ q : Nat, g.s.heap.size ≤ q → g.A q) (hR0 : g.R = rmv 0 0 0 0) (hce : d.ce ≤ g.R.cells ∧ d.so ≤ g.R.slots) {res : Wd} (hR : rtV g d cX6_clearParts res) {o0 : Nat} (h0 : isK d.na g.dm 7 o0)  (w : Wd) (hq : p_X6_clearParts o0 w = some res) : XG g d (hP g d w) [(0, .ref (d.ad (o0)))] [] 0 := by
  refine x_aload_n C 0 dX6_clearParts_0 rfl ?_
  refine x_iconst C dX6_clearParts_1 ?_
  refine x_put (K := 7) (k := 4) C h0 (by decide) cl_X6 (by decide) ⟨rfl, rfl, rfl, rfl⟩ fl_X6_30 ⟨rfl, rfl⟩ dX6_clearParts_2 ?_
  refine x_aload_n C 0 dX6_clearParts_5 rfl ?_
  refine x_iconst C dX6_clearParts_6 ?_
  refine x_put (K := 7) (k := 7) C h0 (by decide) cl_X6 (by decide) ⟨rfl, rfl, rfl, rfl⟩ fl_X6_39 ⟨rfl, rfl⟩ dX6_clearParts_7 ?_
  refine nmW hq (fun w1 ew1 hq => ?_)
  rw [← ew1]
  exact hR _ _ _ hq dX6_clearParts_10
set_option maxRecDepth 100000 in
set_option maxHeartbeats 4000000 in
theorem c_X6_clearParts (l : Launch) (G : Gd) {dm na : Nat} {ad : Nat → Nat} (hdm : dm = 0) {o0 : Nat} {w w' : Wd}  (h0 : isK na dm 7 o0) (hq : p_X6_clearParts o0 w = some w') : mV l yX6_clearParts cX6_clearParts 1 none (rmv 0 0 0 0) G dm na ad [.ref (ad (o0))] w w' := by
  refine met_V [(0, .ref (ad (o0)))] (by decide) (Nat.le_of_ble_eq_true rfl) rfl rfl (fun g d C S hR => ?_)
  obtain ⟨rfl, hR0, rfl, rfl, rfl, hA⟩ := S
  exact L_X6_clearParts (d := (na, ad, 0, 0)) C hdm hA hR0 ⟨Nat.zero_le _, Nat.zero_le _⟩ hR h0  w hq
set_option maxRecDepth 100000 in
set_option maxHeartbeats 4000000 in
theorem L_X6_begin {g : Cx} {d : Dl} (C : CX g cX6_begin 3 none RX6) (hdm : g.dm = 0) (hA : ∀ q : Nat, g.s.heap.size ≤ q → g.A q) (hR0 : g.R = rmv 1 22 0 0) (hce : d.ce ≤ g.R.cells ∧ d.so ≤ g.R.slots) {res : Wd} (hR : rtV g d cX6_begin res) {o0 : Nat} (h0 : isK d.na g.dm 7 o0) (x1 : Int) (x2 : Int) (w : Wd) (hq : p_X6_begin o0 x1 x2 w = some res) : XG g d (hP g d w) [(0, .ref (d.ad (o0))), (1, iV (x1)), (2, iV (x2))] [] 0 := by
  refine x_aload_n C 0 dX6_begin_0 rfl ?_
  refine x_iload_n C 1 dX6_begin_1 rfl ?_
  refine x_put (K := 7) (k := 0) C h0 (by decide) cl_X6 (by decide) ⟨rfl, rfl, rfl, rfl⟩ fl_X6_9 ⟨rfl, rfl⟩ dX6_begin_2 ?_
  refine x_aload_n C 0 dX6_begin_5 rfl ?_
  refine x_iload_n C 2 dX6_begin_6 rfl ?_
  refine x_put (K := 7) (k := 1) C h0 (by decide) cl_X6 (by decide) ⟨rfl, rfl, rfl, rfl⟩ fl_X6_15 ⟨rfl, rfl⟩ dX6_begin_7 ?_
  refine nmW hq (fun w1 ew1 hq => ?_)
  rw [← ew1]
  refine x_aload_n C 0 dX6_begin_10 rfl ?_
  refine x_iconst C dX6_begin_11 ?_
  refine x_put (K := 7) (k := 2) C h0 (by decide) cl_X6 (by decide) ⟨rfl, rfl, rfl, rfl⟩ fl_X6_18 ⟨rfl, rfl⟩ dX6_begin_12 ?_
  refine x_aload_n C 0 dX6_begin_15 rfl ?_
  refine x_iconst C dX6_begin_16 ?_
  refine x_put (K := 7) (k := 11) C h0 (by decide) cl_X6 (by decide) ⟨rfl, rfl, rfl, rfl⟩ fl_X6_55 ⟨rfl, rfl⟩ dX6_begin_17 ?_
  refine nmW hq (fun w2 ew2 hq => ?_)
  rw [← ew2]
  refine x_aload_n C 0 dX6_begin_20 rfl ?_
  refine x_getr (K := 7) (k := 3) (o2 := o0 + 1) C h0 (by decide) cl_X6 (by decide) ⟨rfl, rfl, rfl⟩ fl_X6_26 rfl dX6_begin_21 ?_
  refine x_callVv (K := 6) (rm := rmv 0 0 0 0) (As := []) (rest := []) C hA hR0 mf_X5_clear lk_X6_58 rfl (ik7 h0).1 (by decide) ⟨rfl, rfl⟩ ⟨Nat.le_of_ble_eq_true rfl, Nat.le_of_ble_eq_true rfl⟩ rfl rfl (Nat.le_of_ble_eq_true rfl) hce dX6_begin_24 hq (fun _ h => c_X5_clear g.l g.G hdm (ik7 h0).1 h) (fun w3 _ hq => ?_)
  refine x_aload_n C 0 dX6_begin_27 rfl ?_
  refine x_callVv (K := 7) (rm := rmv 0 0 0 0) (As := []) (rest := []) C hA hR0 mf_X6_clearParts lk_X6_61 rfl h0 (by decide) ⟨rfl, rfl⟩ ⟨Nat.le_of_ble_eq_true rfl, Nat.le_of_ble_eq_true rfl⟩ rfl rfl (Nat.le_of_ble_eq_true rfl) hce dX6_begin_28 hq (fun _ h => c_X6_clearParts g.l g.G hdm h0 h) (fun w4 _ hq => ?_)
  refine x_aload_n C 0 dX6_begin_31 rfl ?_
  refine x_getr (K := 7) (k := 10) (o2 := o0 + 11) C h0 (by decide) cl_X6 (by decide) ⟨rfl, rfl, rfl⟩ fl_X6_51 rfl dX6_begin_32 ?_
  refine x_bipush (v := 100) C dX6_begin_35 (by decide +kernel) ?_
  refine x_bipush (v := 10) C dX6_begin_37 (by decide +kernel) ?_
  refine x_callVv (K := 2) (rm := rmv 0 0 0 0) (As := [iV (100), iV (10)]) (rest := []) C hA hR0 mf_X1_renew lk_X6_64 rfl (ik7 h0).2.2.2.2.2 (by decide) ⟨rfl, rfl⟩ ⟨Nat.le_of_ble_eq_true rfl, Nat.le_of_ble_eq_true rfl⟩ rfl rfl (Nat.le_of_ble_eq_true rfl) hce dX6_begin_39 hq (fun _ h => c_X1_renew g.l g.G hdm (ik7 h0).2.2.2.2.2 h) (fun w5 _ hq => ?_)
  refine x_aload_n C 0 dX6_begin_42 rfl ?_
  refine x_getr (K := 7) (k := 10) (o2 := o0 + 11) C h0 (by decide) cl_X6 (by decide) ⟨rfl, rfl, rfl⟩ fl_X6_51 rfl dX6_begin_43 ?_
  refine x_iconst C dX6_begin_46 ?_
  refine x_put (K := 2) (k := 3) C (ik7 h0).2.2.2.2.2 (by decide) cl_X1 (by decide) ⟨rfl, rfl, rfl, rfl⟩ fl_X6_68 ⟨rfl, rfl⟩ dX6_begin_47 ?_
  refine x_aload_n C 0 dX6_begin_50 rfl ?_
  refine x_getr (K := 7) (k := 10) (o2 := o0 + 11) C h0 (by decide) cl_X6 (by decide) ⟨rfl, rfl, rfl⟩ fl_X6_51 rfl dX6_begin_51 ?_
  refine x_iconst C dX6_begin_54 ?_
  refine x_put (K := 2) (k := 4) C (ik7 h0).2.2.2.2.2 (by decide) cl_X1 (by decide) ⟨rfl, rfl, rfl, rfl⟩ fl_X6_71 ⟨rfl, rfl⟩ dX6_begin_55 ?_
  refine nmW hq (fun w6 ew6 hq => ?_)
  rw [← ew6]
  exact hR _ _ _ hq dX6_begin_58
set_option maxRecDepth 100000 in
set_option maxHeartbeats 4000000 in
theorem c_X6_begin (l : Launch) (G : Gd) {dm na : Nat} {ad : Nat → Nat} (hdm : dm = 0) {o0 : Nat} {x1 : Int} {x2 : Int} {w w' : Wd}  (h0 : isK na dm 7 o0) (hq : p_X6_begin o0 x1 x2 w = some w') : mV l yX6_begin cX6_begin 3 none (rmv 1 22 0 0) G dm na ad [.ref (ad (o0)), iV (x1), iV (x2)] w w' := by
  refine met_V [(0, .ref (ad (o0))), (1, iV (x1)), (2, iV (x2))] (by decide) (Nat.le_of_ble_eq_true rfl) rfl rfl (fun g d C S hR => ?_)
  obtain ⟨rfl, hR0, rfl, rfl, rfl, hA⟩ := S
  exact L_X6_begin (d := (na, ad, 0, 0)) C hdm hA hR0 ⟨Nat.zero_le _, Nat.zero_le _⟩ hR h0 _ _ w hq
set_option maxRecDepth 100000 in
set_option maxHeartbeats 4000000 in
theorem L_X6_copy {g : Cx} {d : Dl} (C : CX g cX6_copy 2 none RX6) (hdm : g.dm = 0) (hA : ∀ q : Nat, g.s.heap.size ≤ q → g.A q) (hR0 : g.R = rmv 2 44 0 0) (hce : d.ce ≤ g.R.cells ∧ d.so ≤ g.R.slots) {res : Wd} (hR : rtV g d cX6_copy res) {o0 : Nat} {o1 : Nat} (h0 : isK d.na g.dm 7 o0) (h1 : isK d.na g.dm 7 o1)  (w : Wd) (hq : p_X6_copy o0 o1 w = some res) : XG g d (hP g d w) [(0, .ref (d.ad (o0))), (1, .ref (d.ad (o1)))] [] 0 := by
  refine x_aload_n C 0 dX6_copy_0 rfl ?_
  refine x_aload_n C 1 dX6_copy_1 rfl ?_
  refine x_get (K := 7) (k := 0) C h1 (by decide) cl_X6 (by decide) ⟨rfl, rfl, rfl⟩ fl_X6_9 dX6_copy_2 ?_
  refine x_put (K := 7) (k := 0) C h0 (by decide) cl_X6 (by decide) ⟨rfl, rfl, rfl, rfl⟩ fl_X6_9 ⟨rfl, rfl⟩ dX6_copy_5 ?_
  refine x_aload_n C 0 dX6_copy_8 rfl ?_
  refine x_aload_n C 1 dX6_copy_9 rfl ?_
  refine x_get (K := 7) (k := 1) C h1 (by decide) cl_X6 (by decide) ⟨rfl, rfl, rfl⟩ fl_X6_15 dX6_copy_10 ?_
  refine x_put (K := 7) (k := 1) C h0 (by decide) cl_X6 (by decide) ⟨rfl, rfl, rfl, rfl⟩ fl_X6_15 ⟨rfl, rfl⟩ dX6_copy_13 ?_
  refine nmW hq (fun w1 ew1 hq => ?_)
  rw [← ew1]
  refine x_aload_n C 0 dX6_copy_16 rfl ?_
  refine x_aload_n C 1 dX6_copy_17 rfl ?_
  refine x_get (K := 7) (k := 2) C h1 (by decide) cl_X6 (by decide) ⟨rfl, rfl, rfl⟩ fl_X6_18 dX6_copy_18 ?_
  refine x_put (K := 7) (k := 2) C h0 (by decide) cl_X6 (by decide) ⟨rfl, rfl, rfl, rfl⟩ fl_X6_18 ⟨rfl, rfl⟩ dX6_copy_21 ?_
  refine x_aload_n C 0 dX6_copy_24 rfl ?_
  refine x_getr (K := 7) (k := 3) (o2 := o0 + 1) C h0 (by decide) cl_X6 (by decide) ⟨rfl, rfl, rfl⟩ fl_X6_26 rfl dX6_copy_25 ?_
  refine x_aload_n C 1 dX6_copy_28 rfl ?_
  refine x_getr (K := 7) (k := 3) (o2 := o1 + 1) C h1 (by decide) cl_X6 (by decide) ⟨rfl, rfl, rfl⟩ fl_X6_26 rfl dX6_copy_29 ?_
  refine x_callVv (K := 6) (rm := rmv 1 21 0 0) (As := [.ref (d.ad (o1 + 1))]) (rest := []) C hA hR0 mf_X5_copy lk_X6_74 rfl (ik7 h0).1 (by decide) ⟨rfl, rfl⟩ ⟨Nat.le_of_ble_eq_true rfl, Nat.le_of_ble_eq_true rfl⟩ rfl rfl (Nat.le_of_ble_eq_true rfl) hce dX6_copy_32 hq (fun _ h => c_X5_copy g.l g.G hdm (ik7 h0).1 (ik7 h1).1 h) (fun w2 _ hq => ?_)
  refine x_aload_n C 0 dX6_copy_35 rfl ?_
  refine x_aload_n C 1 dX6_copy_36 rfl ?_
  refine x_get (K := 7) (k := 4) C h1 (by decide) cl_X6 (by decide) ⟨rfl, rfl, rfl⟩ fl_X6_30 dX6_copy_37 ?_
  refine x_put (K := 7) (k := 4) C h0 (by decide) cl_X6 (by decide) ⟨rfl, rfl, rfl, rfl⟩ fl_X6_30 ⟨rfl, rfl⟩ dX6_copy_40 ?_
  refine x_aload_n C 0 dX6_copy_43 rfl ?_
  refine x_getr (K := 7) (k := 5) (o2 := o0 + 3) C h0 (by decide) cl_X6 (by decide) ⟨rfl, rfl, rfl⟩ fl_X6_33 rfl dX6_copy_44 ?_
  refine x_aload_n C 1 dX6_copy_47 rfl ?_
  refine x_getr (K := 7) (k := 5) (o2 := o1 + 3) C h1 (by decide) cl_X6 (by decide) ⟨rfl, rfl, rfl⟩ fl_X6_33 rfl dX6_copy_48 ?_
  refine x_callVv (K := 6) (rm := rmv 1 21 0 0) (As := [.ref (d.ad (o1 + 3))]) (rest := []) C hA hR0 mf_X5_copy lk_X6_74 rfl (ik7 h0).2.1 (by decide) ⟨rfl, rfl⟩ ⟨Nat.le_of_ble_eq_true rfl, Nat.le_of_ble_eq_true rfl⟩ rfl rfl (Nat.le_of_ble_eq_true rfl) hce dX6_copy_51 hq (fun _ h => c_X5_copy g.l g.G hdm (ik7 h0).2.1 (ik7 h1).2.1 h) (fun w3 _ hq => ?_)
  refine x_aload_n C 0 dX6_copy_54 rfl ?_
  refine x_getr (K := 7) (k := 6) (o2 := o0 + 5) C h0 (by decide) cl_X6 (by decide) ⟨rfl, rfl, rfl⟩ fl_X6_36 rfl dX6_copy_55 ?_
  refine x_aload_n C 1 dX6_copy_58 rfl ?_
  refine x_getr (K := 7) (k := 6) (o2 := o1 + 5) C h1 (by decide) cl_X6 (by decide) ⟨rfl, rfl, rfl⟩ fl_X6_36 rfl dX6_copy_59 ?_
  refine x_callVv (K := 6) (rm := rmv 1 21 0 0) (As := [.ref (d.ad (o1 + 5))]) (rest := []) C hA hR0 mf_X5_copy lk_X6_74 rfl (ik7 h0).2.2.1 (by decide) ⟨rfl, rfl⟩ ⟨Nat.le_of_ble_eq_true rfl, Nat.le_of_ble_eq_true rfl⟩ rfl rfl (Nat.le_of_ble_eq_true rfl) hce dX6_copy_62 hq (fun _ h => c_X5_copy g.l g.G hdm (ik7 h0).2.2.1 (ik7 h1).2.2.1 h) (fun w4 _ hq => ?_)
  refine x_aload_n C 0 dX6_copy_65 rfl ?_
  refine x_aload_n C 1 dX6_copy_66 rfl ?_
  refine x_get (K := 7) (k := 7) C h1 (by decide) cl_X6 (by decide) ⟨rfl, rfl, rfl⟩ fl_X6_39 dX6_copy_67 ?_
  refine x_put (K := 7) (k := 7) C h0 (by decide) cl_X6 (by decide) ⟨rfl, rfl, rfl, rfl⟩ fl_X6_39 ⟨rfl, rfl⟩ dX6_copy_70 ?_
  refine x_aload_n C 0 dX6_copy_73 rfl ?_
  refine x_getr (K := 7) (k := 8) (o2 := o0 + 7) C h0 (by decide) cl_X6 (by decide) ⟨rfl, rfl, rfl⟩ fl_X6_42 rfl dX6_copy_74 ?_
  refine x_aload_n C 1 dX6_copy_77 rfl ?_
  refine x_getr (K := 7) (k := 8) (o2 := o1 + 7) C h1 (by decide) cl_X6 (by decide) ⟨rfl, rfl, rfl⟩ fl_X6_42 rfl dX6_copy_78 ?_
  refine x_callVv (K := 6) (rm := rmv 1 21 0 0) (As := [.ref (d.ad (o1 + 7))]) (rest := []) C hA hR0 mf_X5_copy lk_X6_74 rfl (ik7 h0).2.2.2.1 (by decide) ⟨rfl, rfl⟩ ⟨Nat.le_of_ble_eq_true rfl, Nat.le_of_ble_eq_true rfl⟩ rfl rfl (Nat.le_of_ble_eq_true rfl) hce dX6_copy_81 hq (fun _ h => c_X5_copy g.l g.G hdm (ik7 h0).2.2.2.1 (ik7 h1).2.2.2.1 h) (fun w5 _ hq => ?_)
  refine x_aload_n C 0 dX6_copy_84 rfl ?_
  refine x_getr (K := 7) (k := 9) (o2 := o0 + 9) C h0 (by decide) cl_X6 (by decide) ⟨rfl, rfl, rfl⟩ fl_X6_45 rfl dX6_copy_85 ?_
  refine x_aload_n C 1 dX6_copy_88 rfl ?_
  refine x_getr (K := 7) (k := 9) (o2 := o1 + 9) C h1 (by decide) cl_X6 (by decide) ⟨rfl, rfl, rfl⟩ fl_X6_45 rfl dX6_copy_89 ?_
  refine x_callVv (K := 6) (rm := rmv 1 21 0 0) (As := [.ref (d.ad (o1 + 9))]) (rest := []) C hA hR0 mf_X5_copy lk_X6_74 rfl (ik7 h0).2.2.2.2.1 (by decide) ⟨rfl, rfl⟩ ⟨Nat.le_of_ble_eq_true rfl, Nat.le_of_ble_eq_true rfl⟩ rfl rfl (Nat.le_of_ble_eq_true rfl) hce dX6_copy_92 hq (fun _ h => c_X5_copy g.l g.G hdm (ik7 h0).2.2.2.2.1 (ik7 h1).2.2.2.2.1 h) (fun w6 _ hq => ?_)
  refine x_aload_n C 0 dX6_copy_95 rfl ?_
  refine x_getr (K := 7) (k := 10) (o2 := o0 + 11) C h0 (by decide) cl_X6 (by decide) ⟨rfl, rfl, rfl⟩ fl_X6_51 rfl dX6_copy_96 ?_
  refine x_aload_n C 1 dX6_copy_99 rfl ?_
  refine x_getr (K := 7) (k := 10) (o2 := o1 + 11) C h1 (by decide) cl_X6 (by decide) ⟨rfl, rfl, rfl⟩ fl_X6_51 rfl dX6_copy_100 ?_
  refine x_callVv (K := 2) (rm := rmv 0 0 0 0) (As := [.ref (d.ad (o1 + 11))]) (rest := []) C hA hR0 mf_X1_copy lk_X6_78 rfl (ik7 h0).2.2.2.2.2 (by decide) ⟨rfl, rfl⟩ ⟨Nat.le_of_ble_eq_true rfl, Nat.le_of_ble_eq_true rfl⟩ rfl rfl (Nat.le_of_ble_eq_true rfl) hce dX6_copy_103 hq (fun _ h => c_X1_copy g.l g.G hdm (ik7 h0).2.2.2.2.2 (ik7 h1).2.2.2.2.2 h) (fun w7 _ hq => ?_)
  refine x_aload_n C 0 dX6_copy_106 rfl ?_
  refine x_aload_n C 1 dX6_copy_107 rfl ?_
  refine x_get (K := 7) (k := 11) C h1 (by decide) cl_X6 (by decide) ⟨rfl, rfl, rfl⟩ fl_X6_55 dX6_copy_108 ?_
  refine x_put (K := 7) (k := 11) C h0 (by decide) cl_X6 (by decide) ⟨rfl, rfl, rfl, rfl⟩ fl_X6_55 ⟨rfl, rfl⟩ dX6_copy_111 ?_
  exact hR _ _ _ hq dX6_copy_114
set_option maxRecDepth 100000 in
set_option maxHeartbeats 4000000 in
theorem c_X6_copy (l : Launch) (G : Gd) {dm na : Nat} {ad : Nat → Nat} (hdm : dm = 0) {o0 : Nat} {o1 : Nat} {w w' : Wd}  (h0 : isK na dm 7 o0) (h1 : isK na dm 7 o1) (hq : p_X6_copy o0 o1 w = some w') : mV l yX6_copy cX6_copy 2 none (rmv 2 44 0 0) G dm na ad [.ref (ad (o0)), .ref (ad (o1))] w w' := by
  refine met_V [(0, .ref (ad (o0))), (1, .ref (ad (o1)))] (by decide) (Nat.le_of_ble_eq_true rfl) rfl rfl (fun g d C S hR => ?_)
  obtain ⟨rfl, hR0, rfl, rfl, rfl, hA⟩ := S
  exact L_X6_copy (d := (na, ad, 0, 0)) C hdm hA hR0 ⟨Nat.zero_le _, Nat.zero_le _⟩ hR h0 h1  w hq
set_option maxRecDepth 100000 in
set_option maxHeartbeats 4000000 in
theorem L_X6_flawed_29 {g : Cx} {d : Dl} (C : CX g cX6_flawed 4 (some .boolean) RX6) (hdm : g.dm = 0) (hA : ∀ q : Nat, g.s.heap.size ≤ q → g.A q) (hR0 : g.R = rmv 1 21 0 0) (hce : d.ce ≤ g.R.cells ∧ d.so ≤ g.R.slots) {res : Int × Wd} (hR : rtI g d cX6_flawed .boolean res) {o0 : Nat} (h0 : isK d.na g.dm 7 o0) (x1 : Int) (x2 : Int) (s0 : Int) (w : Wd) (hq : p_X6_flawed_29 o0 x1 x2 s0 w = some res) : XG g d (hP g d w) [(0, .ref (d.ad (o0))), (1, iV (x1)), (2, iV (x2))] [iV (s0)] 29 := by
  refine x_istore_n (lv' := [(3, iV (s0)), (0, .ref (d.ad (o0))), (1, iV (x1)), (2, iV (x2))]) C dX6_flawed_29 (by decide) rfl ?_
  refine x_iload_n C 0 dX6_flawed_30 rfl ?_
  refine x_if_eq (tgt := 54) C dX6_flawed_31 (by decide) hq (fun hq => ?_) (fun hq => ?_)
  · refine x_iconst C dX6_flawed_54 ?_
    exact hR _ _ _ _ hq (by decide +kernel) dX6_flawed_55
  · refine x_aload_n C 1 dX6_flawed_34 rfl ?_
    refine x_getr (K := 7) (k := 3) (o2 := o0 + 1) C h0 (by decide) cl_X6 (by decide) ⟨rfl, rfl, rfl⟩ fl_X6_26 rfl dX6_flawed_35 ?_
    refine x_iload_n C 3 dX6_flawed_38 rfl ?_
    refine x_callVi (K := 6) (rm := rmv 0 0 0 0) (As := [iV (x2)]) (rest := []) C hA hR0 mf_X5_at lk_X6_81 rfl (ik7 h0).1 (by decide) ⟨rfl, rfl⟩ ⟨Nat.le_of_ble_eq_true rfl, Nat.le_of_ble_eq_true rfl⟩ rfl rfl (Nat.le_of_ble_eq_true rfl) hce dX6_flawed_39 hq (fun _ _ h => c_X5_at g.l g.G hdm (ik7 h0).1 h) (fun r2 w1 _ hq => ?_)
    refine x_iload_n C 2 dX6_flawed_42 rfl ?_
    refine x_ishr C dX6_flawed_43 ?_
    refine x_iconst C dX6_flawed_44 ?_
    refine x_iand C dX6_flawed_45 ?_
    refine x_iconst C dX6_flawed_46 ?_
    refine x_icmp_ne (tgt := 54) C dX6_flawed_47 (by decide) hq (fun hq => ?_) (fun hq => ?_)
    · refine x_iconst C dX6_flawed_54 ?_
      exact hR _ _ _ _ hq (by decide +kernel) dX6_flawed_55
    · refine x_iconst C dX6_flawed_50 ?_
      refine x_goto (tgt := 55) C dX6_flawed_51 (by decide) ?_
      exact hR _ _ _ _ hq (by decide +kernel) dX6_flawed_55
set_option maxRecDepth 100000 in
set_option maxHeartbeats 4000000 in
theorem L_X6_flawed_28 {g : Cx} {d : Dl} (C : CX g cX6_flawed 4 (some .boolean) RX6) (hdm : g.dm = 0) (hA : ∀ q : Nat, g.s.heap.size ≤ q → g.A q) (hR0 : g.R = rmv 1 21 0 0) (hce : d.ce ≤ g.R.cells ∧ d.so ≤ g.R.slots) {res : Int × Wd} (hR : rtI g d cX6_flawed .boolean res) {o0 : Nat} (h0 : isK d.na g.dm 7 o0) (x1 : Int) (x2 : Int) (w : Wd) (hq : p_X6_flawed_28 o0 x1 x2 w = some res) : XG g d (hP g d w) [(0, .ref (d.ad (o0))), (1, iV (x1)), (2, iV (x2))] [] 28 := by
  refine x_iconst C dX6_flawed_28 ?_
  exact L_X6_flawed_29 C hdm hA hR0 hce hR h0 _ _ _ _ hq
set_option maxRecDepth 100000 in
set_option maxHeartbeats 4000000 in
theorem L_X6_flawed {g : Cx} {d : Dl} (C : CX g cX6_flawed 4 (some .boolean) RX6) (hdm : g.dm = 0) (hA : ∀ q : Nat, g.s.heap.size ≤ q → g.A q) (hR0 : g.R = rmv 1 21 0 0) (hce : d.ce ≤ g.R.cells ∧ d.so ≤ g.R.slots) {res : Int × Wd} (hR : rtI g d cX6_flawed .boolean res) {o0 : Nat} (h0 : isK d.na g.dm 7 o0) (x1 : Int) (x2 : Int) (w : Wd) (hq : p_X6_flawed o0 x1 x2 w = some res) : XG g d (hP g d w) [(0, .ref (d.ad (o0))), (1, iV (x1)), (2, iV (x2))] [] 0 := by
  refine x_iload_n C 1 dX6_flawed_0 rfl ?_
  refine x_if_lt (tgt := 28) C dX6_flawed_1 (by decide) hq (fun hq => ?_) (fun hq => ?_)
  · exact L_X6_flawed_28 C hdm hA hR0 hce hR h0 _ _ _ hq
  · refine x_iload_n C 1 dX6_flawed_4 rfl ?_
    refine x_aload_n C 0 dX6_flawed_5 rfl ?_
    refine x_get (K := 7) (k := 0) C h0 (by decide) cl_X6 (by decide) ⟨rfl, rfl, rfl⟩ fl_X6_9 dX6_flawed_6 ?_
    refine x_icmp_ge (tgt := 28) C dX6_flawed_9 (by decide) hq (fun hq => ?_) (fun hq => ?_)
    · exact L_X6_flawed_28 C hdm hA hR0 hce hR h0 _ _ _ hq
    · refine x_iload_n C 2 dX6_flawed_12 rfl ?_
      refine x_if_lt (tgt := 28) C dX6_flawed_13 (by decide) hq (fun hq => ?_) (fun hq => ?_)
      · exact L_X6_flawed_28 C hdm hA hR0 hce hR h0 _ _ _ hq
      · refine x_iload_n C 2 dX6_flawed_16 rfl ?_
        refine x_aload_n C 0 dX6_flawed_17 rfl ?_
        refine x_get (K := 7) (k := 1) C h0 (by decide) cl_X6 (by decide) ⟨rfl, rfl, rfl⟩ fl_X6_15 dX6_flawed_18 ?_
        refine x_icmp_ge (tgt := 28) C dX6_flawed_21 (by decide) hq (fun hq => ?_) (fun hq => ?_)
        · exact L_X6_flawed_28 C hdm hA hR0 hce hR h0 _ _ _ hq
        · refine x_iconst C dX6_flawed_24 ?_
          refine x_goto (tgt := 29) C dX6_flawed_25 (by decide) ?_
          exact L_X6_flawed_29 C hdm hA hR0 hce hR h0 _ _ _ _ hq
set_option maxRecDepth 100000 in
set_option maxHeartbeats 4000000 in
theorem c_X6_flawed (l : Launch) (G : Gd) {dm na : Nat} {ad : Nat → Nat} (hdm : dm = 0) {o0 : Nat} {x1 : Int} {x2 : Int} {w w' : Wd} {r : Int} (h0 : isK na dm 7 o0) (hq : p_X6_flawed o0 x1 x2 w = some (r, w')) : mI l yX6_flawed cX6_flawed 4 (some .boolean) (rmv 1 21 0 0) G dm na ad [.ref (ad (o0)), iV (x1), iV (x2)] w r w' := by
  refine met_I [(0, .ref (ad (o0))), (1, iV (x1)), (2, iV (x2))] (by decide) (Nat.le_of_ble_eq_true rfl) rfl .boolean rfl (fun g d C S hR => ?_)
  obtain ⟨rfl, hR0, rfl, rfl, rfl, hA⟩ := S
  exact L_X6_flawed (d := (na, ad, 0, 0)) C hdm hA hR0 ⟨Nat.zero_le _, Nat.zero_le _⟩ hR h0 _ _ w hq
set_option maxRecDepth 100000 in
set_option maxHeartbeats 4000000 in
theorem L_X6_mark_65 {g : Cx} {d : Dl} (C : CX g cX6_mark 5 none RX6) (hdm : g.dm = 0) (hA : ∀ q : Nat, g.s.heap.size ≤ q → g.A q) (hR0 : g.R = rmv 1 22 0 0) (hce : d.ce ≤ g.R.cells ∧ d.so ≤ g.R.slots) {res : Wd} (hR : rtV g d cX6_mark res) {o0 : Nat} (h0 : isK d.na g.dm 7 o0) (s0 : Int) (s1 : Int) (w : Wd) (hq : p_X6_mark_65 o0 s0 s1 w = some res) : XG g d (hP g d w) [] [iV (s0), iV (s1), .ref (d.ad (o0 + 1))] 65 := by
  refine x_callVv (K := 6) (rm := rmv 0 0 0 0) (As := [iV (s1), iV (s0)]) (rest := []) C hA hR0 mf_X5_put lk_X6_85 rfl (ik7 h0).1 (by decide) ⟨rfl, rfl⟩ ⟨Nat.le_of_ble_eq_true rfl, Nat.le_of_ble_eq_true rfl⟩ rfl rfl (Nat.le_of_ble_eq_true rfl) hce dX6_mark_65 hq (fun _ h => c_X5_put g.l g.G hdm (ik7 h0).1 h) (fun w1 _ hq => ?_)
  exact hR _ _ _ hq dX6_mark_68
set_option maxRecDepth 100000 in
set_option maxHeartbeats 4000000 in
theorem L_X6_mark {g : Cx} {d : Dl} (C : CX g cX6_mark 5 none RX6) (hdm : g.dm = 0) (hA : ∀ q : Nat, g.s.heap.size ≤ q → g.A q) (hR0 : g.R = rmv 1 22 0 0) (hce : d.ce ≤ g.R.cells ∧ d.so ≤ g.R.slots) {res : Wd} (hR : rtV g d cX6_mark res) {o0 : Nat} (h0 : isK d.na g.dm 7 o0) (x1 : Int) (x2 : Int) (x3 : Int) (w : Wd) (hq : p_X6_mark o0 x1 x2 x3 w = some res) : XG g d (hP g d w) [(0, .ref (d.ad (o0))), (1, iV (x1)), (2, iV (x2)), (3, iV (x3))] [] 0 := by
  refine x_iload_n C 1 dX6_mark_0 rfl ?_
  refine x_if_lt (tgt := 68) C dX6_mark_1 (by decide) hq (fun hq => ?_) (fun hq => ?_)
  · exact hR _ _ _ hq dX6_mark_68
  · refine x_iload_n C 1 dX6_mark_4 rfl ?_
    refine x_aload_n C 0 dX6_mark_5 rfl ?_
    refine x_get (K := 7) (k := 0) C h0 (by decide) cl_X6 (by decide) ⟨rfl, rfl, rfl⟩ fl_X6_9 dX6_mark_6 ?_
    refine x_icmp_ge (tgt := 68) C dX6_mark_9 (by decide) hq (fun hq => ?_) (fun hq => ?_)
    · exact hR _ _ _ hq dX6_mark_68
    · refine x_iload_n C 2 dX6_mark_12 rfl ?_
      refine x_if_lt (tgt := 68) C dX6_mark_13 (by decide) hq (fun hq => ?_) (fun hq => ?_)
      · exact hR _ _ _ hq dX6_mark_68
      · refine x_iload_n C 2 dX6_mark_16 rfl ?_
        refine x_aload_n C 0 dX6_mark_17 rfl ?_
        refine x_get (K := 7) (k := 1) C h0 (by decide) cl_X6 (by decide) ⟨rfl, rfl, rfl⟩ fl_X6_15 dX6_mark_18 ?_
        refine x_icmp_ge (tgt := 68) C dX6_mark_21 (by decide) hq (fun hq => ?_) (fun hq => ?_)
        · exact hR _ _ _ hq dX6_mark_68
        · refine x_iconst C dX6_mark_24 ?_
          refine x_iload_n C 1 dX6_mark_25 rfl ?_
          refine x_ishl C dX6_mark_26 ?_
          refine x_istore (lv' := [(4, iV (sl32 1 x1)), (0, .ref (d.ad (o0))), (1, iV (x1)), (2, iV (x2)), (3, iV (x3))]) C dX6_mark_27 (by decide) rfl ?_
          refine x_aload_n C 1 dX6_mark_29 rfl ?_
          refine x_getr (K := 7) (k := 3) (o2 := o0 + 1) C h0 (by decide) cl_X6 (by decide) ⟨rfl, rfl, rfl⟩ fl_X6_26 rfl dX6_mark_30 ?_
          refine x_iload_n C 3 dX6_mark_33 rfl ?_
          refine x_iload_n C 4 dX6_mark_34 rfl ?_
          refine x_if_eq (tgt := 52) C dX6_mark_35 (by decide) hq (fun hq => ?_) (fun hq => ?_)
          · refine x_aload_n C 1 dX6_mark_52 rfl ?_
            refine x_getr (K := 7) (k := 3) (o2 := o0 + 1) C h0 (by decide) cl_X6 (by decide) ⟨rfl, rfl, rfl⟩ fl_X6_26 rfl dX6_mark_53 ?_
            refine x_iload_n C 3 dX6_mark_56 rfl ?_
            refine x_callVi (K := 6) (rm := rmv 0 0 0 0) (As := [iV (x2)]) (rest := [iV (x2), .ref (d.ad (o0 + 1))]) C hA hR0 mf_X5_at lk_X6_81 rfl (ik7 h0).1 (by decide) ⟨rfl, rfl⟩ ⟨Nat.le_of_ble_eq_true rfl, Nat.le_of_ble_eq_true rfl⟩ rfl rfl (Nat.le_of_ble_eq_true rfl) hce dX6_mark_57 hq (fun _ _ h => c_X5_at g.l g.G hdm (ik7 h0).1 h) (fun r2 w1 _ hq => ?_)
            refine x_iload C 0 dX6_mark_60 rfl ?_
            refine x_iconst C dX6_mark_62 ?_
            refine x_ixor C dX6_mark_63 ?_
            refine x_iand C dX6_mark_64 ?_
            refine XG.sub [] rfl ?_
            exact L_X6_mark_65 C hdm hA hR0 hce hR h0 _ _ _ hq
          · refine x_aload_n C 1 dX6_mark_38 rfl ?_
            refine x_getr (K := 7) (k := 3) (o2 := o0 + 1) C h0 (by decide) cl_X6 (by decide) ⟨rfl, rfl, rfl⟩ fl_X6_26 rfl dX6_mark_39 ?_
            refine x_iload_n C 3 dX6_mark_42 rfl ?_
            refine x_callVi (K := 6) (rm := rmv 0 0 0 0) (As := [iV (x2)]) (rest := [iV (x2), .ref (d.ad (o0 + 1))]) C hA hR0 mf_X5_at lk_X6_81 rfl (ik7 h0).1 (by decide) ⟨rfl, rfl⟩ ⟨Nat.le_of_ble_eq_true rfl, Nat.le_of_ble_eq_true rfl⟩ rfl rfl (Nat.le_of_ble_eq_true rfl) hce dX6_mark_43 hq (fun _ _ h => c_X5_at g.l g.G hdm (ik7 h0).1 h) (fun r4 w3 _ hq => ?_)
            refine x_iload C 0 dX6_mark_46 rfl ?_
            refine x_ior C dX6_mark_48 ?_
            refine x_goto (tgt := 65) C dX6_mark_49 (by decide) ?_
            refine XG.sub [] rfl ?_
            exact L_X6_mark_65 C hdm hA hR0 hce hR h0 _ _ _ hq
set_option maxRecDepth 100000 in
set_option maxHeartbeats 4000000 in
theorem c_X6_mark (l : Launch) (G : Gd) {dm na : Nat} {ad : Nat → Nat} (hdm : dm = 0) {o0 : Nat} {x1 : Int} {x2 : Int} {x3 : Int} {w w' : Wd}  (h0 : isK na dm 7 o0) (hq : p_X6_mark o0 x1 x2 x3 w = some w') : mV l yX6_mark cX6_mark 5 none (rmv 1 22 0 0) G dm na ad [.ref (ad (o0)), iV (x1), iV (x2), iV (x3)] w w' := by
  refine met_V [(0, .ref (ad (o0))), (1, iV (x1)), (2, iV (x2)), (3, iV (x3))] (by decide) (Nat.le_of_ble_eq_true rfl) rfl rfl (fun g d C S hR => ?_)
  obtain ⟨rfl, hR0, rfl, rfl, rfl, hA⟩ := S
  exact L_X6_mark (d := (na, ad, 0, 0)) C hdm hA hR0 ⟨Nat.zero_le _, Nat.zero_le _⟩ hR h0 _ _ _ w hq
set_option maxRecDepth 100000 in
set_option maxHeartbeats 4000000 in
theorem L_X6_turnFlaws_59 {g : Cx} {d : Dl} (C : CX g cX6_turnFlaws 4 none RX6) (hdm : g.dm = 0) (hA : ∀ q : Nat, g.s.heap.size ≤ q → g.A q) (hR0 : g.R = rmv 2 46 0 0) (hce : d.ce ≤ g.R.cells ∧ d.so ≤ g.R.slots) {res : Wd} (hR : rtV g d cX6_turnFlaws res) {o0 : Nat} {o1 : Nat} (h0 : isK d.na g.dm 7 o0) (h1 : isK d.na g.dm 7 o1) {k9 : Int → Wd → Option (Wd)} (hk9 : ∀ (x2 : Int) (w : Wd), k9 x2 w = some res → XG g d (hP g d w) [(0, .ref (d.ad (o0))), (1, .ref (d.ad (o1))), (2, iV (x2))] [] 9) (x2 : Int) (w : Wd) (hq : p_X6_turnFlaws_59 o0 o1 k9 x2 w = some res) : XG g d (hP g d w) [(0, .ref (d.ad (o0))), (1, .ref (d.ad (o1))), (2, iV (x2))] [] 59 := by
  refine x_iinc (lv' := [(2, iV (x2 + 1)), (0, .ref (d.ad (o0))), (1, .ref (d.ad (o1)))]) C 2 dX6_turnFlaws_59 rfl (by decide) rfl ?_
  refine x_goto (tgt := 9) C dX6_turnFlaws_62 (by decide) ?_
  refine XG.sub [1, 2, 0] rfl ?_
  exact hk9 _ _ hq
set_option maxRecDepth 100000 in
set_option maxHeartbeats 4000000 in
theorem L_X6_turnFlaws_19 {g : Cx} {d : Dl} (C : CX g cX6_turnFlaws 4 none RX6) (hdm : g.dm = 0) (hA : ∀ q : Nat, g.s.heap.size ≤ q → g.A q) (hR0 : g.R = rmv 2 46 0 0) (hce : d.ce ≤ g.R.cells ∧ d.so ≤ g.R.slots) {res : Wd} (hR : rtV g d cX6_turnFlaws res) {o0 : Nat} {o1 : Nat} (h0 : isK d.na g.dm 7 o0) (h1 : isK d.na g.dm 7 o1) {k9 : Int → Wd → Option (Wd)} (hk9 : ∀ (x2 : Int) (w : Wd), k9 x2 w = some res → XG g d (hP g d w) [(0, .ref (d.ad (o0))), (1, .ref (d.ad (o1))), (2, iV (x2))] [] 9) : ∀ (n : Nat) (x2 : Int) (x3 : Int) (w : Wd), p_X6_turnFlaws_19 o0 o1 k9 n x2 x3 w = some res → XG g d (hP g d w) [(0, .ref (d.ad (o0))), (1, .ref (d.ad (o1))), (2, iV (x2)), (3, iV (x3))] [] 19 := by
  intro n
  induction n with
  | zero => intro x2 x3 w  hq; exact nomatch (show none = some _ from hq)
  | succ n ih =>
    intro x2 x3 w  hq
    refine x_iload_n C 3 dX6_turnFlaws_19 rfl ?_
    refine x_aload_n C 0 dX6_turnFlaws_20 rfl ?_
    refine x_get (K := 7) (k := 0) C h0 (by decide) cl_X6 (by decide) ⟨rfl, rfl, rfl⟩ fl_X6_9 dX6_turnFlaws_21 ?_
    refine x_icmp_ge (tgt := 59) C dX6_turnFlaws_24 (by decide) hq (fun hq => ?_) (fun hq => ?_)
    · refine XG.sub [0, 1, 2] rfl ?_
      exact L_X6_turnFlaws_59 C hdm hA hR0 hce hR h0 h1 hk9 _ _ hq
    · refine x_aload_n C 0 dX6_turnFlaws_27 rfl ?_
      refine x_aload_n C 0 dX6_turnFlaws_28 rfl ?_
      refine x_get (K := 7) (k := 0) C h0 (by decide) cl_X6 (by decide) ⟨rfl, rfl, rfl⟩ fl_X6_9 dX6_turnFlaws_29 ?_
      refine x_iconst C dX6_turnFlaws_32 ?_
      refine x_isub C dX6_turnFlaws_33 ?_
      refine x_iload_n C 3 dX6_turnFlaws_34 rfl ?_
      refine x_isub C dX6_turnFlaws_35 ?_
      refine x_aload_n C 0 dX6_turnFlaws_36 rfl ?_
      refine x_get (K := 7) (k := 1) C h0 (by decide) cl_X6 (by decide) ⟨rfl, rfl, rfl⟩ fl_X6_15 dX6_turnFlaws_37 ?_
      refine x_iconst C dX6_turnFlaws_40 ?_
      refine x_isub C dX6_turnFlaws_41 ?_
      refine x_iload_n C 2 dX6_turnFlaws_42 rfl ?_
      refine x_isub C dX6_turnFlaws_43 ?_
      refine x_aload_n C 1 dX6_turnFlaws_44 rfl ?_
      refine x_iload_n C 3 dX6_turnFlaws_45 rfl ?_
      refine x_iload_n C 2 dX6_turnFlaws_46 rfl ?_
      refine x_callVi (K := 7) (rm := rmv 1 21 0 0) (As := [iV (x3), iV (x2)]) (rest := [iV (((gF w o0 1) - 1) - x2), iV (((gF w o0 0) - 1) - x3), .ref (d.ad (o0))]) C hA hR0 mf_X6_flawed lk_X6_93 rfl h1 (by decide) ⟨rfl, rfl⟩ ⟨Nat.le_of_ble_eq_true rfl, Nat.le_of_ble_eq_true rfl⟩ rfl rfl (Nat.le_of_ble_eq_true rfl) hce dX6_turnFlaws_47 hq (fun _ _ h => c_X6_flawed g.l g.G hdm h1 h) (fun r2 w1 _ hq => ?_)
      refine x_callVv (K := 7) (rm := rmv 1 22 0 0) (As := [iV (((gF w o0 0) - 1) - x3), iV (((gF w o0 1) - 1) - x2), iV (r2)]) (rest := []) C hA hR0 mf_X6_mark lk_X6_97 rfl h0 (by decide) ⟨rfl, rfl⟩ ⟨Nat.le_of_ble_eq_true rfl, Nat.le_of_ble_eq_true rfl⟩ rfl rfl (Nat.le_of_ble_eq_true rfl) hce dX6_turnFlaws_50 hq (fun _ h => c_X6_mark g.l g.G hdm h0 h) (fun w3 _ hq => ?_)
      refine x_iinc (lv' := [(3, iV (x3 + 1)), (0, .ref (d.ad (o0))), (1, .ref (d.ad (o1))), (2, iV (x2))]) C 3 dX6_turnFlaws_53 rfl (by decide) rfl ?_
      refine x_goto (tgt := 19) C dX6_turnFlaws_56 (by decide) ?_
      refine XG.sub [1, 2, 3, 0] rfl ?_
      exact ih _ _ _ hq
set_option maxRecDepth 100000 in
set_option maxHeartbeats 4000000 in
theorem L_X6_turnFlaws_9 {g : Cx} {d : Dl} (C : CX g cX6_turnFlaws 4 none RX6) (hdm : g.dm = 0) (hA : ∀ q : Nat, g.s.heap.size ≤ q → g.A q) (hR0 : g.R = rmv 2 46 0 0) (hce : d.ce ≤ g.R.cells ∧ d.so ≤ g.R.slots) {res : Wd} (hR : rtV g d cX6_turnFlaws res) {o0 : Nat} {o1 : Nat} (h0 : isK d.na g.dm 7 o0) (h1 : isK d.na g.dm 7 o1) : ∀ (n : Nat) (x2 : Int) (w : Wd), p_X6_turnFlaws_9 o0 o1 n x2 w = some res → XG g d (hP g d w) [(0, .ref (d.ad (o0))), (1, .ref (d.ad (o1))), (2, iV (x2))] [] 9 := by
  intro n
  induction n with
  | zero => intro x2 w  hq; exact nomatch (show none = some _ from hq)
  | succ n ih =>
    intro x2 w  hq
    refine x_iload_n C 2 dX6_turnFlaws_9 rfl ?_
    refine x_aload_n C 0 dX6_turnFlaws_10 rfl ?_
    refine x_get (K := 7) (k := 1) C h0 (by decide) cl_X6 (by decide) ⟨rfl, rfl, rfl⟩ fl_X6_15 dX6_turnFlaws_11 ?_
    refine x_icmp_ge (tgt := 65) C dX6_turnFlaws_14 (by decide) hq (fun hq => ?_) (fun hq => ?_)
    · exact hR _ _ _ hq dX6_turnFlaws_65
    · refine x_iconst C dX6_turnFlaws_17 ?_
      refine x_istore_n (lv' := [(3, iV (0)), (0, .ref (d.ad (o0))), (1, .ref (d.ad (o1))), (2, iV (x2))]) C dX6_turnFlaws_18 (by decide) rfl ?_
      refine XG.sub [1, 2, 3, 0] rfl ?_
      exact L_X6_turnFlaws_19 C hdm hA hR0 hce hR h0 h1 ih _ _ _ _ hq
set_option maxRecDepth 100000 in
set_option maxHeartbeats 4000000 in
theorem L_X6_turnFlaws {g : Cx} {d : Dl} (C : CX g cX6_turnFlaws 4 none RX6) (hdm : g.dm = 0) (hA : ∀ q : Nat, g.s.heap.size ≤ q → g.A q) (hR0 : g.R = rmv 2 46 0 0) (hce : d.ce ≤ g.R.cells ∧ d.so ≤ g.R.slots) {res : Wd} (hR : rtV g d cX6_turnFlaws res) {o0 : Nat} {o1 : Nat} (h0 : isK d.na g.dm 7 o0) (h1 : isK d.na g.dm 7 o1)  (w : Wd) (hq : p_X6_turnFlaws o0 o1 w = some res) : XG g d (hP g d w) [(0, .ref (d.ad (o0))), (1, .ref (d.ad (o1)))] [] 0 := by
  refine x_aload_n C 0 dX6_turnFlaws_0 rfl ?_
  refine x_getr (K := 7) (k := 3) (o2 := o0 + 1) C h0 (by decide) cl_X6 (by decide) ⟨rfl, rfl, rfl⟩ fl_X6_26 rfl dX6_turnFlaws_1 ?_
  refine x_callVv (K := 6) (rm := rmv 0 0 0 0) (As := []) (rest := []) C hA hR0 mf_X5_clear lk_X6_58 rfl (ik7 h0).1 (by decide) ⟨rfl, rfl⟩ ⟨Nat.le_of_ble_eq_true rfl, Nat.le_of_ble_eq_true rfl⟩ rfl rfl (Nat.le_of_ble_eq_true rfl) hce dX6_turnFlaws_4 hq (fun _ h => c_X5_clear g.l g.G hdm (ik7 h0).1 h) (fun w1 _ hq => ?_)
  refine x_iconst C dX6_turnFlaws_7 ?_
  refine x_istore_n (lv' := [(2, iV (0)), (0, .ref (d.ad (o0))), (1, .ref (d.ad (o1)))]) C dX6_turnFlaws_8 (by decide) rfl ?_
  refine XG.sub [1, 2, 0] rfl ?_
  exact L_X6_turnFlaws_9 C hdm hA hR0 hce hR h0 h1 _ _ _ hq
set_option maxRecDepth 100000 in
set_option maxHeartbeats 4000000 in
theorem c_X6_turnFlaws (l : Launch) (G : Gd) {dm na : Nat} {ad : Nat → Nat} (hdm : dm = 0) {o0 : Nat} {o1 : Nat} {w w' : Wd}  (h0 : isK na dm 7 o0) (h1 : isK na dm 7 o1) (hq : p_X6_turnFlaws o0 o1 w = some w') : mV l yX6_turnFlaws cX6_turnFlaws 4 none (rmv 2 46 0 0) G dm na ad [.ref (ad (o0)), .ref (ad (o1))] w w' := by
  refine met_V [(0, .ref (ad (o0))), (1, .ref (ad (o1)))] (by decide) (Nat.le_of_ble_eq_true rfl) rfl rfl (fun g d C S hR => ?_)
  obtain ⟨rfl, hR0, rfl, rfl, rfl, hA⟩ := S
  exact L_X6_turnFlaws (d := (na, ad, 0, 0)) C hdm hA hR0 ⟨Nat.zero_le _, Nat.zero_le _⟩ hR h0 h1  w hq
set_option maxRecDepth 100000 in
set_option maxHeartbeats 4000000 in
theorem L_X6_cutFlaws_60 {g : Cx} {d : Dl} (C : CX g cX6_cutFlaws 5 none RX6) (hdm : g.dm = 0) (hA : ∀ q : Nat, g.s.heap.size ≤ q → g.A q) (hR0 : g.R = rmv 1 22 0 0) (hce : d.ce ≤ g.R.cells ∧ d.so ≤ g.R.slots) {res : Wd} (hR : rtV g d cX6_cutFlaws res) {o0 : Nat} (h0 : isK d.na g.dm 7 o0) {k23 : Int → Int → Wd → Option (Wd)} (hk23 : ∀ (x3 : Int) (x4 : Int) (w : Wd), k23 x3 x4 w = some res → XG g d (hP g d w) [(0, .ref (d.ad (o0))), (3, iV (x3)), (4, iV (x4))] [] 23) (x3 : Int) (x4 : Int) (s0 : Int) (s1 : Int) (w : Wd) (hq : p_X6_cutFlaws_60 o0 k23 x3 x4 s0 s1 w = some res) : XG g d (hP g d w) [(0, .ref (d.ad (o0))), (3, iV (x3)), (4, iV (x4))] [iV (s0), iV (s1), .ref (d.ad (o0 + 1))] 60 := by
  refine x_callVv (K := 6) (rm := rmv 0 0 0 0) (As := [iV (s1), iV (s0)]) (rest := []) C hA hR0 mf_X5_put lk_X6_85 rfl (ik7 h0).1 (by decide) ⟨rfl, rfl⟩ ⟨Nat.le_of_ble_eq_true rfl, Nat.le_of_ble_eq_true rfl⟩ rfl rfl (Nat.le_of_ble_eq_true rfl) hce dX6_cutFlaws_60 hq (fun _ h => c_X5_put g.l g.G hdm (ik7 h0).1 h) (fun w1 _ hq => ?_)
  refine x_iinc (lv' := [(4, iV (x4 + 1)), (0, .ref (d.ad (o0))), (3, iV (x3))]) C 2 dX6_cutFlaws_63 rfl (by decide) rfl ?_
  refine x_goto (tgt := 23) C dX6_cutFlaws_66 (by decide) ?_
  refine XG.sub [1, 2, 0] rfl ?_
  exact hk23 _ _ _ hq
set_option maxRecDepth 100000 in
set_option maxHeartbeats 4000000 in
theorem L_X6_cutFlaws_23 {g : Cx} {d : Dl} (C : CX g cX6_cutFlaws 5 none RX6) (hdm : g.dm = 0) (hA : ∀ q : Nat, g.s.heap.size ≤ q → g.A q) (hR0 : g.R = rmv 1 22 0 0) (hce : d.ce ≤ g.R.cells ∧ d.so ≤ g.R.slots) {res : Wd} (hR : rtV g d cX6_cutFlaws res) {o0 : Nat} (h0 : isK d.na g.dm 7 o0) : ∀ (n : Nat) (x3 : Int) (x4 : Int) (w : Wd), p_X6_cutFlaws_23 o0 n x3 x4 w = some res → XG g d (hP g d w) [(0, .ref (d.ad (o0))), (3, iV (x3)), (4, iV (x4))] [] 23 := by
  intro n
  induction n with
  | zero => intro x3 x4 w  hq; exact nomatch (show none = some _ from hq)
  | succ n ih =>
    intro x3 x4 w  hq
    refine x_iload C 2 dX6_cutFlaws_23 rfl ?_
    refine x_bipush (v := 12) C dX6_cutFlaws_25 (by decide +kernel) ?_
    refine x_icmp_ge (tgt := 69) C dX6_cutFlaws_27 (by decide) hq (fun hq => ?_) (fun hq => ?_)
    · exact hR _ _ _ hq dX6_cutFlaws_69
    · refine x_aload_n C 0 dX6_cutFlaws_30 rfl ?_
      refine x_getr (K := 7) (k := 3) (o2 := o0 + 1) C h0 (by decide) cl_X6 (by decide) ⟨rfl, rfl, rfl⟩ fl_X6_26 rfl dX6_cutFlaws_31 ?_
      refine x_iload C 2 dX6_cutFlaws_34 rfl ?_
      refine x_iload C 2 dX6_cutFlaws_36 rfl ?_
      refine x_aload_n C 0 dX6_cutFlaws_38 rfl ?_
      refine x_get (K := 7) (k := 1) C h0 (by decide) cl_X6 (by decide) ⟨rfl, rfl, rfl⟩ fl_X6_15 dX6_cutFlaws_39 ?_
      refine x_icmp_ge (tgt := 59) C dX6_cutFlaws_42 (by decide) hq (fun hq => ?_) (fun hq => ?_)
      · refine x_iconst C dX6_cutFlaws_59 ?_
        exact L_X6_cutFlaws_60 C hdm hA hR0 hce hR h0 ih _ _ _ _ _ hq
      · refine x_aload_n C 0 dX6_cutFlaws_45 rfl ?_
        refine x_getr (K := 7) (k := 3) (o2 := o0 + 1) C h0 (by decide) cl_X6 (by decide) ⟨rfl, rfl, rfl⟩ fl_X6_26 rfl dX6_cutFlaws_46 ?_
        refine x_iload C 2 dX6_cutFlaws_49 rfl ?_
        refine x_iload_n C 1 dX6_cutFlaws_51 rfl ?_
        refine x_iadd C dX6_cutFlaws_52 ?_
        refine x_callVi (K := 6) (rm := rmv 0 0 0 0) (As := [iV (x4 + x3)]) (rest := [iV (x4), .ref (d.ad (o0 + 1))]) C hA hR0 mf_X5_at lk_X6_81 rfl (ik7 h0).1 (by decide) ⟨rfl, rfl⟩ ⟨Nat.le_of_ble_eq_true rfl, Nat.le_of_ble_eq_true rfl⟩ rfl rfl (Nat.le_of_ble_eq_true rfl) hce dX6_cutFlaws_53 hq (fun _ _ h => c_X5_at g.l g.G hdm (ik7 h0).1 h) (fun r2 w1 _ hq => ?_)
        refine x_goto (tgt := 60) C dX6_cutFlaws_56 (by decide) ?_
        exact L_X6_cutFlaws_60 C hdm hA hR0 hce hR h0 ih _ _ _ _ _ hq
set_option maxRecDepth 100000 in
set_option maxHeartbeats 4000000 in
theorem L_X6_cutFlaws_9 {g : Cx} {d : Dl} (C : CX g cX6_cutFlaws 5 none RX6) (hdm : g.dm = 0) (hA : ∀ q : Nat, g.s.heap.size ≤ q → g.A q) (hR0 : g.R = rmv 1 22 0 0) (hce : d.ce ≤ g.R.cells ∧ d.so ≤ g.R.slots) {res : Wd} (hR : rtV g d cX6_cutFlaws res) {o0 : Nat} (h0 : isK d.na g.dm 7 o0) (x1 : Int) (s0 : Int) (w : Wd) (hq : p_X6_cutFlaws_9 o0 x1 s0 w = some res) : XG g d (hP g d w) [(0, .ref (d.ad (o0))), (1, iV (x1))] [iV (s0)] 9 := by
  refine x_istore_n (lv' := [(3, iV (s0)), (0, .ref (d.ad (o0))), (1, iV (x1))]) C dX6_cutFlaws_9 (by decide) rfl ?_
  refine x_aload_n C 1 dX6_cutFlaws_10 rfl ?_
  refine x_dup C rfl dX6_cutFlaws_11 ?_
  refine x_get (K := 7) (k := 1) C h0 (by decide) cl_X6 (by decide) ⟨rfl, rfl, rfl⟩ fl_X6_15 dX6_cutFlaws_12 ?_
  refine x_iload_n C 2 dX6_cutFlaws_15 rfl ?_
  refine x_isub C dX6_cutFlaws_16 ?_
  refine x_put (K := 7) (k := 1) C h0 (by decide) cl_X6 (by decide) ⟨rfl, rfl, rfl, rfl⟩ fl_X6_15 ⟨rfl, rfl⟩ dX6_cutFlaws_17 ?_
  refine x_iconst C dX6_cutFlaws_20 ?_
  refine x_istore (lv' := [(4, iV (0)), (3, iV (s0)), (0, .ref (d.ad (o0))), (1, iV (x1))]) C dX6_cutFlaws_21 (by decide) rfl ?_
  refine XG.sub [2, 1, 0] rfl ?_
  exact L_X6_cutFlaws_23 C hdm hA hR0 hce hR h0 _ _ _ _ hq
set_option maxRecDepth 100000 in
set_option maxHeartbeats 4000000 in
theorem L_X6_cutFlaws {g : Cx} {d : Dl} (C : CX g cX6_cutFlaws 5 none RX6) (hdm : g.dm = 0) (hA : ∀ q : Nat, g.s.heap.size ≤ q → g.A q) (hR0 : g.R = rmv 1 22 0 0) (hce : d.ce ≤ g.R.cells ∧ d.so ≤ g.R.slots) {res : Wd} (hR : rtV g d cX6_cutFlaws res) {o0 : Nat} (h0 : isK d.na g.dm 7 o0) (x1 : Int) (x2 : Int) (w : Wd) (hq : p_X6_cutFlaws o0 x1 x2 w = some res) : XG g d (hP g d w) [(0, .ref (d.ad (o0))), (1, iV (x1)), (2, iV (x2))] [] 0 := by
  refine x_iload_n C 2 dX6_cutFlaws_0 rfl ?_
  refine x_if_eq (tgt := 8) C dX6_cutFlaws_1 (by decide) hq (fun hq => ?_) (fun hq => ?_)
  · refine x_iconst C dX6_cutFlaws_8 ?_
    refine XG.sub [0, 1] rfl ?_
    exact L_X6_cutFlaws_9 C hdm hA hR0 hce hR h0 _ _ _ hq
  · refine x_iload_n C 1 dX6_cutFlaws_4 rfl ?_
    refine x_goto (tgt := 9) C dX6_cutFlaws_5 (by decide) ?_
    refine XG.sub [0, 1] rfl ?_
    exact L_X6_cutFlaws_9 C hdm hA hR0 hce hR h0 _ _ _ hq
set_option maxRecDepth 100000 in
set_option maxHeartbeats 4000000 in
theorem c_X6_cutFlaws (l : Launch) (G : Gd) {dm na : Nat} {ad : Nat → Nat} (hdm : dm = 0) {o0 : Nat} {x1 : Int} {x2 : Int} {w w' : Wd}  (h0 : isK na dm 7 o0) (hq : p_X6_cutFlaws o0 x1 x2 w = some w') : mV l yX6_cutFlaws cX6_cutFlaws 5 none (rmv 1 22 0 0) G dm na ad [.ref (ad (o0)), iV (x1), iV (x2)] w w' := by
  refine met_V [(0, .ref (ad (o0))), (1, iV (x1)), (2, iV (x2))] (by decide) (Nat.le_of_ble_eq_true rfl) rfl rfl (fun g d C S hR => ?_)
  obtain ⟨rfl, hR0, rfl, rfl, rfl, hA⟩ := S
  exact L_X6_cutFlaws (d := (na, ad, 0, 0)) C hdm hA hR0 ⟨Nat.zero_le _, Nat.zero_le _⟩ hR h0 _ _ w hq
set_option maxRecDepth 100000 in
set_option maxHeartbeats 4000000 in
theorem L_X6_openPart {g : Cx} {d : Dl} (C : CX g cX6_openPart 2 none RX6) (hdm : g.dm = 0) (hA : ∀ q : Nat, g.s.heap.size ≤ q → g.A q) (hR0 : g.R = rmv 1 22 0 0) (hce : d.ce ≤ g.R.cells ∧ d.so ≤ g.R.slots) {res : Wd} (hR : rtV g d cX6_openPart res) {o0 : Nat} (h0 : isK d.na g.dm 7 o0) (x1 : Int) (w : Wd) (hq : p_X6_openPart o0 x1 w = some res) : XG g d (hP g d w) [(0, .ref (d.ad (o0))), (1, iV (x1))] [] 0 := by
  refine x_aload_n C 0 dX6_openPart_0 rfl ?_
  refine x_get (K := 7) (k := 4) C h0 (by decide) cl_X6 (by decide) ⟨rfl, rfl, rfl⟩ fl_X6_30 dX6_openPart_1 ?_
  refine x_bipush (v := 10) C dX6_openPart_4 (by decide +kernel) ?_
  refine x_icmp_ge (tgt := 43) C dX6_openPart_6 (by decide) hq (fun hq => ?_) (fun hq => ?_)
  · exact hR _ _ _ hq dX6_openPart_43
  · refine x_aload_n C 0 dX6_openPart_9 rfl ?_
    refine x_getr (K := 7) (k := 5) (o2 := o0 + 3) C h0 (by decide) cl_X6 (by decide) ⟨rfl, rfl, rfl⟩ fl_X6_33 rfl dX6_openPart_10 ?_
    refine x_aload_n C 0 dX6_openPart_13 rfl ?_
    refine x_get (K := 7) (k := 4) C h0 (by decide) cl_X6 (by decide) ⟨rfl, rfl, rfl⟩ fl_X6_30 dX6_openPart_14 ?_
    refine x_iload_n C 1 dX6_openPart_17 rfl ?_
    refine x_callVv (K := 6) (rm := rmv 0 0 0 0) (As := [iV (gF w o0 4), iV (x1)]) (rest := []) C hA hR0 mf_X5_put lk_X6_85 rfl (ik7 h0).2.1 (by decide) ⟨rfl, rfl⟩ ⟨Nat.le_of_ble_eq_true rfl, Nat.le_of_ble_eq_true rfl⟩ rfl rfl (Nat.le_of_ble_eq_true rfl) hce dX6_openPart_18 hq (fun _ h => c_X5_put g.l g.G hdm (ik7 h0).2.1 h) (fun w1 _ hq => ?_)
    refine x_aload_n C 0 dX6_openPart_21 rfl ?_
    refine x_getr (K := 7) (k := 6) (o2 := o0 + 5) C h0 (by decide) cl_X6 (by decide) ⟨rfl, rfl, rfl⟩ fl_X6_36 rfl dX6_openPart_22 ?_
    refine x_aload_n C 0 dX6_openPart_25 rfl ?_
    refine x_get (K := 7) (k := 4) C h0 (by decide) cl_X6 (by decide) ⟨rfl, rfl, rfl⟩ fl_X6_30 dX6_openPart_26 ?_
    refine x_iconst C dX6_openPart_29 ?_
    refine x_callVv (K := 6) (rm := rmv 0 0 0 0) (As := [iV (gF w1 o0 4), iV (0)]) (rest := []) C hA hR0 mf_X5_put lk_X6_85 rfl (ik7 h0).2.2.1 (by decide) ⟨rfl, rfl⟩ ⟨Nat.le_of_ble_eq_true rfl, Nat.le_of_ble_eq_true rfl⟩ rfl rfl (Nat.le_of_ble_eq_true rfl) hce dX6_openPart_30 hq (fun _ h => c_X5_put g.l g.G hdm (ik7 h0).2.2.1 h) (fun w2 _ hq => ?_)
    refine x_aload_n C 0 dX6_openPart_33 rfl ?_
    refine x_dup C rfl dX6_openPart_34 ?_
    refine x_get (K := 7) (k := 4) C h0 (by decide) cl_X6 (by decide) ⟨rfl, rfl, rfl⟩ fl_X6_30 dX6_openPart_35 ?_
    refine x_iconst C dX6_openPart_38 ?_
    refine x_iadd C dX6_openPart_39 ?_
    refine x_put (K := 7) (k := 4) C h0 (by decide) cl_X6 (by decide) ⟨rfl, rfl, rfl, rfl⟩ fl_X6_30 ⟨rfl, rfl⟩ dX6_openPart_40 ?_
    exact hR _ _ _ hq dX6_openPart_43
set_option maxRecDepth 100000 in
set_option maxHeartbeats 4000000 in
theorem c_X6_openPart (l : Launch) (G : Gd) {dm na : Nat} {ad : Nat → Nat} (hdm : dm = 0) {o0 : Nat} {x1 : Int} {w w' : Wd}  (h0 : isK na dm 7 o0) (hq : p_X6_openPart o0 x1 w = some w') : mV l yX6_openPart cX6_openPart 2 none (rmv 1 22 0 0) G dm na ad [.ref (ad (o0)), iV (x1)] w w' := by
  refine met_V [(0, .ref (ad (o0))), (1, iV (x1))] (by decide) (Nat.le_of_ble_eq_true rfl) rfl rfl (fun g d C S hR => ?_)
  obtain ⟨rfl, hR0, rfl, rfl, rfl, hA⟩ := S
  exact L_X6_openPart (d := (na, ad, 0, 0)) C hdm hA hR0 ⟨Nat.zero_le _, Nat.zero_le _⟩ hR h0 _ w hq
set_option maxRecDepth 100000 in
set_option maxHeartbeats 4000000 in
theorem L_X6_takeWord_56 {g : Cx} {d : Dl} (C : CX g cX6_takeWord 5 none RX6) (hdm : g.dm = 0) (hA : ∀ q : Nat, g.s.heap.size ≤ q → g.A q) (hR0 : g.R = rmv 1 22 0 0) (hce : d.ce ≤ g.R.cells ∧ d.so ≤ g.R.slots) {res : Wd} (hR : rtV g d cX6_takeWord res) {o0 : Nat} {o1 : Nat} (h0 : isK d.na g.dm 7 o0) (h1 : isK d.na g.dm 6 o1) (x3 : Int) (w : Wd) (hq : p_X6_takeWord_56 o0 o1 x3 w = some res) : XG g d (hP g d w) [(0, .ref (d.ad (o0))), (3, iV (x3))] [] 56 := by
  refine x_aload_n C 0 dX6_takeWord_56 rfl ?_
  refine x_getr (K := 7) (k := 8) (o2 := o0 + 7) C h0 (by decide) cl_X6 (by decide) ⟨rfl, rfl, rfl⟩ fl_X6_42 rfl dX6_takeWord_57 ?_
  refine x_aload_n C 0 dX6_takeWord_60 rfl ?_
  refine x_get (K := 7) (k := 7) C h0 (by decide) cl_X6 (by decide) ⟨rfl, rfl, rfl⟩ fl_X6_39 dX6_takeWord_61 ?_
  refine x_iload_n C 1 dX6_takeWord_64 rfl ?_
  refine x_callVv (K := 6) (rm := rmv 0 0 0 0) (As := [iV (gF w o0 7), iV (x3)]) (rest := []) C hA hR0 mf_X5_put lk_X6_85 rfl (ik7 h0).2.2.2.1 (by decide) ⟨rfl, rfl⟩ ⟨Nat.le_of_ble_eq_true rfl, Nat.le_of_ble_eq_true rfl⟩ rfl rfl (Nat.le_of_ble_eq_true rfl) hce dX6_takeWord_65 hq (fun _ h => c_X5_put g.l g.G hdm (ik7 h0).2.2.2.1 h) (fun w1 _ hq => ?_)
  refine x_aload_n C 0 dX6_takeWord_68 rfl ?_
  refine x_getr (K := 7) (k := 6) (o2 := o0 + 5) C h0 (by decide) cl_X6 (by decide) ⟨rfl, rfl, rfl⟩ fl_X6_36 rfl dX6_takeWord_69 ?_
  refine x_aload_n C 0 dX6_takeWord_72 rfl ?_
  refine x_get (K := 7) (k := 4) C h0 (by decide) cl_X6 (by decide) ⟨rfl, rfl, rfl⟩ fl_X6_30 dX6_takeWord_73 ?_
  refine x_iconst C dX6_takeWord_76 ?_
  refine x_isub C dX6_takeWord_77 ?_
  refine x_aload_n C 0 dX6_takeWord_78 rfl ?_
  refine x_getr (K := 7) (k := 6) (o2 := o0 + 5) C h0 (by decide) cl_X6 (by decide) ⟨rfl, rfl, rfl⟩ fl_X6_36 rfl dX6_takeWord_79 ?_
  refine x_aload_n C 0 dX6_takeWord_82 rfl ?_
  refine x_get (K := 7) (k := 4) C h0 (by decide) cl_X6 (by decide) ⟨rfl, rfl, rfl⟩ fl_X6_30 dX6_takeWord_83 ?_
  refine x_iconst C dX6_takeWord_86 ?_
  refine x_isub C dX6_takeWord_87 ?_
  refine x_callVi (K := 6) (rm := rmv 0 0 0 0) (As := [iV ((gF w1 o0 4) - 1)]) (rest := [iV ((gF w1 o0 4) - 1), .ref (d.ad (o0 + 5))]) C hA hR0 mf_X5_at lk_X6_81 rfl (ik7 h0).2.2.1 (by decide) ⟨rfl, rfl⟩ ⟨Nat.le_of_ble_eq_true rfl, Nat.le_of_ble_eq_true rfl⟩ rfl rfl (Nat.le_of_ble_eq_true rfl) hce dX6_takeWord_88 hq (fun _ _ h => c_X5_at g.l g.G hdm (ik7 h0).2.2.1 h) (fun r3 w2 _ hq => ?_)
  refine x_iconst C dX6_takeWord_91 ?_
  refine x_iadd C dX6_takeWord_92 ?_
  refine x_callVv (K := 6) (rm := rmv 0 0 0 0) (As := [iV ((gF w1 o0 4) - 1), iV (r3 + 1)]) (rest := []) C hA hR0 mf_X5_put lk_X6_85 rfl (ik7 h0).2.2.1 (by decide) ⟨rfl, rfl⟩ ⟨Nat.le_of_ble_eq_true rfl, Nat.le_of_ble_eq_true rfl⟩ rfl rfl (Nat.le_of_ble_eq_true rfl) hce dX6_takeWord_93 hq (fun _ h => c_X5_put g.l g.G hdm (ik7 h0).2.2.1 h) (fun w4 _ hq => ?_)
  refine x_aload_n C 0 dX6_takeWord_96 rfl ?_
  refine x_dup C rfl dX6_takeWord_97 ?_
  refine x_get (K := 7) (k := 7) C h0 (by decide) cl_X6 (by decide) ⟨rfl, rfl, rfl⟩ fl_X6_39 dX6_takeWord_98 ?_
  refine x_iconst C dX6_takeWord_101 ?_
  refine x_iadd C dX6_takeWord_102 ?_
  refine x_put (K := 7) (k := 7) C h0 (by decide) cl_X6 (by decide) ⟨rfl, rfl, rfl, rfl⟩ fl_X6_39 ⟨rfl, rfl⟩ dX6_takeWord_103 ?_
  exact hR _ _ _ hq dX6_takeWord_106
set_option maxRecDepth 100000 in
set_option maxHeartbeats 4000000 in
theorem L_X6_takeWord_19 {g : Cx} {d : Dl} (C : CX g cX6_takeWord 5 none RX6) (hdm : g.dm = 0) (hA : ∀ q : Nat, g.s.heap.size ≤ q → g.A q) (hR0 : g.R = rmv 1 22 0 0) (hce : d.ce ≤ g.R.cells ∧ d.so ≤ g.R.slots) {res : Wd} (hR : rtV g d cX6_takeWord res) {o0 : Nat} {o1 : Nat} (h0 : isK d.na g.dm 7 o0) (h1 : isK d.na g.dm 6 o1) : ∀ (n : Nat) (x2 : Int) (x3 : Int) (x4 : Int) (w : Wd), p_X6_takeWord_19 o0 o1 n x2 x3 x4 w = some res → XG g d (hP g d w) [(0, .ref (d.ad (o0))), (1, .ref (d.ad (o1))), (2, iV (x2)), (3, iV (x3)), (4, iV (x4))] [] 19 := by
  intro n
  induction n with
  | zero => intro x2 x3 x4 w  hq; exact nomatch (show none = some _ from hq)
  | succ n ih =>
    intro x2 x3 x4 w  hq
    refine x_iload C 4 dX6_takeWord_19 rfl ?_
    refine x_iload_n C 3 dX6_takeWord_21 rfl ?_
    refine x_icmp_ge (tgt := 56) C dX6_takeWord_22 (by decide) hq (fun hq => ?_) (fun hq => ?_)
    · refine XG.sub [0, 3] rfl ?_
      exact L_X6_takeWord_56 C hdm hA hR0 hce hR h0 h1 _ _ hq
    · refine x_aload_n C 0 dX6_takeWord_25 rfl ?_
      refine x_getr (K := 7) (k := 9) (o2 := o0 + 9) C h0 (by decide) cl_X6 (by decide) ⟨rfl, rfl, rfl⟩ fl_X6_45 rfl dX6_takeWord_26 ?_
      refine x_aload_n C 0 dX6_takeWord_29 rfl ?_
      refine x_get (K := 7) (k := 7) C h0 (by decide) cl_X6 (by decide) ⟨rfl, rfl, rfl⟩ fl_X6_39 dX6_takeWord_30 ?_
      refine x_bipush (v := 12) C dX6_takeWord_33 (by decide +kernel) ?_
      refine x_imul C dX6_takeWord_35 ?_
      refine x_iload C 4 dX6_takeWord_36 rfl ?_
      refine x_iadd C dX6_takeWord_38 ?_
      refine x_aload_n C 1 dX6_takeWord_39 rfl ?_
      refine x_iload_n C 2 dX6_takeWord_40 rfl ?_
      refine x_iload C 4 dX6_takeWord_41 rfl ?_
      refine x_iadd C dX6_takeWord_43 ?_
      refine x_callVi (K := 6) (rm := rmv 0 0 0 0) (As := [iV (x2 + x4)]) (rest := [iV (((gF w o0 7) * 12) + x4), .ref (d.ad (o0 + 9))]) C hA hR0 mf_X5_at lk_X6_81 rfl h1 (by decide) ⟨rfl, rfl⟩ ⟨Nat.le_of_ble_eq_true rfl, Nat.le_of_ble_eq_true rfl⟩ rfl rfl (Nat.le_of_ble_eq_true rfl) hce dX6_takeWord_44 hq (fun _ _ h => c_X5_at g.l g.G hdm h1 h) (fun r2 w1 _ hq => ?_)
      refine x_callVv (K := 6) (rm := rmv 0 0 0 0) (As := [iV (((gF w o0 7) * 12) + x4), iV (r2)]) (rest := []) C hA hR0 mf_X5_put lk_X6_85 rfl (ik7 h0).2.2.2.2.1 (by decide) ⟨rfl, rfl⟩ ⟨Nat.le_of_ble_eq_true rfl, Nat.le_of_ble_eq_true rfl⟩ rfl rfl (Nat.le_of_ble_eq_true rfl) hce dX6_takeWord_47 hq (fun _ h => c_X5_put g.l g.G hdm (ik7 h0).2.2.2.2.1 h) (fun w3 _ hq => ?_)
      refine x_iinc (lv' := [(4, iV (x4 + 1)), (0, .ref (d.ad (o0))), (1, .ref (d.ad (o1))), (2, iV (x2)), (3, iV (x3))]) C 4 dX6_takeWord_50 rfl (by decide) rfl ?_
      refine x_goto (tgt := 19) C dX6_takeWord_53 (by decide) ?_
      refine XG.sub [1, 2, 3, 4, 0] rfl ?_
      exact ih _ _ _ _ hq
set_option maxRecDepth 100000 in
set_option maxHeartbeats 4000000 in
theorem L_X6_takeWord {g : Cx} {d : Dl} (C : CX g cX6_takeWord 5 none RX6) (hdm : g.dm = 0) (hA : ∀ q : Nat, g.s.heap.size ≤ q → g.A q) (hR0 : g.R = rmv 1 22 0 0) (hce : d.ce ≤ g.R.cells ∧ d.so ≤ g.R.slots) {res : Wd} (hR : rtV g d cX6_takeWord res) {o0 : Nat} {o1 : Nat} (h0 : isK d.na g.dm 7 o0) (h1 : isK d.na g.dm 6 o1) (x2 : Int) (x3 : Int) (w : Wd) (hq : p_X6_takeWord o0 o1 x2 x3 w = some res) : XG g d (hP g d w) [(0, .ref (d.ad (o0))), (1, .ref (d.ad (o1))), (2, iV (x2)), (3, iV (x3))] [] 0 := by
  refine x_aload_n C 0 dX6_takeWord_0 rfl ?_
  refine x_get (K := 7) (k := 7) C h0 (by decide) cl_X6 (by decide) ⟨rfl, rfl, rfl⟩ fl_X6_39 dX6_takeWord_1 ?_
  refine x_bipush (v := 60) C dX6_takeWord_4 (by decide +kernel) ?_
  refine x_icmp_ge (tgt := 106) C dX6_takeWord_6 (by decide) hq (fun hq => ?_) (fun hq => ?_)
  · exact hR _ _ _ hq dX6_takeWord_106
  · refine x_aload_n C 0 dX6_takeWord_9 rfl ?_
    refine x_get (K := 7) (k := 4) C h0 (by decide) cl_X6 (by decide) ⟨rfl, rfl, rfl⟩ fl_X6_30 dX6_takeWord_10 ?_
    refine x_if_le (tgt := 106) C dX6_takeWord_13 (by decide) hq (fun hq => ?_) (fun hq => ?_)
    · exact hR _ _ _ hq dX6_takeWord_106
    · refine x_iconst C dX6_takeWord_16 ?_
      refine x_istore (lv' := [(4, iV (0)), (0, .ref (d.ad (o0))), (1, .ref (d.ad (o1))), (2, iV (x2)), (3, iV (x3))]) C dX6_takeWord_17 (by decide) rfl ?_
      refine XG.sub [1, 2, 3, 4, 0] rfl ?_
      exact L_X6_takeWord_19 C hdm hA hR0 hce hR h0 h1 _ _ _ _ _ hq
set_option maxRecDepth 100000 in
set_option maxHeartbeats 4000000 in
theorem c_X6_takeWord (l : Launch) (G : Gd) {dm na : Nat} {ad : Nat → Nat} (hdm : dm = 0) {o0 : Nat} {o1 : Nat} {x2 : Int} {x3 : Int} {w w' : Wd}  (h0 : isK na dm 7 o0) (h1 : isK na dm 6 o1) (hq : p_X6_takeWord o0 o1 x2 x3 w = some w') : mV l yX6_takeWord cX6_takeWord 5 none (rmv 1 22 0 0) G dm na ad [.ref (ad (o0)), .ref (ad (o1)), iV (x2), iV (x3)] w w' := by
  refine met_V [(0, .ref (ad (o0))), (1, .ref (ad (o1))), (2, iV (x2)), (3, iV (x3))] (by decide) (Nat.le_of_ble_eq_true rfl) rfl rfl (fun g d C S hR => ?_)
  obtain ⟨rfl, hR0, rfl, rfl, rfl, hA⟩ := S
  exact L_X6_takeWord (d := (na, ad, 0, 0)) C hdm hA hR0 ⟨Nat.zero_le _, Nat.zero_le _⟩ hR h0 h1 _ _ w hq
set_option maxRecDepth 100000 in
set_option maxHeartbeats 4000000 in
theorem L_X6_firstOf_4 {g : Cx} {d : Dl} (C : CX g cX6_firstOf 4 (some .int) RX6) (hdm : g.dm = 0) (hA : ∀ q : Nat, g.s.heap.size ≤ q → g.A q) (hR0 : g.R = rmv 1 21 0 0) (hce : d.ce ≤ g.R.cells ∧ d.so ≤ g.R.slots) {res : Int × Wd} (hR : rtI g d cX6_firstOf .int res) {o0 : Nat} (h0 : isK d.na g.dm 7 o0) : ∀ (n : Nat) (x1 : Int) (x2 : Int) (x3 : Int) (w : Wd), p_X6_firstOf_4 o0 n x1 x2 x3 w = some res → XG g d (hP g d w) [(0, .ref (d.ad (o0))), (1, iV (x1)), (2, iV (x2)), (3, iV (x3))] [] 4 := by
  intro n
  induction n with
  | zero => intro x1 x2 x3 w  hq; exact nomatch (show none = some _ from hq)
  | succ n ih =>
    intro x1 x2 x3 w  hq
    refine x_iload_n C 3 dX6_firstOf_4 rfl ?_
    refine x_iload_n C 1 dX6_firstOf_5 rfl ?_
    refine x_icmp_ge (tgt := 26) C dX6_firstOf_6 (by decide) hq (fun hq => ?_) (fun hq => ?_)
    · refine x_iload_n C 2 dX6_firstOf_26 rfl ?_
      exact hR _ _ _ _ hq rfl dX6_firstOf_27
    · refine x_iload_n C 2 dX6_firstOf_9 rfl ?_
      refine x_aload_n C 0 dX6_firstOf_10 rfl ?_
      refine x_getr (K := 7) (k := 6) (o2 := o0 + 5) C h0 (by decide) cl_X6 (by decide) ⟨rfl, rfl, rfl⟩ fl_X6_36 rfl dX6_firstOf_11 ?_
      refine x_iload_n C 3 dX6_firstOf_14 rfl ?_
      refine x_callVi (K := 6) (rm := rmv 0 0 0 0) (As := [iV (x3)]) (rest := [iV (x2)]) C hA hR0 mf_X5_at lk_X6_81 rfl (ik7 h0).2.2.1 (by decide) ⟨rfl, rfl⟩ ⟨Nat.le_of_ble_eq_true rfl, Nat.le_of_ble_eq_true rfl⟩ rfl rfl (Nat.le_of_ble_eq_true rfl) hce dX6_firstOf_15 hq (fun _ _ h => c_X5_at g.l g.G hdm (ik7 h0).2.2.1 h) (fun r2 w1 _ hq => ?_)
      refine x_iadd C dX6_firstOf_18 ?_
      refine x_istore_n (lv' := [(2, iV (x2 + r2)), (0, .ref (d.ad (o0))), (1, iV (x1)), (3, iV (x3))]) C dX6_firstOf_19 (by decide) rfl ?_
      refine x_iinc (lv' := [(3, iV (x3 + 1)), (2, iV (x2 + r2)), (0, .ref (d.ad (o0))), (1, iV (x1))]) C 3 dX6_firstOf_20 rfl (by decide) rfl ?_
      refine x_goto (tgt := 4) C dX6_firstOf_23 (by decide) ?_
      refine XG.sub [2, 3, 1, 0] rfl ?_
      exact ih _ _ _ _ hq
set_option maxRecDepth 100000 in
set_option maxHeartbeats 4000000 in
theorem L_X6_firstOf {g : Cx} {d : Dl} (C : CX g cX6_firstOf 4 (some .int) RX6) (hdm : g.dm = 0) (hA : ∀ q : Nat, g.s.heap.size ≤ q → g.A q) (hR0 : g.R = rmv 1 21 0 0) (hce : d.ce ≤ g.R.cells ∧ d.so ≤ g.R.slots) {res : Int × Wd} (hR : rtI g d cX6_firstOf .int res) {o0 : Nat} (h0 : isK d.na g.dm 7 o0) (x1 : Int) (w : Wd) (hq : p_X6_firstOf o0 x1 w = some res) : XG g d (hP g d w) [(0, .ref (d.ad (o0))), (1, iV (x1))] [] 0 := by
  refine x_iconst C dX6_firstOf_0 ?_
  refine x_istore_n (lv' := [(2, iV (0)), (0, .ref (d.ad (o0))), (1, iV (x1))]) C dX6_firstOf_1 (by decide) rfl ?_
  refine x_iconst C dX6_firstOf_2 ?_
  refine x_istore_n (lv' := [(3, iV (0)), (2, iV (0)), (0, .ref (d.ad (o0))), (1, iV (x1))]) C dX6_firstOf_3 (by decide) rfl ?_
  refine XG.sub [2, 3, 1, 0] rfl ?_
  exact L_X6_firstOf_4 C hdm hA hR0 hce hR h0 _ _ _ _ _ hq
set_option maxRecDepth 100000 in
set_option maxHeartbeats 4000000 in
theorem c_X6_firstOf (l : Launch) (G : Gd) {dm na : Nat} {ad : Nat → Nat} (hdm : dm = 0) {o0 : Nat} {x1 : Int} {w w' : Wd} {r : Int} (h0 : isK na dm 7 o0) (hq : p_X6_firstOf o0 x1 w = some (r, w')) : mI l yX6_firstOf cX6_firstOf 4 (some .int) (rmv 1 21 0 0) G dm na ad [.ref (ad (o0)), iV (x1)] w r w' := by
  refine met_I [(0, .ref (ad (o0))), (1, iV (x1))] (by decide) (Nat.le_of_ble_eq_true rfl) rfl .int rfl (fun g d C S hR => ?_)
  obtain ⟨rfl, hR0, rfl, rfl, rfl, hA⟩ := S
  exact L_X6_firstOf (d := (na, ad, 0, 0)) C hdm hA hR0 ⟨Nat.zero_le _, Nat.zero_le _⟩ hR h0 _ w hq
set_option maxRecDepth 100000 in
set_option maxHeartbeats 4000000 in
theorem L_X6_takePart_33 {g : Cx} {d : Dl} (C : CX g cX6_takePart 6 none RX6) (hdm : g.dm = 0) (hA : ∀ q : Nat, g.s.heap.size ≤ q → g.A q) (hR0 : g.R = rmv 2 46 0 0) (hce : d.ce ≤ g.R.cells ∧ d.so ≤ g.R.slots) {res : Wd} (hR : rtV g d cX6_takePart res) {o0 : Nat} {o1 : Nat} (h0 : isK d.na g.dm 7 o0) (h1 : isK d.na g.dm 7 o1) : ∀ (n : Nat) (x4 : Int) (x5 : Int) (w : Wd), p_X6_takePart_33 o0 o1 n x4 x5 w = some res → XG g d (hP g d w) [(0, .ref (d.ad (o0))), (1, .ref (d.ad (o1))), (4, iV (x4)), (5, iV (x5))] [] 33 := by
  intro n
  induction n with
  | zero => intro x4 x5 w  hq; exact nomatch (show none = some _ from hq)
  | succ n ih =>
    intro x4 x5 w  hq
    refine x_iload C 3 dX6_takePart_33 rfl ?_
    refine x_iload C 2 dX6_takePart_35 rfl ?_
    refine x_icmp_ge (tgt := 68) C dX6_takePart_37 (by decide) hq (fun hq => ?_) (fun hq => ?_)
    · exact hR _ _ _ hq dX6_takePart_68
    · refine x_aload_n C 0 dX6_takePart_40 rfl ?_
      refine x_aload_n C 1 dX6_takePart_41 rfl ?_
      refine x_getr (K := 7) (k := 9) (o2 := o1 + 9) C h1 (by decide) cl_X6 (by decide) ⟨rfl, rfl, rfl⟩ fl_X6_45 rfl dX6_takePart_42 ?_
      refine x_iload C 3 dX6_takePart_45 rfl ?_
      refine x_bipush (v := 12) C dX6_takePart_47 (by decide +kernel) ?_
      refine x_imul C dX6_takePart_49 ?_
      refine x_aload_n C 1 dX6_takePart_50 rfl ?_
      refine x_getr (K := 7) (k := 8) (o2 := o1 + 7) C h1 (by decide) cl_X6 (by decide) ⟨rfl, rfl, rfl⟩ fl_X6_42 rfl dX6_takePart_51 ?_
      refine x_iload C 3 dX6_takePart_54 rfl ?_
      refine x_callVi (K := 6) (rm := rmv 0 0 0 0) (As := [iV (x5)]) (rest := [iV (x5 * 12), .ref (d.ad (o1 + 9)), .ref (d.ad (o0))]) C hA hR0 mf_X5_at lk_X6_81 rfl (ik7 h1).2.2.2.1 (by decide) ⟨rfl, rfl⟩ ⟨Nat.le_of_ble_eq_true rfl, Nat.le_of_ble_eq_true rfl⟩ rfl rfl (Nat.le_of_ble_eq_true rfl) hce dX6_takePart_56 hq (fun _ _ h => c_X5_at g.l g.G hdm (ik7 h1).2.2.2.1 h) (fun r2 w1 _ hq => ?_)
      refine x_callVv (K := 7) (rm := rmv 1 22 0 0) (As := [.ref (d.ad (o1 + 9)), iV (x5 * 12), iV (r2)]) (rest := []) C hA hR0 mf_X6_takeWord lk_X6_107 rfl h0 (by decide) ⟨rfl, rfl⟩ ⟨Nat.le_of_ble_eq_true rfl, Nat.le_of_ble_eq_true rfl⟩ rfl rfl (Nat.le_of_ble_eq_true rfl) hce dX6_takePart_59 hq (fun _ h => c_X6_takeWord g.l g.G hdm h0 (ik7 h1).2.2.2.2.1 h) (fun w3 _ hq => ?_)
      refine x_iinc (lv' := [(5, iV (x5 + 1)), (0, .ref (d.ad (o0))), (1, .ref (d.ad (o1))), (4, iV (x4))]) C 3 dX6_takePart_62 rfl (by decide) rfl ?_
      refine x_goto (tgt := 33) C dX6_takePart_65 (by decide) ?_
      refine XG.sub [1, 2, 3, 0] rfl ?_
      exact ih _ _ _ hq
set_option maxRecDepth 100000 in
set_option maxHeartbeats 4000000 in
theorem L_X6_takePart {g : Cx} {d : Dl} (C : CX g cX6_takePart 6 none RX6) (hdm : g.dm = 0) (hA : ∀ q : Nat, g.s.heap.size ≤ q → g.A q) (hR0 : g.R = rmv 2 46 0 0) (hce : d.ce ≤ g.R.cells ∧ d.so ≤ g.R.slots) {res : Wd} (hR : rtV g d cX6_takePart res) {o0 : Nat} {o1 : Nat} (h0 : isK d.na g.dm 7 o0) (h1 : isK d.na g.dm 7 o1) (x2 : Int) (w : Wd) (hq : p_X6_takePart o0 o1 x2 w = some res) : XG g d (hP g d w) [(0, .ref (d.ad (o0))), (1, .ref (d.ad (o1))), (2, iV (x2))] [] 0 := by
  refine x_aload_n C 1 dX6_takePart_0 rfl ?_
  refine x_iload_n C 2 dX6_takePart_1 rfl ?_
  refine x_callVi (K := 7) (rm := rmv 1 21 0 0) (As := [iV (x2)]) (rest := []) C hA hR0 mf_X6_firstOf lk_X6_101 rfl h1 (by decide) ⟨rfl, rfl⟩ ⟨Nat.le_of_ble_eq_true rfl, Nat.le_of_ble_eq_true rfl⟩ rfl rfl (Nat.le_of_ble_eq_true rfl) hce dX6_takePart_2 hq (fun _ _ h => c_X6_firstOf g.l g.G hdm h1 h) (fun r2 w1 _ hq => ?_)
  refine x_istore_n (lv' := [(3, iV (r2)), (0, .ref (d.ad (o0))), (1, .ref (d.ad (o1))), (2, iV (x2))]) C dX6_takePart_5 (by decide) rfl ?_
  refine x_iload_n C 0 dX6_takePart_6 rfl ?_
  refine x_aload_n C 2 dX6_takePart_7 rfl ?_
  refine x_getr (K := 7) (k := 6) (o2 := o1 + 5) C h1 (by decide) cl_X6 (by decide) ⟨rfl, rfl, rfl⟩ fl_X6_36 rfl dX6_takePart_8 ?_
  refine x_iload_n C 3 dX6_takePart_11 rfl ?_
  refine x_callVi (K := 6) (rm := rmv 0 0 0 0) (As := [iV (x2)]) (rest := [iV (r2)]) C hA hR0 mf_X5_at lk_X6_81 rfl (ik7 h1).2.2.1 (by decide) ⟨rfl, rfl⟩ ⟨Nat.le_of_ble_eq_true rfl, Nat.le_of_ble_eq_true rfl⟩ rfl rfl (Nat.le_of_ble_eq_true rfl) hce dX6_takePart_12 hq (fun _ _ h => c_X5_at g.l g.G hdm (ik7 h1).2.2.1 h) (fun r4 w3 _ hq => ?_)
  refine x_iadd C dX6_takePart_15 ?_
  refine x_istore (lv' := [(4, iV (r2 + r4)), (3, iV (r2)), (0, .ref (d.ad (o0))), (1, .ref (d.ad (o1))), (2, iV (x2))]) C dX6_takePart_16 (by decide) rfl ?_
  refine x_aload_n C 2 dX6_takePart_18 rfl ?_
  refine x_aload_n C 3 dX6_takePart_19 rfl ?_
  refine x_getr (K := 7) (k := 5) (o2 := o1 + 3) C h1 (by decide) cl_X6 (by decide) ⟨rfl, rfl, rfl⟩ fl_X6_33 rfl dX6_takePart_20 ?_
  refine x_iload_n C 4 dX6_takePart_23 rfl ?_
  refine x_callVi (K := 6) (rm := rmv 0 0 0 0) (As := [iV (x2)]) (rest := [.ref (d.ad (o0))]) C hA hR0 mf_X5_at lk_X6_81 rfl (ik7 h1).2.1 (by decide) ⟨rfl, rfl⟩ ⟨Nat.le_of_ble_eq_true rfl, Nat.le_of_ble_eq_true rfl⟩ rfl rfl (Nat.le_of_ble_eq_true rfl) hce dX6_takePart_24 hq (fun _ _ h => c_X5_at g.l g.G hdm (ik7 h1).2.1 h) (fun r6 w5 _ hq => ?_)
  refine x_callVv (K := 7) (rm := rmv 1 22 0 0) (As := [iV (r6)]) (rest := []) C hA hR0 mf_X6_openPart lk_X6_104 rfl h0 (by decide) ⟨rfl, rfl⟩ ⟨Nat.le_of_ble_eq_true rfl, Nat.le_of_ble_eq_true rfl⟩ rfl rfl (Nat.le_of_ble_eq_true rfl) hce dX6_takePart_27 hq (fun _ h => c_X6_openPart g.l g.G hdm h0 h) (fun w7 _ hq => ?_)
  refine x_iload_n C 1 dX6_takePart_30 rfl ?_
  refine x_istore (lv' := [(5, iV (r2)), (4, iV (r2 + r4)), (3, iV (r2)), (0, .ref (d.ad (o0))), (1, .ref (d.ad (o1))), (2, iV (x2))]) C dX6_takePart_31 (by decide) rfl ?_
  refine XG.sub [3, 4, 1, 0] rfl ?_
  exact L_X6_takePart_33 C hdm hA hR0 hce hR h0 h1 _ _ _ _ hq
set_option maxRecDepth 100000 in
set_option maxHeartbeats 4000000 in
theorem c_X6_takePart (l : Launch) (G : Gd) {dm na : Nat} {ad : Nat → Nat} (hdm : dm = 0) {o0 : Nat} {o1 : Nat} {x2 : Int} {w w' : Wd}  (h0 : isK na dm 7 o0) (h1 : isK na dm 7 o1) (hq : p_X6_takePart o0 o1 x2 w = some w') : mV l yX6_takePart cX6_takePart 6 none (rmv 2 46 0 0) G dm na ad [.ref (ad (o0)), .ref (ad (o1)), iV (x2)] w w' := by
  refine met_V [(0, .ref (ad (o0))), (1, .ref (ad (o1))), (2, iV (x2))] (by decide) (Nat.le_of_ble_eq_true rfl) rfl rfl (fun g d C S hR => ?_)
  obtain ⟨rfl, hR0, rfl, rfl, rfl, hA⟩ := S
  exact L_X6_takePart (d := (na, ad, 0, 0)) C hdm hA hR0 ⟨Nat.zero_le _, Nat.zero_le _⟩ hR h0 h1 _ w hq
set_option maxRecDepth 100000 in
set_option maxHeartbeats 4000000 in
theorem L_X6_sameWord_23 {g : Cx} {d : Dl} (C : CX g cX6_sameWord 4 (some .boolean) RX6) (hdm : g.dm = 0) (hA : ∀ q : Nat, g.s.heap.size ≤ q → g.A q) (hR0 : g.R = rmv 2 43 0 0) (hce : d.ce ≤ g.R.cells ∧ d.so ≤ g.R.slots) {res : Int × Wd} (hR : rtI g d cX6_sameWord .boolean res) {o0 : Nat} {o1 : Nat} (h0 : isK d.na g.dm 7 o0) (h1 : isK d.na g.dm 7 o1) : ∀ (n : Nat) (x2 : Int) (x3 : Int) (w : Wd), p_X6_sameWord_23 o0 o1 n x2 x3 w = some res → XG g d (hP g d w) [(0, .ref (d.ad (o0))), (1, .ref (d.ad (o1))), (2, iV (x2)), (3, iV (x3))] [] 23 := by
  intro n
  induction n with
  | zero => intro x2 x3 w  hq; exact nomatch (show none = some _ from hq)
  | succ n ih =>
    intro x2 x3 w  hq
    refine x_iload_n C 3 dX6_sameWord_23 rfl ?_
    refine x_aload_n C 0 dX6_sameWord_24 rfl ?_
    refine x_getr (K := 7) (k := 8) (o2 := o0 + 7) C h0 (by decide) cl_X6 (by decide) ⟨rfl, rfl, rfl⟩ fl_X6_42 rfl dX6_sameWord_25 ?_
    refine x_iload_n C 2 dX6_sameWord_28 rfl ?_
    refine x_callVi (K := 6) (rm := rmv 0 0 0 0) (As := [iV (x2)]) (rest := [iV (x3)]) C hA hR0 mf_X5_at lk_X6_81 rfl (ik7 h0).2.2.2.1 (by decide) ⟨rfl, rfl⟩ ⟨Nat.le_of_ble_eq_true rfl, Nat.le_of_ble_eq_true rfl⟩ rfl rfl (Nat.le_of_ble_eq_true rfl) hce dX6_sameWord_29 hq (fun _ _ h => c_X5_at g.l g.G hdm (ik7 h0).2.2.2.1 h) (fun r2 w1 _ hq => ?_)
    refine x_icmp_ge (tgt := 58) C dX6_sameWord_32 (by decide) hq (fun hq => ?_) (fun hq => ?_)
    · refine x_iconst C dX6_sameWord_58 ?_
      exact hR _ _ _ _ hq (by decide +kernel) dX6_sameWord_59
    · refine x_aload_n C 0 dX6_sameWord_35 rfl ?_
      refine x_iload_n C 2 dX6_sameWord_36 rfl ?_
      refine x_iload_n C 3 dX6_sameWord_37 rfl ?_
      refine x_callVi (K := 7) (rm := rmv 1 21 0 0) (As := [iV (x2), iV (x3)]) (rest := []) C hA hR0 mf_X6_byteOf lk_X6_111 rfl h0 (by decide) ⟨rfl, rfl⟩ ⟨Nat.le_of_ble_eq_true rfl, Nat.le_of_ble_eq_true rfl⟩ rfl rfl (Nat.le_of_ble_eq_true rfl) hce dX6_sameWord_38 hq (fun _ _ h => c_X6_byteOf g.l g.G hdm h0 h) (fun r4 w3 _ hq => ?_)
      refine x_aload_n C 1 dX6_sameWord_41 rfl ?_
      refine x_iload_n C 2 dX6_sameWord_42 rfl ?_
      refine x_iload_n C 3 dX6_sameWord_43 rfl ?_
      refine x_callVi (K := 7) (rm := rmv 1 21 0 0) (As := [iV (x2), iV (x3)]) (rest := [iV (r4)]) C hA hR0 mf_X6_byteOf lk_X6_111 rfl h1 (by decide) ⟨rfl, rfl⟩ ⟨Nat.le_of_ble_eq_true rfl, Nat.le_of_ble_eq_true rfl⟩ rfl rfl (Nat.le_of_ble_eq_true rfl) hce dX6_sameWord_44 hq (fun _ _ h => c_X6_byteOf g.l g.G hdm h1 h) (fun r6 w5 _ hq => ?_)
      refine x_icmp_eq (tgt := 52) C dX6_sameWord_47 (by decide) hq (fun hq => ?_) (fun hq => ?_)
      · refine x_iinc (lv' := [(3, iV (x3 + 1)), (0, .ref (d.ad (o0))), (1, .ref (d.ad (o1))), (2, iV (x2))]) C 3 dX6_sameWord_52 rfl (by decide) rfl ?_
        refine x_goto (tgt := 23) C dX6_sameWord_55 (by decide) ?_
        refine XG.sub [1, 2, 3, 0] rfl ?_
        exact ih _ _ _ hq
      · refine x_iconst C dX6_sameWord_50 ?_
        exact hR _ _ _ _ hq (by decide +kernel) dX6_sameWord_51
set_option maxRecDepth 100000 in
set_option maxHeartbeats 4000000 in
theorem L_X6_sameWord {g : Cx} {d : Dl} (C : CX g cX6_sameWord 4 (some .boolean) RX6) (hdm : g.dm = 0) (hA : ∀ q : Nat, g.s.heap.size ≤ q → g.A q) (hR0 : g.R = rmv 2 43 0 0) (hce : d.ce ≤ g.R.cells ∧ d.so ≤ g.R.slots) {res : Int × Wd} (hR : rtI g d cX6_sameWord .boolean res) {o0 : Nat} {o1 : Nat} (h0 : isK d.na g.dm 7 o0) (h1 : isK d.na g.dm 7 o1) (x2 : Int) (w : Wd) (hq : p_X6_sameWord o0 o1 x2 w = some res) : XG g d (hP g d w) [(0, .ref (d.ad (o0))), (1, .ref (d.ad (o1))), (2, iV (x2))] [] 0 := by
  refine x_aload_n C 0 dX6_sameWord_0 rfl ?_
  refine x_getr (K := 7) (k := 8) (o2 := o0 + 7) C h0 (by decide) cl_X6 (by decide) ⟨rfl, rfl, rfl⟩ fl_X6_42 rfl dX6_sameWord_1 ?_
  refine x_iload_n C 2 dX6_sameWord_4 rfl ?_
  refine x_callVi (K := 6) (rm := rmv 0 0 0 0) (As := [iV (x2)]) (rest := []) C hA hR0 mf_X5_at lk_X6_81 rfl (ik7 h0).2.2.2.1 (by decide) ⟨rfl, rfl⟩ ⟨Nat.le_of_ble_eq_true rfl, Nat.le_of_ble_eq_true rfl⟩ rfl rfl (Nat.le_of_ble_eq_true rfl) hce dX6_sameWord_5 hq (fun _ _ h => c_X5_at g.l g.G hdm (ik7 h0).2.2.2.1 h) (fun r2 w1 _ hq => ?_)
  refine x_aload_n C 1 dX6_sameWord_8 rfl ?_
  refine x_getr (K := 7) (k := 8) (o2 := o1 + 7) C h1 (by decide) cl_X6 (by decide) ⟨rfl, rfl, rfl⟩ fl_X6_42 rfl dX6_sameWord_9 ?_
  refine x_iload_n C 2 dX6_sameWord_12 rfl ?_
  refine x_callVi (K := 6) (rm := rmv 0 0 0 0) (As := [iV (x2)]) (rest := [iV (r2)]) C hA hR0 mf_X5_at lk_X6_81 rfl (ik7 h1).2.2.2.1 (by decide) ⟨rfl, rfl⟩ ⟨Nat.le_of_ble_eq_true rfl, Nat.le_of_ble_eq_true rfl⟩ rfl rfl (Nat.le_of_ble_eq_true rfl) hce dX6_sameWord_13 hq (fun _ _ h => c_X5_at g.l g.G hdm (ik7 h1).2.2.2.1 h) (fun r4 w3 _ hq => ?_)
  refine x_icmp_eq (tgt := 21) C dX6_sameWord_16 (by decide) hq (fun hq => ?_) (fun hq => ?_)
  · refine x_iconst C dX6_sameWord_21 ?_
    refine x_istore_n (lv' := [(3, iV (0)), (0, .ref (d.ad (o0))), (1, .ref (d.ad (o1))), (2, iV (x2))]) C dX6_sameWord_22 (by decide) rfl ?_
    refine XG.sub [1, 2, 3, 0] rfl ?_
    exact L_X6_sameWord_23 C hdm hA hR0 hce hR h0 h1 _ _ _ _ hq
  · refine x_iconst C dX6_sameWord_19 ?_
    exact hR _ _ _ _ hq (by decide +kernel) dX6_sameWord_20
set_option maxRecDepth 100000 in
set_option maxHeartbeats 4000000 in
theorem c_X6_sameWord (l : Launch) (G : Gd) {dm na : Nat} {ad : Nat → Nat} (hdm : dm = 0) {o0 : Nat} {o1 : Nat} {x2 : Int} {w w' : Wd} {r : Int} (h0 : isK na dm 7 o0) (h1 : isK na dm 7 o1) (hq : p_X6_sameWord o0 o1 x2 w = some (r, w')) : mI l yX6_sameWord cX6_sameWord 4 (some .boolean) (rmv 2 43 0 0) G dm na ad [.ref (ad (o0)), .ref (ad (o1)), iV (x2)] w r w' := by
  refine met_I [(0, .ref (ad (o0))), (1, .ref (ad (o1))), (2, iV (x2))] (by decide) (Nat.le_of_ble_eq_true rfl) rfl .boolean rfl (fun g d C S hR => ?_)
  obtain ⟨rfl, hR0, rfl, rfl, rfl, hA⟩ := S
  exact L_X6_sameWord (d := (na, ad, 0, 0)) C hdm hA hR0 ⟨Nat.zero_le _, Nat.zero_le _⟩ hR h0 h1 _ w hq
set_option maxRecDepth 100000 in
set_option maxHeartbeats 4000000 in
theorem L_X6_partOf_11 {g : Cx} {d : Dl} (C : CX g cX6_partOf 4 (some .int) RX6) (hdm : g.dm = 0) (hA : ∀ q : Nat, g.s.heap.size ≤ q → g.A q) (hR0 : g.R = rmv 1 21 0 0) (hce : d.ce ≤ g.R.cells ∧ d.so ≤ g.R.slots) {res : Int × Wd} (hR : rtI g d cX6_partOf .int res) {o0 : Nat} (h0 : isK d.na g.dm 7 o0) : ∀ (n : Nat) (x1 : Int) (x2 : Int) (x3 : Int) (w : Wd), p_X6_partOf_11 o0 n x1 x2 x3 w = some res → XG g d (hP g d w) [(0, .ref (d.ad (o0))), (1, iV (x1)), (2, iV (x2)), (3, iV (x3))] [] 11 := by
  intro n
  induction n with
  | zero => intro x1 x2 x3 w  hq; exact nomatch (show none = some _ from hq)
  | succ n ih =>
    intro x1 x2 x3 w  hq
    refine x_iload_n C 2 dX6_partOf_11 rfl ?_
    refine x_aload_n C 0 dX6_partOf_12 rfl ?_
    refine x_get (K := 7) (k := 4) C h0 (by decide) cl_X6 (by decide) ⟨rfl, rfl, rfl⟩ fl_X6_30 dX6_partOf_13 ?_
    refine x_iconst C dX6_partOf_16 ?_
    refine x_isub C dX6_partOf_17 ?_
    refine x_icmp_ge (tgt := 43) C dX6_partOf_18 (by decide) hq (fun hq => ?_) (fun hq => ?_)
    · refine x_iload_n C 2 dX6_partOf_43 rfl ?_
      exact hR _ _ _ _ hq rfl dX6_partOf_44
    · refine x_iload_n C 3 dX6_partOf_21 rfl ?_
      refine x_iload_n C 1 dX6_partOf_22 rfl ?_
      refine x_icmp_gt (tgt := 43) C dX6_partOf_23 (by decide) hq (fun hq => ?_) (fun hq => ?_)
      · refine x_iload_n C 2 dX6_partOf_43 rfl ?_
        exact hR _ _ _ _ hq rfl dX6_partOf_44
      · refine x_iinc (lv' := [(2, iV (x2 + 1)), (0, .ref (d.ad (o0))), (1, iV (x1)), (3, iV (x3))]) C 2 dX6_partOf_26 rfl (by decide) rfl ?_
        refine x_iload_n C 3 dX6_partOf_29 rfl ?_
        refine x_aload_n C 1 dX6_partOf_30 rfl ?_
        refine x_getr (K := 7) (k := 6) (o2 := o0 + 5) C h0 (by decide) cl_X6 (by decide) ⟨rfl, rfl, rfl⟩ fl_X6_36 rfl dX6_partOf_31 ?_
        refine x_iload_n C 0 dX6_partOf_34 rfl ?_
        refine x_callVi (K := 6) (rm := rmv 0 0 0 0) (As := [iV (x2 + 1)]) (rest := [iV (x3)]) C hA hR0 mf_X5_at lk_X6_81 rfl (ik7 h0).2.2.1 (by decide) ⟨rfl, rfl⟩ ⟨Nat.le_of_ble_eq_true rfl, Nat.le_of_ble_eq_true rfl⟩ rfl rfl (Nat.le_of_ble_eq_true rfl) hce dX6_partOf_35 hq (fun _ _ h => c_X5_at g.l g.G hdm (ik7 h0).2.2.1 h) (fun r2 w1 _ hq => ?_)
        refine x_iadd C dX6_partOf_38 ?_
        refine x_istore_n (lv' := [(3, iV (x3 + r2)), (2, iV (x2 + 1)), (0, .ref (d.ad (o0))), (1, iV (x1))]) C dX6_partOf_39 (by decide) rfl ?_
        refine x_goto (tgt := 11) C dX6_partOf_40 (by decide) ?_
        refine XG.sub [2, 3, 1, 0] rfl ?_
        exact ih _ _ _ _ hq
set_option maxRecDepth 100000 in
set_option maxHeartbeats 4000000 in
theorem L_X6_partOf {g : Cx} {d : Dl} (C : CX g cX6_partOf 4 (some .int) RX6) (hdm : g.dm = 0) (hA : ∀ q : Nat, g.s.heap.size ≤ q → g.A q) (hR0 : g.R = rmv 1 21 0 0) (hce : d.ce ≤ g.R.cells ∧ d.so ≤ g.R.slots) {res : Int × Wd} (hR : rtI g d cX6_partOf .int res) {o0 : Nat} (h0 : isK d.na g.dm 7 o0) (x1 : Int) (w : Wd) (hq : p_X6_partOf o0 x1 w = some res) : XG g d (hP g d w) [(0, .ref (d.ad (o0))), (1, iV (x1))] [] 0 := by
  refine x_iconst C dX6_partOf_0 ?_
  refine x_istore_n (lv' := [(2, iV (0)), (0, .ref (d.ad (o0))), (1, iV (x1))]) C dX6_partOf_1 (by decide) rfl ?_
  refine x_aload_n C 1 dX6_partOf_2 rfl ?_
  refine x_getr (K := 7) (k := 6) (o2 := o0 + 5) C h0 (by decide) cl_X6 (by decide) ⟨rfl, rfl, rfl⟩ fl_X6_36 rfl dX6_partOf_3 ?_
  refine x_iconst C dX6_partOf_6 ?_
  refine x_callVi (K := 6) (rm := rmv 0 0 0 0) (As := [iV (0)]) (rest := []) C hA hR0 mf_X5_at lk_X6_81 rfl (ik7 h0).2.2.1 (by decide) ⟨rfl, rfl⟩ ⟨Nat.le_of_ble_eq_true rfl, Nat.le_of_ble_eq_true rfl⟩ rfl rfl (Nat.le_of_ble_eq_true rfl) hce dX6_partOf_7 hq (fun _ _ h => c_X5_at g.l g.G hdm (ik7 h0).2.2.1 h) (fun r2 w1 _ hq => ?_)
  refine x_istore_n (lv' := [(3, iV (r2)), (2, iV (0)), (0, .ref (d.ad (o0))), (1, iV (x1))]) C dX6_partOf_10 (by decide) rfl ?_
  refine XG.sub [2, 3, 1, 0] rfl ?_
  exact L_X6_partOf_11 C hdm hA hR0 hce hR h0 _ _ _ _ _ hq
set_option maxRecDepth 100000 in
set_option maxHeartbeats 4000000 in
theorem c_X6_partOf (l : Launch) (G : Gd) {dm na : Nat} {ad : Nat → Nat} (hdm : dm = 0) {o0 : Nat} {x1 : Int} {w w' : Wd} {r : Int} (h0 : isK na dm 7 o0) (hq : p_X6_partOf o0 x1 w = some (r, w')) : mI l yX6_partOf cX6_partOf 4 (some .int) (rmv 1 21 0 0) G dm na ad [.ref (ad (o0)), iV (x1)] w r w' := by
  refine met_I [(0, .ref (ad (o0))), (1, iV (x1))] (by decide) (Nat.le_of_ble_eq_true rfl) rfl .int rfl (fun g d C S hR => ?_)
  obtain ⟨rfl, hR0, rfl, rfl, rfl, hA⟩ := S
  exact L_X6_partOf (d := (na, ad, 0, 0)) C hdm hA hR0 ⟨Nat.zero_le _, Nat.zero_le _⟩ hR h0 _ w hq
set_option maxRecDepth 100000 in
set_option maxHeartbeats 4000000 in
theorem L_X6_lettersAhead_4 {g : Cx} {d : Dl} (C : CX g cX6_lettersAhead 4 (some .int) RX6) (hdm : g.dm = 0) (hA : ∀ q : Nat, g.s.heap.size ≤ q → g.A q) (hR0 : g.R = rmv 1 21 0 0) (hce : d.ce ≤ g.R.cells ∧ d.so ≤ g.R.slots) {res : Int × Wd} (hR : rtI g d cX6_lettersAhead .int res) {o0 : Nat} (h0 : isK d.na g.dm 7 o0) : ∀ (n : Nat) (x1 : Int) (x2 : Int) (x3 : Int) (w : Wd), p_X6_lettersAhead_4 o0 n x1 x2 x3 w = some res → XG g d (hP g d w) [(0, .ref (d.ad (o0))), (1, iV (x1)), (2, iV (x2)), (3, iV (x3))] [] 4 := by
  intro n
  induction n with
  | zero => intro x1 x2 x3 w  hq; exact nomatch (show none = some _ from hq)
  | succ n ih =>
    intro x1 x2 x3 w  hq
    refine x_iload_n C 3 dX6_lettersAhead_4 rfl ?_
    refine x_iload_n C 1 dX6_lettersAhead_5 rfl ?_
    refine x_icmp_ge (tgt := 26) C dX6_lettersAhead_6 (by decide) hq (fun hq => ?_) (fun hq => ?_)
    · refine x_iload_n C 2 dX6_lettersAhead_26 rfl ?_
      exact hR _ _ _ _ hq rfl dX6_lettersAhead_27
    · refine x_iload_n C 2 dX6_lettersAhead_9 rfl ?_
      refine x_aload_n C 0 dX6_lettersAhead_10 rfl ?_
      refine x_getr (K := 7) (k := 8) (o2 := o0 + 7) C h0 (by decide) cl_X6 (by decide) ⟨rfl, rfl, rfl⟩ fl_X6_42 rfl dX6_lettersAhead_11 ?_
      refine x_iload_n C 3 dX6_lettersAhead_14 rfl ?_
      refine x_callVi (K := 6) (rm := rmv 0 0 0 0) (As := [iV (x3)]) (rest := [iV (x2)]) C hA hR0 mf_X5_at lk_X6_81 rfl (ik7 h0).2.2.2.1 (by decide) ⟨rfl, rfl⟩ ⟨Nat.le_of_ble_eq_true rfl, Nat.le_of_ble_eq_true rfl⟩ rfl rfl (Nat.le_of_ble_eq_true rfl) hce dX6_lettersAhead_15 hq (fun _ _ h => c_X5_at g.l g.G hdm (ik7 h0).2.2.2.1 h) (fun r2 w1 _ hq => ?_)
      refine x_iadd C dX6_lettersAhead_18 ?_
      refine x_istore_n (lv' := [(2, iV (x2 + r2)), (0, .ref (d.ad (o0))), (1, iV (x1)), (3, iV (x3))]) C dX6_lettersAhead_19 (by decide) rfl ?_
      refine x_iinc (lv' := [(3, iV (x3 + 1)), (2, iV (x2 + r2)), (0, .ref (d.ad (o0))), (1, iV (x1))]) C 3 dX6_lettersAhead_20 rfl (by decide) rfl ?_
      refine x_goto (tgt := 4) C dX6_lettersAhead_23 (by decide) ?_
      refine XG.sub [2, 3, 1, 0] rfl ?_
      exact ih _ _ _ _ hq
set_option maxRecDepth 100000 in
set_option maxHeartbeats 4000000 in
theorem L_X6_lettersAhead {g : Cx} {d : Dl} (C : CX g cX6_lettersAhead 4 (some .int) RX6) (hdm : g.dm = 0) (hA : ∀ q : Nat, g.s.heap.size ≤ q → g.A q) (hR0 : g.R = rmv 1 21 0 0) (hce : d.ce ≤ g.R.cells ∧ d.so ≤ g.R.slots) {res : Int × Wd} (hR : rtI g d cX6_lettersAhead .int res) {o0 : Nat} (h0 : isK d.na g.dm 7 o0) (x1 : Int) (w : Wd) (hq : p_X6_lettersAhead o0 x1 w = some res) : XG g d (hP g d w) [(0, .ref (d.ad (o0))), (1, iV (x1))] [] 0 := by
  refine x_iconst C dX6_lettersAhead_0 ?_
  refine x_istore_n (lv' := [(2, iV (0)), (0, .ref (d.ad (o0))), (1, iV (x1))]) C dX6_lettersAhead_1 (by decide) rfl ?_
  refine x_iconst C dX6_lettersAhead_2 ?_
  refine x_istore_n (lv' := [(3, iV (0)), (2, iV (0)), (0, .ref (d.ad (o0))), (1, iV (x1))]) C dX6_lettersAhead_3 (by decide) rfl ?_
  refine XG.sub [2, 3, 1, 0] rfl ?_
  exact L_X6_lettersAhead_4 C hdm hA hR0 hce hR h0 _ _ _ _ _ hq
set_option maxRecDepth 100000 in
set_option maxHeartbeats 4000000 in
theorem c_X6_lettersAhead (l : Launch) (G : Gd) {dm na : Nat} {ad : Nat → Nat} (hdm : dm = 0) {o0 : Nat} {x1 : Int} {w w' : Wd} {r : Int} (h0 : isK na dm 7 o0) (hq : p_X6_lettersAhead o0 x1 w = some (r, w')) : mI l yX6_lettersAhead cX6_lettersAhead 4 (some .int) (rmv 1 21 0 0) G dm na ad [.ref (ad (o0)), iV (x1)] w r w' := by
  refine met_I [(0, .ref (ad (o0))), (1, iV (x1))] (by decide) (Nat.le_of_ble_eq_true rfl) rfl .int rfl (fun g d C S hR => ?_)
  obtain ⟨rfl, hR0, rfl, rfl, rfl, hA⟩ := S
  exact L_X6_lettersAhead (d := (na, ad, 0, 0)) C hdm hA hR0 ⟨Nat.zero_le _, Nat.zero_le _⟩ hR h0 _ w hq
set_option maxRecDepth 100000 in
set_option maxHeartbeats 4000000 in
theorem L_X7_kindOf_14 {g : Cx} {d : Dl} (C : CX g cX7_kindOf 1 (some .int) RX7) (hdm : g.dm = 0) (hA : ∀ q : Nat, g.s.heap.size ≤ q → g.A q) (hR0 : g.R = rmv 0 0 0 0) (hce : d.ce ≤ g.R.cells ∧ d.so ≤ g.R.slots) {res : Int × Wd} (hR : rtI g d cX7_kindOf .int res) (x0 : Int) (w : Wd) (hq : p_X7_kindOf_14 x0 w = some res) : XG g d (hP g d w) [(0, iV (x0))] [] 14 := by
  refine x_iload_n C 0 dX7_kindOf_14 rfl ?_
  refine x_bipush (v := 48) C dX7_kindOf_15 (by decide +kernel) ?_
  refine x_icmp_lt (tgt := 30) C dX7_kindOf_17 (by decide) hq (fun hq => ?_) (fun hq => ?_)
  · refine x_iconst C dX7_kindOf_30 ?_
    exact hR _ _ _ _ hq rfl dX7_kindOf_31
  · refine x_iload_n C 0 dX7_kindOf_20 rfl ?_
    refine x_bipush (v := 57) C dX7_kindOf_21 (by decide +kernel) ?_
    refine x_icmp_gt (tgt := 30) C dX7_kindOf_23 (by decide) hq (fun hq => ?_) (fun hq => ?_)
    · refine x_iconst C dX7_kindOf_30 ?_
      exact hR _ _ _ _ hq rfl dX7_kindOf_31
    · refine x_iconst C dX7_kindOf_26 ?_
      refine x_goto (tgt := 31) C dX7_kindOf_27 (by decide) ?_
      exact hR _ _ _ _ hq rfl dX7_kindOf_31
set_option maxRecDepth 100000 in
set_option maxHeartbeats 4000000 in
theorem L_X7_kindOf {g : Cx} {d : Dl} (C : CX g cX7_kindOf 1 (some .int) RX7) (hdm : g.dm = 0) (hA : ∀ q : Nat, g.s.heap.size ≤ q → g.A q) (hR0 : g.R = rmv 0 0 0 0) (hce : d.ce ≤ g.R.cells ∧ d.so ≤ g.R.slots) {res : Int × Wd} (hR : rtI g d cX7_kindOf .int res) (x0 : Int) (w : Wd) (hq : p_X7_kindOf x0 w = some res) : XG g d (hP g d w) [(0, iV (x0))] [] 0 := by
  refine x_iload_n C 0 dX7_kindOf_0 rfl ?_
  refine x_bipush (v := 97) C dX7_kindOf_1 (by decide +kernel) ?_
  refine x_icmp_lt (tgt := 14) C dX7_kindOf_3 (by decide) hq (fun hq => ?_) (fun hq => ?_)
  · exact L_X7_kindOf_14 C hdm hA hR0 hce hR _ _ hq
  · refine x_iload_n C 0 dX7_kindOf_6 rfl ?_
    refine x_bipush (v := 122) C dX7_kindOf_7 (by decide +kernel) ?_
    refine x_icmp_gt (tgt := 14) C dX7_kindOf_9 (by decide) hq (fun hq => ?_) (fun hq => ?_)
    · exact L_X7_kindOf_14 C hdm hA hR0 hce hR _ _ hq
    · refine x_iconst C dX7_kindOf_12 ?_
      exact hR _ _ _ _ hq rfl dX7_kindOf_13
set_option maxRecDepth 100000 in
set_option maxHeartbeats 4000000 in
theorem c_X7_kindOf (l : Launch) (G : Gd) {dm na : Nat} {ad : Nat → Nat} (hdm : dm = 0) {x0 : Int} {w w' : Wd} {r : Int}  (hq : p_X7_kindOf x0 w = some (r, w')) : mI l yX7_kindOf cX7_kindOf 1 (some .int) (rmv 0 0 0 0) G dm na ad [iV (x0)] w r w' := by
  refine met_I [(0, iV (x0))] (by decide) (Nat.le_of_ble_eq_true rfl) rfl .int rfl (fun g d C S hR => ?_)
  obtain ⟨rfl, hR0, rfl, rfl, rfl, hA⟩ := S
  exact L_X7_kindOf (d := (na, ad, 0, 0)) C hdm hA hR0 ⟨Nat.zero_le _, Nat.zero_le _⟩ hR  _ w hq
set_option maxRecDepth 100000 in
set_option maxHeartbeats 4000000 in
theorem L_X7_step_53 {g : Cx} {d : Dl} (C : CX g cX7_step 2 none RX7) (hdm : g.dm = 0) (hA : ∀ q : Nat, g.s.heap.size ≤ q → g.A q) (hR0 : g.R = rmv 1 21 0 0) (hce : d.ce ≤ g.R.cells ∧ d.so ≤ g.R.slots) {res : Wd} (hR : rtV g d cX7_step res) {k10 : Int → Wd → Option (Wd)} (hk10 : ∀ (x1 : Int) (w : Wd), k10 x1 w = some res → XG g d (hP g d w) [(0, .ref (d.ad (8))), (1, iV (x1))] [] 10) (x1 : Int) (w : Wd) (hq : p_X7_step_53 k10 x1 w = some res) : XG g d (hP g d w) [(0, .ref (d.ad (8))), (1, iV (x1))] [] 53 := by
  refine x_iinc (lv' := [(1, iV (x1 + 1)), (0, .ref (d.ad (8)))]) C 1 dX7_step_53 rfl (by decide) rfl ?_
  refine x_goto (tgt := 10) C dX7_step_56 (by decide) ?_
  refine XG.sub [1, 0] rfl ?_
  exact hk10 _ _ hq
set_option maxRecDepth 100000 in
set_option maxHeartbeats 4000000 in
theorem L_X7_step_153 {g : Cx} {d : Dl} (C : CX g cX7_step 2 none RX7) (hdm : g.dm = 0) (hA : ∀ q : Nat, g.s.heap.size ≤ q → g.A q) (hR0 : g.R = rmv 1 21 0 0) (hce : d.ce ≤ g.R.cells ∧ d.so ≤ g.R.slots) {res : Wd} (hR : rtV g d cX7_step res) (x1 : Int) (w : Wd) (hq : p_X7_step_153 x1 w = some res) : XG g d (hP g d w) [(0, .ref (d.ad (8))), (1, iV (x1))] [] 153 := by
  refine x_aload_n C 0 dX7_step_153 rfl ?_
  refine x_iload_n C 1 dX7_step_154 rfl ?_
  refine x_aload_n C 0 dX7_step_155 rfl ?_
  refine x_get (K := 8) (k := 2) C (isK_lit hdm rfl rfl) (by decide) cl_X7 (by decide) ⟨rfl, rfl, rfl⟩ fl_X7_15 dX7_step_156 ?_
  refine x_isub C dX7_step_159 ?_
  refine x_put (K := 8) (k := 3) C (isK_lit hdm rfl rfl) (by decide) cl_X7 (by decide) ⟨rfl, rfl, rfl, rfl⟩ fl_X7_18 ⟨rfl, rfl⟩ dX7_step_160 ?_
  exact hR _ _ _ hq dX7_step_163
set_option maxRecDepth 100000 in
set_option maxHeartbeats 4000000 in
theorem L_X7_step_107 {g : Cx} {d : Dl} (C : CX g cX7_step 2 none RX7) (hdm : g.dm = 0) (hA : ∀ q : Nat, g.s.heap.size ≤ q → g.A q) (hR0 : g.R = rmv 1 21 0 0) (hce : d.ce ≤ g.R.cells ∧ d.so ≤ g.R.slots) {res : Wd} (hR : rtV g d cX7_step res) : ∀ (n : Nat) (x1 : Int) (w : Wd), p_X7_step_107 n x1 w = some res → XG g d (hP g d w) [(0, .ref (d.ad (8))), (1, iV (x1))] [] 107 := by
  intro n
  induction n with
  | zero => intro x1 w  hq; exact nomatch (show none = some _ from hq)
  | succ n ih =>
    intro x1 w  hq
    refine x_iload_n C 1 dX7_step_107 rfl ?_
    refine x_aload_n C 0 dX7_step_108 rfl ?_
    refine x_getr (K := 8) (k := 0) (o2 := 2) C (isK_lit hdm rfl rfl) (by decide) cl_X7 (by decide) ⟨rfl, rfl, rfl⟩ fl_X7_21 rfl dX7_step_109 ?_
    refine x_get (K := 1) (k := 1) C (isK_lit hdm rfl rfl) (by decide) cl_X0 (by decide) ⟨rfl, rfl, rfl⟩ fl_X7_28 dX7_step_112 ?_
    refine x_icmp_ge (tgt := 153) C dX7_step_115 (by decide) hq (fun hq => ?_) (fun hq => ?_)
    · exact L_X7_step_153 C hdm hA hR0 hce hR _ _ hq
    · refine x_aload_n C 0 dX7_step_118 rfl ?_
      refine x_get (K := 8) (k := 1) C (isK_lit hdm rfl rfl) (by decide) cl_X7 (by decide) ⟨rfl, rfl, rfl⟩ fl_X7_11 dX7_step_119 ?_
      refine x_iconst C dX7_step_122 ?_
      refine x_icmp_eq (tgt := 153) C dX7_step_123 (by decide) hq (fun hq => ?_) (fun hq => ?_)
      · exact L_X7_step_153 C hdm hA hR0 hce hR _ _ hq
      · refine x_aload_n C 0 dX7_step_126 rfl ?_
        refine x_getr (K := 8) (k := 0) (o2 := 2) C (isK_lit hdm rfl rfl) (by decide) cl_X7 (by decide) ⟨rfl, rfl, rfl⟩ fl_X7_21 rfl dX7_step_127 ?_
        refine x_getr (K := 1) (k := 0) (o2 := 3) C (isK_lit hdm rfl rfl) (by decide) cl_X0 (by decide) ⟨rfl, rfl, rfl⟩ fl_X7_31 rfl dX7_step_130 ?_
        refine x_iload_n C 1 dX7_step_133 rfl ?_
        refine x_callVi (K := 6) (rm := rmv 0 0 0 0) (As := [iV (x1)]) (rest := []) C hA hR0 mf_X5_at lk_X7_35 rfl (isK_lit hdm rfl rfl) (by decide) ⟨rfl, rfl⟩ ⟨Nat.le_of_ble_eq_true rfl, Nat.le_of_ble_eq_true rfl⟩ rfl rfl (Nat.le_of_ble_eq_true rfl) hce dX7_step_134 hq (fun _ _ h => c_X5_at g.l g.G hdm (isK_lit hdm rfl rfl) h) (fun r2 w1 _ hq => ?_)
        refine x_callSi (rm := rmv 0 0 0 0) (As := [iV (r2)]) (rest := []) C hA hR0 mf_X7_kindOf lk_X7_41 ⟨rfl, rfl⟩ ⟨Nat.le_of_ble_eq_true rfl, Nat.le_of_ble_eq_true rfl⟩ rfl rfl (Nat.le_of_ble_eq_true rfl) hce dX7_step_137 hq (fun _ _ h => c_X7_kindOf g.l g.G hdm  h) (fun r4 w3 _ hq => ?_)
        refine x_aload_n C 0 dX7_step_140 rfl ?_
        refine x_get (K := 8) (k := 1) C (isK_lit hdm rfl rfl) (by decide) cl_X7 (by decide) ⟨rfl, rfl, rfl⟩ fl_X7_11 dX7_step_141 ?_
        refine x_icmp_ne (tgt := 153) C dX7_step_144 (by decide) hq (fun hq => ?_) (fun hq => ?_)
        · exact L_X7_step_153 C hdm hA hR0 hce hR _ _ hq
        · refine x_iinc (lv' := [(1, iV (x1 + 1)), (0, .ref (d.ad (8)))]) C 1 dX7_step_147 rfl (by decide) rfl ?_
          refine x_goto (tgt := 107) C dX7_step_150 (by decide) ?_
          refine XG.sub [1, 0] rfl ?_
          exact ih _ _ hq
set_option maxRecDepth 100000 in
set_option maxHeartbeats 4000000 in
theorem L_X7_step_59 {g : Cx} {d : Dl} (C : CX g cX7_step 2 none RX7) (hdm : g.dm = 0) (hA : ∀ q : Nat, g.s.heap.size ≤ q → g.A q) (hR0 : g.R = rmv 1 21 0 0) (hce : d.ce ≤ g.R.cells ∧ d.so ≤ g.R.slots) {res : Wd} (hR : rtV g d cX7_step res) (x1 : Int) (w : Wd) (hq : p_X7_step_59 x1 w = some res) : XG g d (hP g d w) [(0, .ref (d.ad (8))), (1, iV (x1))] [] 59 := by
  refine x_aload_n C 0 dX7_step_59 rfl ?_
  refine x_iload_n C 1 dX7_step_60 rfl ?_
  refine x_put (K := 8) (k := 2) C (isK_lit hdm rfl rfl) (by decide) cl_X7 (by decide) ⟨rfl, rfl, rfl, rfl⟩ fl_X7_15 ⟨rfl, rfl⟩ dX7_step_61 ?_
  refine x_iload_n C 1 dX7_step_64 rfl ?_
  refine x_aload_n C 0 dX7_step_65 rfl ?_
  refine x_getr (K := 8) (k := 0) (o2 := 2) C (isK_lit hdm rfl rfl) (by decide) cl_X7 (by decide) ⟨rfl, rfl, rfl⟩ fl_X7_21 rfl dX7_step_66 ?_
  refine x_get (K := 1) (k := 1) C (isK_lit hdm rfl rfl) (by decide) cl_X0 (by decide) ⟨rfl, rfl, rfl⟩ fl_X7_28 dX7_step_69 ?_
  refine x_icmp_lt (tgt := 86) C dX7_step_72 (by decide) hq (fun hq => ?_) (fun hq => ?_)
  · refine x_aload_n C 0 dX7_step_86 rfl ?_
    refine x_aload_n C 0 dX7_step_87 rfl ?_
    refine x_getr (K := 8) (k := 0) (o2 := 2) C (isK_lit hdm rfl rfl) (by decide) cl_X7 (by decide) ⟨rfl, rfl, rfl⟩ fl_X7_21 rfl dX7_step_88 ?_
    refine x_getr (K := 1) (k := 0) (o2 := 3) C (isK_lit hdm rfl rfl) (by decide) cl_X0 (by decide) ⟨rfl, rfl, rfl⟩ fl_X7_31 rfl dX7_step_91 ?_
    refine x_iload_n C 1 dX7_step_94 rfl ?_
    refine x_callVi (K := 6) (rm := rmv 0 0 0 0) (As := [iV (x1)]) (rest := [.ref (d.ad (8))]) C hA hR0 mf_X5_at lk_X7_35 rfl (isK_lit hdm rfl rfl) (by decide) ⟨rfl, rfl⟩ ⟨Nat.le_of_ble_eq_true rfl, Nat.le_of_ble_eq_true rfl⟩ rfl rfl (Nat.le_of_ble_eq_true rfl) hce dX7_step_95 hq (fun _ _ h => c_X5_at g.l g.G hdm (isK_lit hdm rfl rfl) h) (fun r2 w1 _ hq => ?_)
    refine x_callSi (rm := rmv 0 0 0 0) (As := [iV (r2)]) (rest := [.ref (d.ad (8))]) C hA hR0 mf_X7_kindOf lk_X7_41 ⟨rfl, rfl⟩ ⟨Nat.le_of_ble_eq_true rfl, Nat.le_of_ble_eq_true rfl⟩ rfl rfl (Nat.le_of_ble_eq_true rfl) hce dX7_step_98 hq (fun _ _ h => c_X7_kindOf g.l g.G hdm  h) (fun r4 w3 _ hq => ?_)
    refine x_put (K := 8) (k := 1) C (isK_lit hdm rfl rfl) (by decide) cl_X7 (by decide) ⟨rfl, rfl, rfl, rfl⟩ fl_X7_11 ⟨rfl, rfl⟩ dX7_step_101 ?_
    refine x_iinc (lv' := [(1, iV (x1 + 1)), (0, .ref (d.ad (8)))]) C 1 dX7_step_104 rfl (by decide) rfl ?_
    refine XG.sub [1, 0] rfl ?_
    exact L_X7_step_107 C hdm hA hR0 hce hR _ _ _ hq
  · refine x_aload_n C 0 dX7_step_75 rfl ?_
    refine x_iconst C dX7_step_76 ?_
    refine x_put (K := 8) (k := 1) C (isK_lit hdm rfl rfl) (by decide) cl_X7 (by decide) ⟨rfl, rfl, rfl, rfl⟩ fl_X7_11 ⟨rfl, rfl⟩ dX7_step_77 ?_
    refine nmW hq (fun w5 ew5 hq => ?_)
    rw [← ew5]
    refine x_aload_n C 0 dX7_step_80 rfl ?_
    refine x_iconst C dX7_step_81 ?_
    refine x_put (K := 8) (k := 3) C (isK_lit hdm rfl rfl) (by decide) cl_X7 (by decide) ⟨rfl, rfl, rfl, rfl⟩ fl_X7_18 ⟨rfl, rfl⟩ dX7_step_82 ?_
    exact hR _ _ _ hq dX7_step_85
set_option maxRecDepth 100000 in
set_option maxHeartbeats 4000000 in
theorem L_X7_step_10 {g : Cx} {d : Dl} (C : CX g cX7_step 2 none RX7) (hdm : g.dm = 0) (hA : ∀ q : Nat, g.s.heap.size ≤ q → g.A q) (hR0 : g.R = rmv 1 21 0 0) (hce : d.ce ≤ g.R.cells ∧ d.so ≤ g.R.slots) {res : Wd} (hR : rtV g d cX7_step res) : ∀ (n : Nat) (x1 : Int) (w : Wd), p_X7_step_10 n x1 w = some res → XG g d (hP g d w) [(0, .ref (d.ad (8))), (1, iV (x1))] [] 10 := by
  intro n
  induction n with
  | zero => intro x1 w  hq; exact nomatch (show none = some _ from hq)
  | succ n ih =>
    intro x1 w  hq
    refine x_iload_n C 1 dX7_step_10 rfl ?_
    refine x_aload_n C 0 dX7_step_11 rfl ?_
    refine x_getr (K := 8) (k := 0) (o2 := 2) C (isK_lit hdm rfl rfl) (by decide) cl_X7 (by decide) ⟨rfl, rfl, rfl⟩ fl_X7_21 rfl dX7_step_12 ?_
    refine x_get (K := 1) (k := 1) C (isK_lit hdm rfl rfl) (by decide) cl_X0 (by decide) ⟨rfl, rfl, rfl⟩ fl_X7_28 dX7_step_15 ?_
    refine x_icmp_ge (tgt := 59) C dX7_step_18 (by decide) hq (fun hq => ?_) (fun hq => ?_)
    · exact L_X7_step_59 C hdm hA hR0 hce hR _ _ hq
    · refine x_aload_n C 0 dX7_step_21 rfl ?_
      refine x_getr (K := 8) (k := 0) (o2 := 2) C (isK_lit hdm rfl rfl) (by decide) cl_X7 (by decide) ⟨rfl, rfl, rfl⟩ fl_X7_21 rfl dX7_step_22 ?_
      refine x_getr (K := 1) (k := 0) (o2 := 3) C (isK_lit hdm rfl rfl) (by decide) cl_X0 (by decide) ⟨rfl, rfl, rfl⟩ fl_X7_31 rfl dX7_step_25 ?_
      refine x_iload_n C 1 dX7_step_28 rfl ?_
      refine x_callVi (K := 6) (rm := rmv 0 0 0 0) (As := [iV (x1)]) (rest := []) C hA hR0 mf_X5_at lk_X7_35 rfl (isK_lit hdm rfl rfl) (by decide) ⟨rfl, rfl⟩ ⟨Nat.le_of_ble_eq_true rfl, Nat.le_of_ble_eq_true rfl⟩ rfl rfl (Nat.le_of_ble_eq_true rfl) hce dX7_step_29 hq (fun _ _ h => c_X5_at g.l g.G hdm (isK_lit hdm rfl rfl) h) (fun r2 w1 _ hq => ?_)
      refine x_bipush (v := 32) C dX7_step_32 (by decide +kernel) ?_
      refine x_icmp_eq (tgt := 53) C dX7_step_34 (by decide) hq (fun hq => ?_) (fun hq => ?_)
      · exact L_X7_step_53 C hdm hA hR0 hce hR ih _ _ hq
      · refine x_aload_n C 0 dX7_step_37 rfl ?_
        refine x_getr (K := 8) (k := 0) (o2 := 2) C (isK_lit hdm rfl rfl) (by decide) cl_X7 (by decide) ⟨rfl, rfl, rfl⟩ fl_X7_21 rfl dX7_step_38 ?_
        refine x_getr (K := 1) (k := 0) (o2 := 3) C (isK_lit hdm rfl rfl) (by decide) cl_X0 (by decide) ⟨rfl, rfl, rfl⟩ fl_X7_31 rfl dX7_step_41 ?_
        refine x_iload_n C 1 dX7_step_44 rfl ?_
        refine x_callVi (K := 6) (rm := rmv 0 0 0 0) (As := [iV (x1)]) (rest := []) C hA hR0 mf_X5_at lk_X7_35 rfl (isK_lit hdm rfl rfl) (by decide) ⟨rfl, rfl⟩ ⟨Nat.le_of_ble_eq_true rfl, Nat.le_of_ble_eq_true rfl⟩ rfl rfl (Nat.le_of_ble_eq_true rfl) hce dX7_step_45 hq (fun _ _ h => c_X5_at g.l g.G hdm (isK_lit hdm rfl rfl) h) (fun r4 w3 _ hq => ?_)
        refine x_bipush (v := 10) C dX7_step_48 (by decide +kernel) ?_
        refine x_icmp_ne (tgt := 59) C dX7_step_50 (by decide) hq (fun hq => ?_) (fun hq => ?_)
        · exact L_X7_step_59 C hdm hA hR0 hce hR _ _ hq
        · exact L_X7_step_53 C hdm hA hR0 hce hR ih _ _ hq
set_option maxRecDepth 100000 in
set_option maxHeartbeats 4000000 in
theorem L_X7_step {g : Cx} {d : Dl} (C : CX g cX7_step 2 none RX7) (hdm : g.dm = 0) (hA : ∀ q : Nat, g.s.heap.size ≤ q → g.A q) (hR0 : g.R = rmv 1 21 0 0) (hce : d.ce ≤ g.R.cells ∧ d.so ≤ g.R.slots) {res : Wd} (hR : rtV g d cX7_step res)  (w : Wd) (hq : p_X7_step  w = some res) : XG g d (hP g d w) [(0, .ref (d.ad (8)))] [] 0 := by
  refine x_aload_n C 0 dX7_step_0 rfl ?_
  refine x_get (K := 8) (k := 2) C (isK_lit hdm rfl rfl) (by decide) cl_X7 (by decide) ⟨rfl, rfl, rfl⟩ fl_X7_15 dX7_step_1 ?_
  refine x_aload_n C 0 dX7_step_4 rfl ?_
  refine x_get (K := 8) (k := 3) C (isK_lit hdm rfl rfl) (by decide) cl_X7 (by decide) ⟨rfl, rfl, rfl⟩ fl_X7_18 dX7_step_5 ?_
  refine x_iadd C dX7_step_8 ?_
  refine x_istore_n (lv' := [(1, iV ((gF w 8 2) + (gF w 8 3))), (0, .ref (d.ad (8)))]) C dX7_step_9 (by decide) rfl ?_
  refine XG.sub [1, 0] rfl ?_
  exact L_X7_step_10 C hdm hA hR0 hce hR _ _ _ hq
set_option maxRecDepth 100000 in
set_option maxHeartbeats 4000000 in
theorem c_X7_step (l : Launch) (G : Gd) {dm na : Nat} {ad : Nat → Nat} (hdm : dm = 0)  {w w' : Wd}   (hq : p_X7_step  w = some w') : mV l yX7_step cX7_step 2 none (rmv 1 21 0 0) G dm na ad [.ref (ad (8))] w w' := by
  refine met_V [(0, .ref (ad (8)))] (by decide) (Nat.le_of_ble_eq_true rfl) rfl rfl (fun g d C S hR => ?_)
  obtain ⟨rfl, hR0, rfl, rfl, rfl, hA⟩ := S
  exact L_X7_step (d := (na, ad, 0, 0)) C hdm hA hR0 ⟨Nat.zero_le _, Nat.zero_le _⟩ hR   w hq
set_option maxRecDepth 100000 in
set_option maxHeartbeats 4000000 in
theorem L_X7_restart {g : Cx} {d : Dl} (C : CX g cX7_restart 1 none RX7) (hdm : g.dm = 0) (hA : ∀ q : Nat, g.s.heap.size ≤ q → g.A q) (hR0 : g.R = rmv 2 42 0 0) (hce : d.ce ≤ g.R.cells ∧ d.so ≤ g.R.slots) {res : Wd} (hR : rtV g d cX7_restart res)  (w : Wd) (hq : p_X7_restart  w = some res) : XG g d (hP g d w) [(0, .ref (d.ad (8)))] [] 0 := by
  refine x_aload_n C 0 dX7_restart_0 rfl ?_
  refine x_iconst C dX7_restart_1 ?_
  refine x_put (K := 8) (k := 2) C (isK_lit hdm rfl rfl) (by decide) cl_X7 (by decide) ⟨rfl, rfl, rfl, rfl⟩ fl_X7_15 ⟨rfl, rfl⟩ dX7_restart_2 ?_
  refine x_aload_n C 0 dX7_restart_5 rfl ?_
  refine x_iconst C dX7_restart_6 ?_
  refine x_put (K := 8) (k := 3) C (isK_lit hdm rfl rfl) (by decide) cl_X7 (by decide) ⟨rfl, rfl, rfl, rfl⟩ fl_X7_18 ⟨rfl, rfl⟩ dX7_restart_7 ?_
  refine nmW hq (fun w1 ew1 hq => ?_)
  rw [← ew1]
  refine x_aload_n C 0 dX7_restart_10 rfl ?_
  refine x_callVv (K := 8) (rm := rmv 1 21 0 0) (As := []) (rest := []) C hA hR0 mf_X7_step lk_X7_25 rfl (isK_lit hdm rfl rfl) (by decide) ⟨rfl, rfl⟩ ⟨Nat.le_of_ble_eq_true rfl, Nat.le_of_ble_eq_true rfl⟩ rfl rfl (Nat.le_of_ble_eq_true rfl) hce dX7_restart_11 hq (fun _ h => c_X7_step g.l g.G hdm  h) (fun w2 _ hq => ?_)
  exact hR _ _ _ hq dX7_restart_14
set_option maxRecDepth 100000 in
set_option maxHeartbeats 4000000 in
theorem c_X7_restart (l : Launch) (G : Gd) {dm na : Nat} {ad : Nat → Nat} (hdm : dm = 0)  {w w' : Wd}   (hq : p_X7_restart  w = some w') : mV l yX7_restart cX7_restart 1 none (rmv 2 42 0 0) G dm na ad [.ref (ad (8))] w w' := by
  refine met_V [(0, .ref (ad (8)))] (by decide) (Nat.le_of_ble_eq_true rfl) rfl rfl (fun g d C S hR => ?_)
  obtain ⟨rfl, hR0, rfl, rfl, rfl, hA⟩ := S
  exact L_X7_restart (d := (na, ad, 0, 0)) C hdm hA hR0 ⟨Nat.zero_le _, Nat.zero_le _⟩ hR   w hq
set_option maxRecDepth 100000 in
set_option maxHeartbeats 4000000 in
theorem L_X7_isPlainWord_16 {g : Cx} {d : Dl} (C : CX g cX7_isPlainWord 1 (some .boolean) RX7) (hdm : g.dm = 0) (hA : ∀ q : Nat, g.s.heap.size ≤ q → g.A q) (hR0 : g.R = rmv 0 0 0 0) (hce : d.ce ≤ g.R.cells ∧ d.so ≤ g.R.slots) {res : Int × Wd} (hR : rtI g d cX7_isPlainWord .boolean res)  (w : Wd) (hq : p_X7_isPlainWord_16 w = some res) : XG g d (hP g d w) [(0, .ref (d.ad (8)))] [] 16 := by
  refine x_aload_n C 0 dX7_isPlainWord_16 rfl ?_
  refine x_get (K := 8) (k := 3) C (isK_lit hdm rfl rfl) (by decide) cl_X7 (by decide) ⟨rfl, rfl, rfl⟩ fl_X7_18 dX7_isPlainWord_17 ?_
  refine x_bipush (v := 12) C dX7_isPlainWord_20 (by decide +kernel) ?_
  refine x_icmp_gt (tgt := 29) C dX7_isPlainWord_22 (by decide) hq (fun hq => ?_) (fun hq => ?_)
  · refine x_iconst C dX7_isPlainWord_29 ?_
    exact hR _ _ _ _ hq (by decide +kernel) dX7_isPlainWord_30
  · refine x_iconst C dX7_isPlainWord_25 ?_
    refine x_goto (tgt := 30) C dX7_isPlainWord_26 (by decide) ?_
    exact hR _ _ _ _ hq (by decide +kernel) dX7_isPlainWord_30
set_option maxRecDepth 100000 in
set_option maxHeartbeats 4000000 in
theorem L_X7_isPlainWord {g : Cx} {d : Dl} (C : CX g cX7_isPlainWord 1 (some .boolean) RX7) (hdm : g.dm = 0) (hA : ∀ q : Nat, g.s.heap.size ≤ q → g.A q) (hR0 : g.R = rmv 0 0 0 0) (hce : d.ce ≤ g.R.cells ∧ d.so ≤ g.R.slots) {res : Int × Wd} (hR : rtI g d cX7_isPlainWord .boolean res)  (w : Wd) (hq : p_X7_isPlainWord  w = some res) : XG g d (hP g d w) [(0, .ref (d.ad (8)))] [] 0 := by
  refine x_aload_n C 0 dX7_isPlainWord_0 rfl ?_
  refine x_get (K := 8) (k := 1) C (isK_lit hdm rfl rfl) (by decide) cl_X7 (by decide) ⟨rfl, rfl, rfl⟩ fl_X7_11 dX7_isPlainWord_1 ?_
  refine x_iconst C dX7_isPlainWord_4 ?_
  refine x_icmp_eq (tgt := 16) C dX7_isPlainWord_5 (by decide) hq (fun hq => ?_) (fun hq => ?_)
  · exact L_X7_isPlainWord_16 C hdm hA hR0 hce hR _ hq
  · refine x_aload_n C 0 dX7_isPlainWord_8 rfl ?_
    refine x_get (K := 8) (k := 1) C (isK_lit hdm rfl rfl) (by decide) cl_X7 (by decide) ⟨rfl, rfl, rfl⟩ fl_X7_11 dX7_isPlainWord_9 ?_
    refine x_iconst C dX7_isPlainWord_12 ?_
    refine x_icmp_ne (tgt := 29) C dX7_isPlainWord_13 (by decide) hq (fun hq => ?_) (fun hq => ?_)
    · refine x_iconst C dX7_isPlainWord_29 ?_
      exact hR _ _ _ _ hq (by decide +kernel) dX7_isPlainWord_30
    · exact L_X7_isPlainWord_16 C hdm hA hR0 hce hR _ hq
set_option maxRecDepth 100000 in
set_option maxHeartbeats 4000000 in
theorem c_X7_isPlainWord (l : Launch) (G : Gd) {dm na : Nat} {ad : Nat → Nat} (hdm : dm = 0)  {w w' : Wd} {r : Int}  (hq : p_X7_isPlainWord  w = some (r, w')) : mI l yX7_isPlainWord cX7_isPlainWord 1 (some .boolean) (rmv 0 0 0 0) G dm na ad [.ref (ad (8))] w r w' := by
  refine met_I [(0, .ref (ad (8)))] (by decide) (Nat.le_of_ble_eq_true rfl) rfl .boolean rfl (fun g d C S hR => ?_)
  obtain ⟨rfl, hR0, rfl, rfl, rfl, hA⟩ := S
  exact L_X7_isPlainWord (d := (na, ad, 0, 0)) C hdm hA hR0 ⟨Nat.zero_le _, Nat.zero_le _⟩ hR   w hq
set_option maxRecDepth 100000 in
set_option maxHeartbeats 4000000 in
theorem L_X7_value_4 {g : Cx} {d : Dl} (C : CX g cX7_value 3 (some .int) RX7) (hdm : g.dm = 0) (hA : ∀ q : Nat, g.s.heap.size ≤ q → g.A q) (hR0 : g.R = rmv 1 21 0 0) (hce : d.ce ≤ g.R.cells ∧ d.so ≤ g.R.slots) {res : Int × Wd} (hR : rtI g d cX7_value .int res) : ∀ (n : Nat) (x1 : Int) (x2 : Int) (w : Wd), p_X7_value_4 n x1 x2 w = some res → XG g d (hP g d w) [(0, .ref (d.ad (8))), (1, iV (x1)), (2, iV (x2))] [] 4 := by
  intro n
  induction n with
  | zero => intro x1 x2 w  hq; exact nomatch (show none = some _ from hq)
  | succ n ih =>
    intro x1 x2 w  hq
    refine x_iload_n C 2 dX7_value_4 rfl ?_
    refine x_aload_n C 0 dX7_value_5 rfl ?_
    refine x_get (K := 8) (k := 3) C (isK_lit hdm rfl rfl) (by decide) cl_X7 (by decide) ⟨rfl, rfl, rfl⟩ fl_X7_18 dX7_value_6 ?_
    refine x_icmp_ge (tgt := 49) C dX7_value_9 (by decide) hq (fun hq => ?_) (fun hq => ?_)
    · refine x_iload_n C 1 dX7_value_49 rfl ?_
      exact hR _ _ _ _ hq rfl dX7_value_50
    · refine x_iload_n C 1 dX7_value_12 rfl ?_
      refine x_bipush (v := 10) C dX7_value_13 (by decide +kernel) ?_
      refine x_imul C dX7_value_15 ?_
      refine x_aload_n C 0 dX7_value_16 rfl ?_
      refine x_getr (K := 8) (k := 0) (o2 := 2) C (isK_lit hdm rfl rfl) (by decide) cl_X7 (by decide) ⟨rfl, rfl, rfl⟩ fl_X7_21 rfl dX7_value_17 ?_
      refine x_getr (K := 1) (k := 0) (o2 := 3) C (isK_lit hdm rfl rfl) (by decide) cl_X0 (by decide) ⟨rfl, rfl, rfl⟩ fl_X7_31 rfl dX7_value_20 ?_
      refine x_aload_n C 0 dX7_value_23 rfl ?_
      refine x_get (K := 8) (k := 2) C (isK_lit hdm rfl rfl) (by decide) cl_X7 (by decide) ⟨rfl, rfl, rfl⟩ fl_X7_15 dX7_value_24 ?_
      refine x_iload_n C 2 dX7_value_27 rfl ?_
      refine x_iadd C dX7_value_28 ?_
      refine x_callVi (K := 6) (rm := rmv 0 0 0 0) (As := [iV ((gF w 8 2) + x2)]) (rest := [iV (x1 * 10)]) C hA hR0 mf_X5_at lk_X7_35 rfl (isK_lit hdm rfl rfl) (by decide) ⟨rfl, rfl⟩ ⟨Nat.le_of_ble_eq_true rfl, Nat.le_of_ble_eq_true rfl⟩ rfl rfl (Nat.le_of_ble_eq_true rfl) hce dX7_value_29 hq (fun _ _ h => c_X5_at g.l g.G hdm (isK_lit hdm rfl rfl) h) (fun r2 w1 _ hq => ?_)
      refine x_iadd C dX7_value_32 ?_
      refine x_bipush (v := 48) C dX7_value_33 (by decide +kernel) ?_
      refine x_isub C dX7_value_35 ?_
      refine x_sipush (v := 10000) C dX7_value_36 (by decide +kernel) ?_
      refine x_min C hR0 lk_X7_53 jm_min_s jm_i jm_min_c ⟨Nat.le_of_ble_eq_true rfl, Nat.le_of_ble_eq_true rfl⟩ hce dX7_value_39 ?_
      refine x_istore_n (lv' := [(1, iV (mn32 (((x1 * 10) + r2) - 48) 10000)), (0, .ref (d.ad (8))), (2, iV (x2))]) C dX7_value_42 (by decide) rfl ?_
      refine x_iinc (lv' := [(2, iV (x2 + 1)), (1, iV (mn32 (((x1 * 10) + r2) - 48) 10000)), (0, .ref (d.ad (8)))]) C 2 dX7_value_43 rfl (by decide) rfl ?_
      refine x_goto (tgt := 4) C dX7_value_46 (by decide) ?_
      refine XG.sub [2, 1, 0] rfl ?_
      exact ih _ _ _ hq
set_option maxRecDepth 100000 in
set_option maxHeartbeats 4000000 in
theorem L_X7_value {g : Cx} {d : Dl} (C : CX g cX7_value 3 (some .int) RX7) (hdm : g.dm = 0) (hA : ∀ q : Nat, g.s.heap.size ≤ q → g.A q) (hR0 : g.R = rmv 1 21 0 0) (hce : d.ce ≤ g.R.cells ∧ d.so ≤ g.R.slots) {res : Int × Wd} (hR : rtI g d cX7_value .int res)  (w : Wd) (hq : p_X7_value  w = some res) : XG g d (hP g d w) [(0, .ref (d.ad (8)))] [] 0 := by
  refine x_iconst C dX7_value_0 ?_
  refine x_istore_n (lv' := [(1, iV (0)), (0, .ref (d.ad (8)))]) C dX7_value_1 (by decide) rfl ?_
  refine x_iconst C dX7_value_2 ?_
  refine x_istore_n (lv' := [(2, iV (0)), (1, iV (0)), (0, .ref (d.ad (8)))]) C dX7_value_3 (by decide) rfl ?_
  refine XG.sub [2, 1, 0] rfl ?_
  exact L_X7_value_4 C hdm hA hR0 hce hR _ _ _ _ hq
set_option maxRecDepth 100000 in
set_option maxHeartbeats 4000000 in
theorem c_X7_value (l : Launch) (G : Gd) {dm na : Nat} {ad : Nat → Nat} (hdm : dm = 0)  {w w' : Wd} {r : Int}  (hq : p_X7_value  w = some (r, w')) : mI l yX7_value cX7_value 3 (some .int) (rmv 1 21 0 0) G dm na ad [.ref (ad (8))] w r w' := by
  refine met_I [(0, .ref (ad (8)))] (by decide) (Nat.le_of_ble_eq_true rfl) rfl .int rfl (fun g d C S hR => ?_)
  obtain ⟨rfl, hR0, rfl, rfl, rfl, hA⟩ := S
  exact L_X7_value (d := (na, ad, 0, 0)) C hdm hA hR0 ⟨Nat.zero_le _, Nat.zero_le _⟩ hR   w hq
