set_option maxRecDepth 100000 in
set_option maxHeartbeats 4000000 in
theorem L_X9_thrown {g : Cx} {d : Dl} (C : CX g cX9_thrown 1 (some .int) RX9) (hdm : g.dm = 1) (hA : ∀ q : Nat, g.s.heap.size ≤ q → g.A q) (hR0 : g.R = rmv 0 0 0 0) (hce : d.ce ≤ g.R.cells ∧ d.so ≤ g.R.slots) {res : Int × Wd} (hR : rtI g d cX9_thrown .int res)  (w : Wd) (hq : p_X9_thrown  w = some res) : XG g d (hP g d w) [(0, .ref (d.ad (50)))] [] 0 := by
  refine x_aload_n C 0 dX9_thrown_0 rfl ?_
  refine x_get (K := 10) (k := 0) C (isK_lit hdm rfl rfl) (by decide) cl_X9 (by decide) ⟨rfl, rfl, rfl⟩ fl_X9_3 dX9_thrown_1 ?_
  exact hR _ _ _ _ hq rfl dX9_thrown_4
set_option maxRecDepth 100000 in
set_option maxHeartbeats 4000000 in
theorem c_X9_thrown (l : Launch) (G : Gd) {dm na : Nat} {ad : Nat → Nat} (hdm : dm = 1)  {w w' : Wd} {r : Int}  (hq : p_X9_thrown  w = some (r, w')) : mI l yX9_thrown cX9_thrown 1 (some .int) (rmv 0 0 0 0) G dm na ad [.ref (ad (50))] w r w' := by
  refine met_I [(0, .ref (ad (50)))] (by decide) (Nat.le_of_ble_eq_true rfl) rfl .int rfl (fun g d C S hR => ?_)
  obtain ⟨rfl, hR0, rfl, rfl, rfl, hA⟩ := S
  exact L_X9_thrown (d := (na, ad, 0, 0)) C hdm hA hR0 ⟨Nat.zero_le _, Nat.zero_le _⟩ hR   w hq
set_option maxRecDepth 100000 in
set_option maxHeartbeats 4000000 in
theorem L_X9_in {g : Cx} {d : Dl} (C : CX g cX9_in 6 (some .boolean) RX9) (hdm : g.dm = 1) (hA : ∀ q : Nat, g.s.heap.size ≤ q → g.A q) (hR0 : g.R = rmv 0 0 0 0) (hce : d.ce ≤ g.R.cells ∧ d.so ≤ g.R.slots) {res : Int × Wd} (hR : rtI g d cX9_in .boolean res) (x0 : Int) (x2 : Int) (x4 : Int) (w : Wd) (hq : p_X9_in x0 x2 x4 w = some res) : XG g d (hP g d w) [(0, jV (x0)), (2, jV (x2)), (4, jV (x4))] [] 0 := by
  refine x_lload_n C 0 dX9_in_0 rfl ?_
  refine x_lload_n C 1 dX9_in_1 rfl ?_
  refine x_lcmp C dX9_in_2 ?_
  refine x_if_lt (tgt := 17) C dX9_in_3 (by decide) hq (fun hq => ?_) (fun hq => ?_)
  · refine x_iconst C dX9_in_17 ?_
    exact hR _ _ _ _ hq (by decide +kernel) dX9_in_18
  · refine x_lload_n C 0 dX9_in_6 rfl ?_
    refine x_lload C 2 dX9_in_7 rfl ?_
    refine x_lcmp C dX9_in_9 ?_
    refine x_if_gt (tgt := 17) C dX9_in_10 (by decide) hq (fun hq => ?_) (fun hq => ?_)
    · refine x_iconst C dX9_in_17 ?_
      exact hR _ _ _ _ hq (by decide +kernel) dX9_in_18
    · refine x_iconst C dX9_in_13 ?_
      refine x_goto (tgt := 18) C dX9_in_14 (by decide) ?_
      exact hR _ _ _ _ hq (by decide +kernel) dX9_in_18
set_option maxRecDepth 100000 in
set_option maxHeartbeats 4000000 in
theorem c_X9_in (l : Launch) (G : Gd) {dm na : Nat} {ad : Nat → Nat} (hdm : dm = 1) {x0 : Int} {x2 : Int} {x4 : Int} {w w' : Wd} {r : Int}  (hq : p_X9_in x0 x2 x4 w = some (r, w')) : mI l yX9_in cX9_in 6 (some .boolean) (rmv 0 0 0 0) G dm na ad [jV (x0), jV (x2), jV (x4)] w r w' := by
  refine met_I [(0, jV (x0)), (2, jV (x2)), (4, jV (x4))] (by decide) (Nat.le_of_ble_eq_true rfl) rfl .boolean rfl (fun g d C S hR => ?_)
  obtain ⟨rfl, hR0, rfl, rfl, rfl, hA⟩ := S
  exact L_X9_in (d := (na, ad, 0, 0)) C hdm hA hR0 ⟨Nat.zero_le _, Nat.zero_le _⟩ hR  _ _ _ w hq
set_option maxRecDepth 100000 in
set_option maxHeartbeats 4000000 in
theorem L_X9_passes3_26 {g : Cx} {d : Dl} (C : CX g cX9_passes3 4 (some .boolean) RX9) (hdm : g.dm = 1) (hA : ∀ q : Nat, g.s.heap.size ≤ q → g.A q) (hR0 : g.R = rmv 0 0 0 0) (hce : d.ce ≤ g.R.cells ∧ d.so ≤ g.R.slots) {res : Int × Wd} (hR : rtI g d cX9_passes3 .boolean res) (s0 : Int) (w : Wd) (hq : p_X9_passes3_26 s0 w = some res) : XG g d (hP g d w) [(0, .ref (d.ad (50)))] [iV (s0), .ref (d.ad (50))] 26 := by
  refine x_put (K := 10) (k := 0) C (isK_lit hdm rfl rfl) (by decide) cl_X9 (by decide) ⟨rfl, rfl, rfl, rfl⟩ fl_X9_3 ⟨rfl, rfl⟩ dX9_passes3_26 ?_
  refine x_aload_n C 0 dX9_passes3_29 rfl ?_
  refine x_get (K := 10) (k := 0) C (isK_lit hdm rfl rfl) (by decide) cl_X9 (by decide) ⟨rfl, rfl, rfl⟩ fl_X9_3 dX9_passes3_30 ?_
  refine x_if_ne (tgt := 40) C dX9_passes3_33 (by decide) hq (fun hq => ?_) (fun hq => ?_)
  · refine x_iconst C dX9_passes3_40 ?_
    exact hR _ _ _ _ hq (by decide +kernel) dX9_passes3_41
  · refine x_iconst C dX9_passes3_36 ?_
    refine x_goto (tgt := 41) C dX9_passes3_37 (by decide) ?_
    exact hR _ _ _ _ hq (by decide +kernel) dX9_passes3_41
set_option maxRecDepth 100000 in
set_option maxHeartbeats 4000000 in
theorem L_X9_passes3 {g : Cx} {d : Dl} (C : CX g cX9_passes3 4 (some .boolean) RX9) (hdm : g.dm = 1) (hA : ∀ q : Nat, g.s.heap.size ≤ q → g.A q) (hR0 : g.R = rmv 0 0 0 0) (hce : d.ce ≤ g.R.cells ∧ d.so ≤ g.R.slots) {res : Int × Wd} (hR : rtI g d cX9_passes3 .boolean res) (x1 : Int) (x2 : Int) (x3 : Int) (w : Wd) (hq : p_X9_passes3 x1 x2 x3 w = some res) : XG g d (hP g d w) [(0, .ref (d.ad (50))), (1, iV (x1)), (2, iV (x2)), (3, iV (x3))] [] 0 := by
  refine x_aload_n C 0 dX9_passes3_0 rfl ?_
  refine x_iload_n C 1 dX9_passes3_1 rfl ?_
  refine x_if_ne (tgt := 9) C dX9_passes3_2 (by decide) hq (fun hq => ?_) (fun hq => ?_)
  · refine x_iload_n C 2 dX9_passes3_9 rfl ?_
    refine x_if_ne (tgt := 17) C dX9_passes3_10 (by decide) hq (fun hq => ?_) (fun hq => ?_)
    · refine x_iload_n C 3 dX9_passes3_17 rfl ?_
      refine x_if_ne (tgt := 25) C dX9_passes3_18 (by decide) hq (fun hq => ?_) (fun hq => ?_)
      · refine x_iconst C dX9_passes3_25 ?_
        refine XG.sub [0] rfl ?_
        exact L_X9_passes3_26 C hdm hA hR0 hce hR _ _ hq
      · refine x_iconst C dX9_passes3_21 ?_
        refine x_goto (tgt := 26) C dX9_passes3_22 (by decide) ?_
        refine XG.sub [0] rfl ?_
        exact L_X9_passes3_26 C hdm hA hR0 hce hR _ _ hq
    · refine x_iconst C dX9_passes3_13 ?_
      refine x_goto (tgt := 26) C dX9_passes3_14 (by decide) ?_
      refine XG.sub [0] rfl ?_
      exact L_X9_passes3_26 C hdm hA hR0 hce hR _ _ hq
  · refine x_iconst C dX9_passes3_5 ?_
    refine x_goto (tgt := 26) C dX9_passes3_6 (by decide) ?_
    refine XG.sub [0] rfl ?_
    exact L_X9_passes3_26 C hdm hA hR0 hce hR _ _ hq
set_option maxRecDepth 100000 in
set_option maxHeartbeats 4000000 in
theorem c_X9_passes3 (l : Launch) (G : Gd) {dm na : Nat} {ad : Nat → Nat} (hdm : dm = 1) {x1 : Int} {x2 : Int} {x3 : Int} {w w' : Wd} {r : Int}  (hq : p_X9_passes3 x1 x2 x3 w = some (r, w')) : mI l yX9_passes3 cX9_passes3 4 (some .boolean) (rmv 0 0 0 0) G dm na ad [.ref (ad (50)), iV (x1), iV (x2), iV (x3)] w r w' := by
  refine met_I [(0, .ref (ad (50))), (1, iV (x1)), (2, iV (x2)), (3, iV (x3))] (by decide) (Nat.le_of_ble_eq_true rfl) rfl .boolean rfl (fun g d C S hR => ?_)
  obtain ⟨rfl, hR0, rfl, rfl, rfl, hA⟩ := S
  exact L_X9_passes3 (d := (na, ad, 0, 0)) C hdm hA hR0 ⟨Nat.zero_le _, Nat.zero_le _⟩ hR  _ _ _ w hq
set_option maxRecDepth 100000 in
set_option maxHeartbeats 4000000 in
theorem L_X9_passes2 {g : Cx} {d : Dl} (C : CX g cX9_passes2 3 (some .boolean) RX9) (hdm : g.dm = 1) (hA : ∀ q : Nat, g.s.heap.size ≤ q → g.A q) (hR0 : g.R = rmv 1 23 0 0) (hce : d.ce ≤ g.R.cells ∧ d.so ≤ g.R.slots) {res : Int × Wd} (hR : rtI g d cX9_passes2 .boolean res) (x1 : Int) (x2 : Int) (w : Wd) (hq : p_X9_passes2 x1 x2 w = some res) : XG g d (hP g d w) [(0, .ref (d.ad (50))), (1, iV (x1)), (2, iV (x2))] [] 0 := by
  refine x_aload_n C 0 dX9_passes2_0 rfl ?_
  refine x_iload_n C 1 dX9_passes2_1 rfl ?_
  refine x_iload_n C 2 dX9_passes2_2 rfl ?_
  refine x_iconst C dX9_passes2_3 ?_
  refine x_callVi (K := 10) (rm := rmv 0 0 0 0) (As := [iV (x1), iV (x2), iV (1)]) (rest := []) C hA hR0 mf_X9_passes3 lk_X9_7 rfl (isK_lit hdm rfl rfl) (by decide) ⟨rfl, rfl⟩ ⟨Nat.le_of_ble_eq_true rfl, Nat.le_of_ble_eq_true rfl⟩ rfl rfl (Nat.le_of_ble_eq_true rfl) hce dX9_passes2_4 hq (fun _ _ h => c_X9_passes3 g.l g.G hdm  h) (fun r2 w1 _ hq => ?_)
  exact hR _ _ _ _ (zr_2 hq) (zr_1 hq) dX9_passes2_7
set_option maxRecDepth 100000 in
set_option maxHeartbeats 4000000 in
theorem c_X9_passes2 (l : Launch) (G : Gd) {dm na : Nat} {ad : Nat → Nat} (hdm : dm = 1) {x1 : Int} {x2 : Int} {w w' : Wd} {r : Int}  (hq : p_X9_passes2 x1 x2 w = some (r, w')) : mI l yX9_passes2 cX9_passes2 3 (some .boolean) (rmv 1 23 0 0) G dm na ad [.ref (ad (50)), iV (x1), iV (x2)] w r w' := by
  refine met_I [(0, .ref (ad (50))), (1, iV (x1)), (2, iV (x2))] (by decide) (Nat.le_of_ble_eq_true rfl) rfl .boolean rfl (fun g d C S hR => ?_)
  obtain ⟨rfl, hR0, rfl, rfl, rfl, hA⟩ := S
  exact L_X9_passes2 (d := (na, ad, 0, 0)) C hdm hA hR0 ⟨Nat.zero_le _, Nat.zero_le _⟩ hR  _ _ w hq
set_option maxRecDepth 100000 in
set_option maxHeartbeats 4000000 in
theorem L_X9_passes {g : Cx} {d : Dl} (C : CX g cX9_passes 2 (some .boolean) RX9) (hdm : g.dm = 1) (hA : ∀ q : Nat, g.s.heap.size ≤ q → g.A q) (hR0 : g.R = rmv 1 23 0 0) (hce : d.ce ≤ g.R.cells ∧ d.so ≤ g.R.slots) {res : Int × Wd} (hR : rtI g d cX9_passes .boolean res) (x1 : Int) (w : Wd) (hq : p_X9_passes x1 w = some res) : XG g d (hP g d w) [(0, .ref (d.ad (50))), (1, iV (x1))] [] 0 := by
  refine x_aload_n C 0 dX9_passes_0 rfl ?_
  refine x_iload_n C 1 dX9_passes_1 rfl ?_
  refine x_iconst C dX9_passes_2 ?_
  refine x_iconst C dX9_passes_3 ?_
  refine x_callVi (K := 10) (rm := rmv 0 0 0 0) (As := [iV (x1), iV (1), iV (1)]) (rest := []) C hA hR0 mf_X9_passes3 lk_X9_7 rfl (isK_lit hdm rfl rfl) (by decide) ⟨rfl, rfl⟩ ⟨Nat.le_of_ble_eq_true rfl, Nat.le_of_ble_eq_true rfl⟩ rfl rfl (Nat.le_of_ble_eq_true rfl) hce dX9_passes_4 hq (fun _ _ h => c_X9_passes3 g.l g.G hdm  h) (fun r2 w1 _ hq => ?_)
  exact hR _ _ _ _ (zr_2 hq) (zr_1 hq) dX9_passes_7
set_option maxRecDepth 100000 in
set_option maxHeartbeats 4000000 in
theorem c_X9_passes (l : Launch) (G : Gd) {dm na : Nat} {ad : Nat → Nat} (hdm : dm = 1) {x1 : Int} {w w' : Wd} {r : Int}  (hq : p_X9_passes x1 w = some (r, w')) : mI l yX9_passes cX9_passes 2 (some .boolean) (rmv 1 23 0 0) G dm na ad [.ref (ad (50)), iV (x1)] w r w' := by
  refine met_I [(0, .ref (ad (50))), (1, iV (x1))] (by decide) (Nat.le_of_ble_eq_true rfl) rfl .boolean rfl (fun g d C S hR => ?_)
  obtain ⟨rfl, hR0, rfl, rfl, rfl, hA⟩ := S
  exact L_X9_passes (d := (na, ad, 0, 0)) C hdm hA hR0 ⟨Nat.zero_le _, Nat.zero_le _⟩ hR  _ w hq
set_option maxRecDepth 100000 in
set_option maxHeartbeats 4000000 in
theorem L_X9_layPlain_22 {g : Cx} {d : Dl} (C : CX g cX9_layPlain 2 none RX9) (hdm : g.dm = 1) (hA : ∀ q : Nat, g.s.heap.size ≤ q → g.A q) (hR0 : g.R = rmv 0 0 0 0) (hce : d.ce ≤ g.R.cells ∧ d.so ≤ g.R.slots) {res : Wd} (hR : rtV g d cX9_layPlain res)  (w : Wd) (hq : p_X9_layPlain_22 w = some res) : XG g d (hP g d w) [(0, .ref (d.ad (50)))] [] 22 := by
  refine x_aload_n C 0 dX9_layPlain_22 rfl ?_
  refine x_getrow C hdm cl_X9 rfl ⟨rfl, rfl, rfl⟩ fl_X9_24 dX9_layPlain_23 (fun q1 => ?_)
  refine x_iconst C dX9_layPlain_26 ?_
  refine x_bipush (v := 10) C dX9_layPlain_27 (by decide +kernel) ?_
  refine inb_2 hq (fun hi hq => ?_)
  refine x_iast C (okR_K hdm q1) (by rw [okR_ln q1]; exact hi) dX9_layPlain_29 ?_
  refine x_aload_n C 0 dX9_layPlain_30 rfl ?_
  refine x_getrow C hdm cl_X9 rfl ⟨rfl, rfl, rfl⟩ fl_X9_24 dX9_layPlain_31 (fun q2 => ?_)
  refine x_iconst C dX9_layPlain_34 ?_
  refine x_iconst C dX9_layPlain_35 ?_
  refine inb_2 hq (fun hi hq => ?_)
  refine x_iast C (okR_K hdm q2) (by rw [okR_ln q2]; exact hi) dX9_layPlain_36 ?_
  refine nmW hq (fun w3 ew3 hq => ?_)
  rw [← ew3]
  refine x_aload_n C 0 dX9_layPlain_37 rfl ?_
  refine x_getrow C hdm cl_X9 rfl ⟨rfl, rfl, rfl⟩ fl_X9_24 dX9_layPlain_38 (fun q4 => ?_)
  refine x_iconst C dX9_layPlain_41 ?_
  refine x_bipush (v := 100) C dX9_layPlain_42 (by decide +kernel) ?_
  refine inb_2 hq (fun hi hq => ?_)
  refine x_iast C (okR_K hdm q4) (by rw [okR_ln q4]; exact hi) dX9_layPlain_44 ?_
  refine x_aload_n C 0 dX9_layPlain_45 rfl ?_
  refine x_getrow C hdm cl_X9 rfl ⟨rfl, rfl, rfl⟩ fl_X9_24 dX9_layPlain_46 (fun q5 => ?_)
  refine x_iconst C dX9_layPlain_49 ?_
  refine x_bipush (v := 10) C dX9_layPlain_50 (by decide +kernel) ?_
  refine inb_2 hq (fun hi hq => ?_)
  refine x_iast C (okR_K hdm q5) (by rw [okR_ln q5]; exact hi) dX9_layPlain_52 ?_
  refine nmW hq (fun w6 ew6 hq => ?_)
  rw [← ew6]
  refine x_aload_n C 0 dX9_layPlain_53 rfl ?_
  refine x_getrow C hdm cl_X9 rfl ⟨rfl, rfl, rfl⟩ fl_X9_24 dX9_layPlain_54 (fun q7 => ?_)
  refine x_iconst C dX9_layPlain_57 ?_
  refine x_bipush (v := 100) C dX9_layPlain_58 (by decide +kernel) ?_
  refine inb_2 hq (fun hi hq => ?_)
  refine x_iast C (okR_K hdm q7) (by rw [okR_ln q7]; exact hi) dX9_layPlain_60 ?_
  exact hR _ _ _ hq dX9_layPlain_61
set_option maxRecDepth 100000 in
set_option maxHeartbeats 4000000 in
theorem L_X9_layPlain_2 {g : Cx} {d : Dl} (C : CX g cX9_layPlain 2 none RX9) (hdm : g.dm = 1) (hA : ∀ q : Nat, g.s.heap.size ≤ q → g.A q) (hR0 : g.R = rmv 0 0 0 0) (hce : d.ce ≤ g.R.cells ∧ d.so ≤ g.R.slots) {res : Wd} (hR : rtV g d cX9_layPlain res) : ∀ (n : Nat) (x1 : Int) (w : Wd), p_X9_layPlain_2 n x1 w = some res → XG g d (hP g d w) [(0, .ref (d.ad (50))), (1, iV (x1))] [] 2 := by
  intro n
  induction n with
  | zero => intro x1 w  hq; exact nomatch (show none = some _ from hq)
  | succ n ih =>
    intro x1 w  hq
    refine x_iload_n C 1 dX9_layPlain_2 rfl ?_
    refine x_sipush (v := 1099) C dX9_layPlain_3 (by decide +kernel) ?_
    refine x_icmp_ge (tgt := 22) C dX9_layPlain_6 (by decide) hq (fun hq => ?_) (fun hq => ?_)
    · refine XG.sub [0] rfl ?_
      exact L_X9_layPlain_22 C hdm hA hR0 hce hR _ hq
    · refine x_aload_n C 0 dX9_layPlain_9 rfl ?_
      refine x_getrow C hdm cl_X9 rfl ⟨rfl, rfl, rfl⟩ fl_X9_24 dX9_layPlain_10 (fun q1 => ?_)
      refine x_iload_n C 1 dX9_layPlain_13 rfl ?_
      refine x_iconst C dX9_layPlain_14 ?_
      refine inb_2 hq (fun hi hq => ?_)
      refine x_iast C (okR_K hdm q1) (by rw [okR_ln q1]; exact hi) dX9_layPlain_15 ?_
      refine x_iinc (lv' := [(1, iV (x1 + 1)), (0, .ref (d.ad (50)))]) C 1 dX9_layPlain_16 rfl (by decide) rfl ?_
      refine x_goto (tgt := 2) C dX9_layPlain_19 (by decide) ?_
      refine XG.sub [1, 0] rfl ?_
      exact ih _ _ hq
set_option maxRecDepth 100000 in
set_option maxHeartbeats 4000000 in
theorem L_X9_layPlain {g : Cx} {d : Dl} (C : CX g cX9_layPlain 2 none RX9) (hdm : g.dm = 1) (hA : ∀ q : Nat, g.s.heap.size ≤ q → g.A q) (hR0 : g.R = rmv 0 0 0 0) (hce : d.ce ≤ g.R.cells ∧ d.so ≤ g.R.slots) {res : Wd} (hR : rtV g d cX9_layPlain res)  (w : Wd) (hq : p_X9_layPlain  w = some res) : XG g d (hP g d w) [(0, .ref (d.ad (50)))] [] 0 := by
  refine x_iconst C dX9_layPlain_0 ?_
  refine x_istore_n (lv' := [(1, iV (0)), (0, .ref (d.ad (50)))]) C dX9_layPlain_1 (by decide) rfl ?_
  refine XG.sub [1, 0] rfl ?_
  exact L_X9_layPlain_2 C hdm hA hR0 hce hR _ _ _ hq
set_option maxRecDepth 100000 in
set_option maxHeartbeats 4000000 in
theorem c_X9_layPlain (l : Launch) (G : Gd) {dm na : Nat} {ad : Nat → Nat} (hdm : dm = 1)  {w w' : Wd}   (hq : p_X9_layPlain  w = some w') : mV l yX9_layPlain cX9_layPlain 2 none (rmv 0 0 0 0) G dm na ad [.ref (ad (50))] w w' := by
  refine met_V [(0, .ref (ad (50)))] (by decide) (Nat.le_of_ble_eq_true rfl) rfl rfl (fun g d C S hR => ?_)
  obtain ⟨rfl, hR0, rfl, rfl, rfl, hA⟩ := S
  exact L_X9_layPlain (d := (na, ad, 0, 0)) C hdm hA hR0 ⟨Nat.zero_le _, Nat.zero_le _⟩ hR   w hq
set_option maxRecDepth 100000 in
set_option maxHeartbeats 4000000 in
theorem L_X9_wide {g : Cx} {d : Dl} (C : CX g cX9_wide 1 (some .int) RX9) (hdm : g.dm = 1) (hA : ∀ q : Nat, g.s.heap.size ≤ q → g.A q) (hR0 : g.R = rmv 0 0 0 0) (hce : d.ce ≤ g.R.cells ∧ d.so ≤ g.R.slots) {res : Int × Wd} (hR : rtI g d cX9_wide .int res)  (w : Wd) (hq : p_X9_wide  w = some res) : XG g d (hP g d w) [(0, .ref (d.ad (50)))] [] 0 := by
  refine x_aload_n C 0 dX9_wide_0 rfl ?_
  refine x_getrow C hdm cl_X9 rfl ⟨rfl, rfl, rfl⟩ fl_X9_24 dX9_wide_1 (fun q1 => ?_)
  refine x_iconst C dX9_wide_4 ?_
  refine inb_2 hq (fun hi hq => ?_)
  refine x_iald C (okR_K hdm q1) (by rw [okR_ln q1]; exact hi) dX9_wide_5 ?_
  exact hR _ _ _ _ hq rfl dX9_wide_6
set_option maxRecDepth 100000 in
set_option maxHeartbeats 4000000 in
theorem c_X9_wide (l : Launch) (G : Gd) {dm na : Nat} {ad : Nat → Nat} (hdm : dm = 1)  {w w' : Wd} {r : Int}  (hq : p_X9_wide  w = some (r, w')) : mI l yX9_wide cX9_wide 1 (some .int) (rmv 0 0 0 0) G dm na ad [.ref (ad (50))] w r w' := by
  refine met_I [(0, .ref (ad (50)))] (by decide) (Nat.le_of_ble_eq_true rfl) rfl .int rfl (fun g d C S hR => ?_)
  obtain ⟨rfl, hR0, rfl, rfl, rfl, hA⟩ := S
  exact L_X9_wide (d := (na, ad, 0, 0)) C hdm hA hR0 ⟨Nat.zero_le _, Nat.zero_le _⟩ hR   w hq
set_option maxRecDepth 100000 in
set_option maxHeartbeats 4000000 in
theorem L_X9_high {g : Cx} {d : Dl} (C : CX g cX9_high 1 (some .int) RX9) (hdm : g.dm = 1) (hA : ∀ q : Nat, g.s.heap.size ≤ q → g.A q) (hR0 : g.R = rmv 0 0 0 0) (hce : d.ce ≤ g.R.cells ∧ d.so ≤ g.R.slots) {res : Int × Wd} (hR : rtI g d cX9_high .int res)  (w : Wd) (hq : p_X9_high  w = some res) : XG g d (hP g d w) [(0, .ref (d.ad (50)))] [] 0 := by
  refine x_aload_n C 0 dX9_high_0 rfl ?_
  refine x_getrow C hdm cl_X9 rfl ⟨rfl, rfl, rfl⟩ fl_X9_24 dX9_high_1 (fun q1 => ?_)
  refine x_iconst C dX9_high_4 ?_
  refine inb_2 hq (fun hi hq => ?_)
  refine x_iald C (okR_K hdm q1) (by rw [okR_ln q1]; exact hi) dX9_high_5 ?_
  exact hR _ _ _ _ hq rfl dX9_high_6
set_option maxRecDepth 100000 in
set_option maxHeartbeats 4000000 in
theorem c_X9_high (l : Launch) (G : Gd) {dm na : Nat} {ad : Nat → Nat} (hdm : dm = 1)  {w w' : Wd} {r : Int}  (hq : p_X9_high  w = some (r, w')) : mI l yX9_high cX9_high 1 (some .int) (rmv 0 0 0 0) G dm na ad [.ref (ad (50))] w r w' := by
  refine met_I [(0, .ref (ad (50)))] (by decide) (Nat.le_of_ble_eq_true rfl) rfl .int rfl (fun g d C S hR => ?_)
  obtain ⟨rfl, hR0, rfl, rfl, rfl, hA⟩ := S
  exact L_X9_high (d := (na, ad, 0, 0)) C hdm hA hR0 ⟨Nat.zero_le _, Nat.zero_le _⟩ hR   w hq
set_option maxRecDepth 100000 in
set_option maxHeartbeats 4000000 in
theorem L_X9_isCell {g : Cx} {d : Dl} (C : CX g cX9_isCell 3 (some .boolean) RX9) (hdm : g.dm = 1) (hA : ∀ q : Nat, g.s.heap.size ≤ q → g.A q) (hR0 : g.R = rmv 1 25 0 0) (hce : d.ce ≤ g.R.cells ∧ d.so ≤ g.R.slots) {res : Int × Wd} (hR : rtI g d cX9_isCell .boolean res) (x1 : Int) (x2 : Int) (w : Wd) (hq : p_X9_isCell x1 x2 w = some res) : XG g d (hP g d w) [(0, .ref (d.ad (50))), (1, iV (x1)), (2, iV (x2))] [] 0 := by
  refine x_iload_n C 1 dX9_isCell_0 rfl ?_
  refine x_i2l C dX9_isCell_1 ?_
  refine x_lconst C dX9_isCell_2 ?_
  refine x_aload_n C 0 dX9_isCell_3 rfl ?_
  refine x_callVi (K := 10) (rm := rmv 0 0 0 0) (As := []) (rest := [jV (0), jV (w32 x1)]) C hA hR0 mf_X9_wide lk_X9_71 rfl (isK_lit hdm rfl rfl) (by decide) ⟨rfl, rfl⟩ ⟨Nat.le_of_ble_eq_true rfl, Nat.le_of_ble_eq_true rfl⟩ rfl rfl (Nat.le_of_ble_eq_true rfl) hce dX9_isCell_4 hq (fun _ _ h => c_X9_wide g.l g.G hdm  h) (fun r2 w1 _ hq => ?_)
  refine x_iconst C dX9_isCell_7 ?_
  refine x_isub C dX9_isCell_8 ?_
  refine x_i2l C dX9_isCell_9 ?_
  refine x_callSi (rm := rmv 0 0 0 0) (As := [jV (w32 x1), jV (0), jV (w32 (r2 - 1))]) (rest := []) C hA hR0 mf_X9_in lk_X9_75 ⟨rfl, rfl⟩ ⟨Nat.le_of_ble_eq_true rfl, Nat.le_of_ble_eq_true rfl⟩ rfl rfl (Nat.le_of_ble_eq_true rfl) hce dX9_isCell_10 hq (fun _ _ h => c_X9_in g.l g.G hdm  h) (fun r4 w3 _ hq => ?_)
  refine x_if_eq (tgt := 36) C dX9_isCell_13 (by decide) hq (fun hq => ?_) (fun hq => ?_)
  · refine x_iconst C dX9_isCell_36 ?_
    exact hR _ _ _ _ hq (by decide +kernel) dX9_isCell_37
  · refine x_iload_n C 2 dX9_isCell_16 rfl ?_
    refine x_i2l C dX9_isCell_17 ?_
    refine x_lconst C dX9_isCell_18 ?_
    refine x_aload_n C 0 dX9_isCell_19 rfl ?_
    refine x_callVi (K := 10) (rm := rmv 0 0 0 0) (As := []) (rest := [jV (0), jV (w32 x2)]) C hA hR0 mf_X9_high lk_X9_79 rfl (isK_lit hdm rfl rfl) (by decide) ⟨rfl, rfl⟩ ⟨Nat.le_of_ble_eq_true rfl, Nat.le_of_ble_eq_true rfl⟩ rfl rfl (Nat.le_of_ble_eq_true rfl) hce dX9_isCell_20 hq (fun _ _ h => c_X9_high g.l g.G hdm  h) (fun r6 w5 _ hq => ?_)
    refine x_iconst C dX9_isCell_23 ?_
    refine x_isub C dX9_isCell_24 ?_
    refine x_i2l C dX9_isCell_25 ?_
    refine x_callSi (rm := rmv 0 0 0 0) (As := [jV (w32 x2), jV (0), jV (w32 (r6 - 1))]) (rest := []) C hA hR0 mf_X9_in lk_X9_75 ⟨rfl, rfl⟩ ⟨Nat.le_of_ble_eq_true rfl, Nat.le_of_ble_eq_true rfl⟩ rfl rfl (Nat.le_of_ble_eq_true rfl) hce dX9_isCell_26 hq (fun _ _ h => c_X9_in g.l g.G hdm  h) (fun r8 w7 _ hq => ?_)
    refine x_if_eq (tgt := 36) C dX9_isCell_29 (by decide) hq (fun hq => ?_) (fun hq => ?_)
    · refine x_iconst C dX9_isCell_36 ?_
      exact hR _ _ _ _ hq (by decide +kernel) dX9_isCell_37
    · refine x_iconst C dX9_isCell_32 ?_
      refine x_goto (tgt := 37) C dX9_isCell_33 (by decide) ?_
      exact hR _ _ _ _ hq (by decide +kernel) dX9_isCell_37
set_option maxRecDepth 100000 in
set_option maxHeartbeats 4000000 in
theorem c_X9_isCell (l : Launch) (G : Gd) {dm na : Nat} {ad : Nat → Nat} (hdm : dm = 1) {x1 : Int} {x2 : Int} {w w' : Wd} {r : Int}  (hq : p_X9_isCell x1 x2 w = some (r, w')) : mI l yX9_isCell cX9_isCell 3 (some .boolean) (rmv 1 25 0 0) G dm na ad [.ref (ad (50)), iV (x1), iV (x2)] w r w' := by
  refine met_I [(0, .ref (ad (50))), (1, iV (x1)), (2, iV (x2))] (by decide) (Nat.le_of_ble_eq_true rfl) rfl .boolean rfl (fun g d C S hR => ?_)
  obtain ⟨rfl, hR0, rfl, rfl, rfl, hA⟩ := S
  exact L_X9_isCell (d := (na, ad, 0, 0)) C hdm hA hR0 ⟨Nat.zero_le _, Nat.zero_le _⟩ hR  _ _ w hq
set_option maxRecDepth 100000 in
set_option maxHeartbeats 4000000 in
theorem L_X9_hasFlaw {g : Cx} {d : Dl} (C : CX g cX9_hasFlaw 3 (some .boolean) RX9) (hdm : g.dm = 1) (hA : ∀ q : Nat, g.s.heap.size ≤ q → g.A q) (hR0 : g.R = rmv 2 47 0 0) (hce : d.ce ≤ g.R.cells ∧ d.so ≤ g.R.slots) {res : Int × Wd} (hR : rtI g d cX9_hasFlaw .boolean res) (x1 : Int) (x2 : Int) (w : Wd) (hq : p_X9_hasFlaw x1 x2 w = some res) : XG g d (hP g d w) [(0, .ref (d.ad (50))), (1, iV (x1)), (2, iV (x2))] [] 0 := by
  refine x_aload_n C 0 dX9_hasFlaw_0 rfl ?_
  refine x_iload_n C 1 dX9_hasFlaw_1 rfl ?_
  refine x_iload_n C 2 dX9_hasFlaw_2 rfl ?_
  refine x_callVi (K := 10) (rm := rmv 1 25 0 0) (As := [iV (x1), iV (x2)]) (rest := []) C hA hR0 mf_X9_isCell lk_X9_82 rfl (isK_lit hdm rfl rfl) (by decide) ⟨rfl, rfl⟩ ⟨Nat.le_of_ble_eq_true rfl, Nat.le_of_ble_eq_true rfl⟩ rfl rfl (Nat.le_of_ble_eq_true rfl) hce dX9_hasFlaw_3 hq (fun _ _ h => c_X9_isCell g.l g.G hdm  h) (fun r2 w1 _ hq => ?_)
  refine x_if_eq (tgt := 31) C dX9_hasFlaw_6 (by decide) hq (fun hq => ?_) (fun hq => ?_)
  · refine x_iconst C dX9_hasFlaw_31 ?_
    exact hR _ _ _ _ hq (by decide +kernel) dX9_hasFlaw_32
  · refine x_aload_n C 0 dX9_hasFlaw_9 rfl ?_
    refine x_getrow C hdm cl_X9 rfl ⟨rfl, rfl, rfl⟩ fl_X9_24 dX9_hasFlaw_10 (fun q3 => ?_)
    refine x_bipush (v := 11) C dX9_hasFlaw_13 (by decide +kernel) ?_
    refine x_bipush (v := 24) C dX9_hasFlaw_15 (by decide +kernel) ?_
    refine x_iload_n C 2 dX9_hasFlaw_17 rfl ?_
    refine x_imul C dX9_hasFlaw_18 ?_
    refine x_iadd C dX9_hasFlaw_19 ?_
    refine x_iload_n C 1 dX9_hasFlaw_20 rfl ?_
    refine x_iadd C dX9_hasFlaw_21 ?_
    refine inb_2 hq (fun hi hq => ?_)
    refine x_iald C (okR_K hdm q3) (by rw [okR_ln q3]; exact hi) dX9_hasFlaw_22 ?_
    refine x_iconst C dX9_hasFlaw_23 ?_
    refine x_icmp_ne (tgt := 31) C dX9_hasFlaw_24 (by decide) hq (fun hq => ?_) (fun hq => ?_)
    · refine x_iconst C dX9_hasFlaw_31 ?_
      exact hR _ _ _ _ hq (by decide +kernel) dX9_hasFlaw_32
    · refine x_iconst C dX9_hasFlaw_27 ?_
      refine x_goto (tgt := 32) C dX9_hasFlaw_28 (by decide) ?_
      exact hR _ _ _ _ hq (by decide +kernel) dX9_hasFlaw_32
set_option maxRecDepth 100000 in
set_option maxHeartbeats 4000000 in
theorem c_X9_hasFlaw (l : Launch) (G : Gd) {dm na : Nat} {ad : Nat → Nat} (hdm : dm = 1) {x1 : Int} {x2 : Int} {w w' : Wd} {r : Int}  (hq : p_X9_hasFlaw x1 x2 w = some (r, w')) : mI l yX9_hasFlaw cX9_hasFlaw 3 (some .boolean) (rmv 2 47 0 0) G dm na ad [.ref (ad (50)), iV (x1), iV (x2)] w r w' := by
  refine met_I [(0, .ref (ad (50))), (1, iV (x1)), (2, iV (x2))] (by decide) (Nat.le_of_ble_eq_true rfl) rfl .boolean rfl (fun g d C S hR => ?_)
  obtain ⟨rfl, hR0, rfl, rfl, rfl, hA⟩ := S
  exact L_X9_hasFlaw (d := (na, ad, 0, 0)) C hdm hA hR0 ⟨Nat.zero_le _, Nat.zero_le _⟩ hR  _ _ w hq
set_option maxRecDepth 100000 in
set_option maxHeartbeats 4000000 in
theorem L_X9_putFlaw {g : Cx} {d : Dl} (C : CX g cX9_putFlaw 4 none RX9) (hdm : g.dm = 1) (hA : ∀ q : Nat, g.s.heap.size ≤ q → g.A q) (hR0 : g.R = rmv 0 0 0 0) (hce : d.ce ≤ g.R.cells ∧ d.so ≤ g.R.slots) {res : Wd} (hR : rtV g d cX9_putFlaw res) (x1 : Int) (x2 : Int) (x3 : Int) (w : Wd) (hq : p_X9_putFlaw x1 x2 x3 w = some res) : XG g d (hP g d w) [(0, .ref (d.ad (50))), (1, iV (x1)), (2, iV (x2)), (3, iV (x3))] [] 0 := by
  refine x_aload_n C 0 dX9_putFlaw_0 rfl ?_
  refine x_getrow C hdm cl_X9 rfl ⟨rfl, rfl, rfl⟩ fl_X9_24 dX9_putFlaw_1 (fun q1 => ?_)
  refine x_bipush (v := 11) C dX9_putFlaw_4 (by decide +kernel) ?_
  refine x_bipush (v := 24) C dX9_putFlaw_6 (by decide +kernel) ?_
  refine x_iload_n C 2 dX9_putFlaw_8 rfl ?_
  refine x_imul C dX9_putFlaw_9 ?_
  refine x_iadd C dX9_putFlaw_10 ?_
  refine x_iload_n C 1 dX9_putFlaw_11 rfl ?_
  refine x_iadd C dX9_putFlaw_12 ?_
  refine x_iload_n C 3 dX9_putFlaw_13 rfl ?_
  refine inb_2 hq (fun hi hq => ?_)
  refine x_iast C (okR_K hdm q1) (by rw [okR_ln q1]; exact hi) dX9_putFlaw_14 ?_
  exact hR _ _ _ hq dX9_putFlaw_15
set_option maxRecDepth 100000 in
set_option maxHeartbeats 4000000 in
theorem c_X9_putFlaw (l : Launch) (G : Gd) {dm na : Nat} {ad : Nat → Nat} (hdm : dm = 1) {x1 : Int} {x2 : Int} {x3 : Int} {w w' : Wd}   (hq : p_X9_putFlaw x1 x2 x3 w = some w') : mV l yX9_putFlaw cX9_putFlaw 4 none (rmv 0 0 0 0) G dm na ad [.ref (ad (50)), iV (x1), iV (x2), iV (x3)] w w' := by
  refine met_V [(0, .ref (ad (50))), (1, iV (x1)), (2, iV (x2)), (3, iV (x3))] (by decide) (Nat.le_of_ble_eq_true rfl) rfl rfl (fun g d C S hR => ?_)
  obtain ⟨rfl, hR0, rfl, rfl, rfl, hA⟩ := S
  exact L_X9_putFlaw (d := (na, ad, 0, 0)) C hdm hA hR0 ⟨Nat.zero_le _, Nat.zero_le _⟩ hR  _ _ _ w hq
set_option maxRecDepth 100000 in
set_option maxHeartbeats 4000000 in
theorem L_X9_flaws_4 {g : Cx} {d : Dl} (C : CX g cX9_flaws 3 (some .int) RX9) (hdm : g.dm = 1) (hA : ∀ q : Nat, g.s.heap.size ≤ q → g.A q) (hR0 : g.R = rmv 0 0 0 0) (hce : d.ce ≤ g.R.cells ∧ d.so ≤ g.R.slots) {res : Int × Wd} (hR : rtI g d cX9_flaws .int res) : ∀ (n : Nat) (x1 : Int) (x2 : Int) (w : Wd), p_X9_flaws_4 n x1 x2 w = some res → XG g d (hP g d w) [(0, .ref (d.ad (50))), (1, iV (x1)), (2, iV (x2))] [] 4 := by
  intro n
  induction n with
  | zero => intro x1 x2 w  hq; exact nomatch (show none = some _ from hq)
  | succ n ih =>
    intro x1 x2 w  hq
    refine x_iload_n C 2 dX9_flaws_4 rfl ?_
    refine x_sipush (v := 288) C dX9_flaws_5 (by decide +kernel) ?_
    refine x_icmp_ge (tgt := 29) C dX9_flaws_8 (by decide) hq (fun hq => ?_) (fun hq => ?_)
    · refine x_iload_n C 1 dX9_flaws_29 rfl ?_
      exact hR _ _ _ _ hq rfl dX9_flaws_30
    · refine x_iload_n C 1 dX9_flaws_11 rfl ?_
      refine x_aload_n C 0 dX9_flaws_12 rfl ?_
      refine x_getrow C hdm cl_X9 rfl ⟨rfl, rfl, rfl⟩ fl_X9_24 dX9_flaws_13 (fun q1 => ?_)
      refine x_bipush (v := 11) C dX9_flaws_16 (by decide +kernel) ?_
      refine x_iload_n C 2 dX9_flaws_18 rfl ?_
      refine x_iadd C dX9_flaws_19 ?_
      refine inb_2 hq (fun hi hq => ?_)
      refine x_iald C (okR_K hdm q1) (by rw [okR_ln q1]; exact hi) dX9_flaws_20 ?_
      refine x_iadd C dX9_flaws_21 ?_
      refine x_istore_n (lv' := [(1, iV (x1 + (gA w (gP w 50 3) (11 + x2)))), (0, .ref (d.ad (50))), (2, iV (x2))]) C dX9_flaws_22 (by decide) rfl ?_
      refine x_iinc (lv' := [(2, iV (x2 + 1)), (1, iV (x1 + (gA w (gP w 50 3) (11 + x2)))), (0, .ref (d.ad (50)))]) C 2 dX9_flaws_23 rfl (by decide) rfl ?_
      refine x_goto (tgt := 4) C dX9_flaws_26 (by decide) ?_
      refine XG.sub [2, 1, 0] rfl ?_
      exact ih _ _ _ hq
set_option maxRecDepth 100000 in
set_option maxHeartbeats 4000000 in
theorem L_X9_flaws {g : Cx} {d : Dl} (C : CX g cX9_flaws 3 (some .int) RX9) (hdm : g.dm = 1) (hA : ∀ q : Nat, g.s.heap.size ≤ q → g.A q) (hR0 : g.R = rmv 0 0 0 0) (hce : d.ce ≤ g.R.cells ∧ d.so ≤ g.R.slots) {res : Int × Wd} (hR : rtI g d cX9_flaws .int res)  (w : Wd) (hq : p_X9_flaws  w = some res) : XG g d (hP g d w) [(0, .ref (d.ad (50)))] [] 0 := by
  refine x_iconst C dX9_flaws_0 ?_
  refine x_istore_n (lv' := [(1, iV (0)), (0, .ref (d.ad (50)))]) C dX9_flaws_1 (by decide) rfl ?_
  refine x_iconst C dX9_flaws_2 ?_
  refine x_istore_n (lv' := [(2, iV (0)), (1, iV (0)), (0, .ref (d.ad (50)))]) C dX9_flaws_3 (by decide) rfl ?_
  refine XG.sub [2, 1, 0] rfl ?_
  exact L_X9_flaws_4 C hdm hA hR0 hce hR _ _ _ _ hq
set_option maxRecDepth 100000 in
set_option maxHeartbeats 4000000 in
theorem c_X9_flaws (l : Launch) (G : Gd) {dm na : Nat} {ad : Nat → Nat} (hdm : dm = 1)  {w w' : Wd} {r : Int}  (hq : p_X9_flaws  w = some (r, w')) : mI l yX9_flaws cX9_flaws 3 (some .int) (rmv 0 0 0 0) G dm na ad [.ref (ad (50))] w r w' := by
  refine met_I [(0, .ref (ad (50)))] (by decide) (Nat.le_of_ble_eq_true rfl) rfl .int rfl (fun g d C S hR => ?_)
  obtain ⟨rfl, hR0, rfl, rfl, rfl, hA⟩ := S
  exact L_X9_flaws (d := (na, ad, 0, 0)) C hdm hA hR0 ⟨Nat.zero_le _, Nat.zero_le _⟩ hR   w hq
set_option maxRecDepth 100000 in
set_option maxHeartbeats 4000000 in
theorem L_X9_kindOf {g : Cx} {d : Dl} (C : CX g cX9_kindOf 2 (some .int) RX9) (hdm : g.dm = 1) (hA : ∀ q : Nat, g.s.heap.size ≤ q → g.A q) (hR0 : g.R = rmv 0 0 0 0) (hce : d.ce ≤ g.R.cells ∧ d.so ≤ g.R.slots) {res : Int × Wd} (hR : rtI g d cX9_kindOf .int res) (x1 : Int) (w : Wd) (hq : p_X9_kindOf x1 w = some res) : XG g d (hP g d w) [(0, .ref (d.ad (50))), (1, iV (x1))] [] 0 := by
  refine x_aload_n C 0 dX9_kindOf_0 rfl ?_
  refine x_getrow C hdm cl_X9 rfl ⟨rfl, rfl, rfl⟩ fl_X9_24 dX9_kindOf_1 (fun q1 => ?_)
  refine x_sipush (v := 299) C dX9_kindOf_4 (by decide +kernel) ?_
  refine x_iconst C dX9_kindOf_7 ?_
  refine x_iload_n C 1 dX9_kindOf_8 rfl ?_
  refine x_imul C dX9_kindOf_9 ?_
  refine x_iadd C dX9_kindOf_10 ?_
  refine x_iconst C dX9_kindOf_11 ?_
  refine x_iadd C dX9_kindOf_12 ?_
  refine inb_2 hq (fun hi hq => ?_)
  refine x_iald C (okR_K hdm q1) (by rw [okR_ln q1]; exact hi) dX9_kindOf_13 ?_
  exact hR _ _ _ _ hq rfl dX9_kindOf_14
set_option maxRecDepth 100000 in
set_option maxHeartbeats 4000000 in
theorem c_X9_kindOf (l : Launch) (G : Gd) {dm na : Nat} {ad : Nat → Nat} (hdm : dm = 1) {x1 : Int} {w w' : Wd} {r : Int}  (hq : p_X9_kindOf x1 w = some (r, w')) : mI l yX9_kindOf cX9_kindOf 2 (some .int) (rmv 0 0 0 0) G dm na ad [.ref (ad (50)), iV (x1)] w r w' := by
  refine met_I [(0, .ref (ad (50))), (1, iV (x1))] (by decide) (Nat.le_of_ble_eq_true rfl) rfl .int rfl (fun g d C S hR => ?_)
  obtain ⟨rfl, hR0, rfl, rfl, rfl, hA⟩ := S
  exact L_X9_kindOf (d := (na, ad, 0, 0)) C hdm hA hR0 ⟨Nat.zero_le _, Nat.zero_le _⟩ hR  _ w hq
set_option maxRecDepth 100000 in
set_option maxHeartbeats 4000000 in
theorem L_X9_manyOf {g : Cx} {d : Dl} (C : CX g cX9_manyOf 2 (some .int) RX9) (hdm : g.dm = 1) (hA : ∀ q : Nat, g.s.heap.size ≤ q → g.A q) (hR0 : g.R = rmv 0 0 0 0) (hce : d.ce ≤ g.R.cells ∧ d.so ≤ g.R.slots) {res : Int × Wd} (hR : rtI g d cX9_manyOf .int res) (x1 : Int) (w : Wd) (hq : p_X9_manyOf x1 w = some res) : XG g d (hP g d w) [(0, .ref (d.ad (50))), (1, iV (x1))] [] 0 := by
  refine x_aload_n C 0 dX9_manyOf_0 rfl ?_
  refine x_getrow C hdm cl_X9 rfl ⟨rfl, rfl, rfl⟩ fl_X9_24 dX9_manyOf_1 (fun q1 => ?_)
  refine x_sipush (v := 299) C dX9_manyOf_4 (by decide +kernel) ?_
  refine x_iconst C dX9_manyOf_7 ?_
  refine x_iload_n C 1 dX9_manyOf_8 rfl ?_
  refine x_imul C dX9_manyOf_9 ?_
  refine x_iadd C dX9_manyOf_10 ?_
  refine x_iconst C dX9_manyOf_11 ?_
  refine x_iadd C dX9_manyOf_12 ?_
  refine inb_2 hq (fun hi hq => ?_)
  refine x_iald C (okR_K hdm q1) (by rw [okR_ln q1]; exact hi) dX9_manyOf_13 ?_
  exact hR _ _ _ _ hq rfl dX9_manyOf_14
set_option maxRecDepth 100000 in
set_option maxHeartbeats 4000000 in
theorem c_X9_manyOf (l : Launch) (G : Gd) {dm na : Nat} {ad : Nat → Nat} (hdm : dm = 1) {x1 : Int} {w w' : Wd} {r : Int}  (hq : p_X9_manyOf x1 w = some (r, w')) : mI l yX9_manyOf cX9_manyOf 2 (some .int) (rmv 0 0 0 0) G dm na ad [.ref (ad (50)), iV (x1)] w r w' := by
  refine met_I [(0, .ref (ad (50))), (1, iV (x1))] (by decide) (Nat.le_of_ble_eq_true rfl) rfl .int rfl (fun g d C S hR => ?_)
  obtain ⟨rfl, hR0, rfl, rfl, rfl, hA⟩ := S
  exact L_X9_manyOf (d := (na, ad, 0, 0)) C hdm hA hR0 ⟨Nat.zero_le _, Nat.zero_le _⟩ hR  _ w hq
set_option maxRecDepth 100000 in
set_option maxHeartbeats 4000000 in
theorem L_X9_firstOf_4 {g : Cx} {d : Dl} (C : CX g cX9_firstOf 4 (some .int) RX9) (hdm : g.dm = 1) (hA : ∀ q : Nat, g.s.heap.size ≤ q → g.A q) (hR0 : g.R = rmv 1 21 0 0) (hce : d.ce ≤ g.R.cells ∧ d.so ≤ g.R.slots) {res : Int × Wd} (hR : rtI g d cX9_firstOf .int res) : ∀ (n : Nat) (x1 : Int) (x2 : Int) (x3 : Int) (w : Wd), p_X9_firstOf_4 n x1 x2 x3 w = some res → XG g d (hP g d w) [(0, .ref (d.ad (50))), (1, iV (x1)), (2, iV (x2)), (3, iV (x3))] [] 4 := by
  intro n
  induction n with
  | zero => intro x1 x2 x3 w  hq; exact nomatch (show none = some _ from hq)
  | succ n ih =>
    intro x1 x2 x3 w  hq
    refine x_iload_n C 3 dX9_firstOf_4 rfl ?_
    refine x_iload_n C 1 dX9_firstOf_5 rfl ?_
    refine x_icmp_ge (tgt := 23) C dX9_firstOf_6 (by decide) hq (fun hq => ?_) (fun hq => ?_)
    · refine x_iload_n C 2 dX9_firstOf_23 rfl ?_
      exact hR _ _ _ _ hq rfl dX9_firstOf_24
    · refine x_iload_n C 2 dX9_firstOf_9 rfl ?_
      refine x_aload_n C 0 dX9_firstOf_10 rfl ?_
      refine x_iload_n C 3 dX9_firstOf_11 rfl ?_
      refine x_callVi (K := 10) (rm := rmv 0 0 0 0) (As := [iV (x3)]) (rest := [iV (x2)]) C hA hR0 mf_X9_manyOf lk_X9_86 rfl (isK_lit hdm rfl rfl) (by decide) ⟨rfl, rfl⟩ ⟨Nat.le_of_ble_eq_true rfl, Nat.le_of_ble_eq_true rfl⟩ rfl rfl (Nat.le_of_ble_eq_true rfl) hce dX9_firstOf_12 hq (fun _ _ h => c_X9_manyOf g.l g.G hdm  h) (fun r2 w1 _ hq => ?_)
      refine x_iadd C dX9_firstOf_15 ?_
      refine x_istore_n (lv' := [(2, iV (x2 + r2)), (0, .ref (d.ad (50))), (1, iV (x1)), (3, iV (x3))]) C dX9_firstOf_16 (by decide) rfl ?_
      refine x_iinc (lv' := [(3, iV (x3 + 1)), (2, iV (x2 + r2)), (0, .ref (d.ad (50))), (1, iV (x1))]) C 3 dX9_firstOf_17 rfl (by decide) rfl ?_
      refine x_goto (tgt := 4) C dX9_firstOf_20 (by decide) ?_
      refine XG.sub [2, 3, 1, 0] rfl ?_
      exact ih _ _ _ _ hq
set_option maxRecDepth 100000 in
set_option maxHeartbeats 4000000 in
theorem L_X9_firstOf {g : Cx} {d : Dl} (C : CX g cX9_firstOf 4 (some .int) RX9) (hdm : g.dm = 1) (hA : ∀ q : Nat, g.s.heap.size ≤ q → g.A q) (hR0 : g.R = rmv 1 21 0 0) (hce : d.ce ≤ g.R.cells ∧ d.so ≤ g.R.slots) {res : Int × Wd} (hR : rtI g d cX9_firstOf .int res) (x1 : Int) (w : Wd) (hq : p_X9_firstOf x1 w = some res) : XG g d (hP g d w) [(0, .ref (d.ad (50))), (1, iV (x1))] [] 0 := by
  refine x_iconst C dX9_firstOf_0 ?_
  refine x_istore_n (lv' := [(2, iV (0)), (0, .ref (d.ad (50))), (1, iV (x1))]) C dX9_firstOf_1 (by decide) rfl ?_
  refine x_iconst C dX9_firstOf_2 ?_
  refine x_istore_n (lv' := [(3, iV (0)), (2, iV (0)), (0, .ref (d.ad (50))), (1, iV (x1))]) C dX9_firstOf_3 (by decide) rfl ?_
  refine XG.sub [2, 3, 1, 0] rfl ?_
  exact L_X9_firstOf_4 C hdm hA hR0 hce hR _ _ _ _ _ hq
set_option maxRecDepth 100000 in
set_option maxHeartbeats 4000000 in
theorem c_X9_firstOf (l : Launch) (G : Gd) {dm na : Nat} {ad : Nat → Nat} (hdm : dm = 1) {x1 : Int} {w w' : Wd} {r : Int}  (hq : p_X9_firstOf x1 w = some (r, w')) : mI l yX9_firstOf cX9_firstOf 4 (some .int) (rmv 1 21 0 0) G dm na ad [.ref (ad (50)), iV (x1)] w r w' := by
  refine met_I [(0, .ref (ad (50))), (1, iV (x1))] (by decide) (Nat.le_of_ble_eq_true rfl) rfl .int rfl (fun g d C S hR => ?_)
  obtain ⟨rfl, hR0, rfl, rfl, rfl, hA⟩ := S
  exact L_X9_firstOf (d := (na, ad, 0, 0)) C hdm hA hR0 ⟨Nat.zero_le _, Nat.zero_le _⟩ hR  _ w hq
set_option maxRecDepth 100000 in
set_option maxHeartbeats 4000000 in
theorem L_X9_partOf_2 {g : Cx} {d : Dl} (C : CX g cX9_partOf 3 (some .int) RX9) (hdm : g.dm = 1) (hA : ∀ q : Nat, g.s.heap.size ≤ q → g.A q) (hR0 : g.R = rmv 2 44 0 0) (hce : d.ce ≤ g.R.cells ∧ d.so ≤ g.R.slots) {res : Int × Wd} (hR : rtI g d cX9_partOf .int res) : ∀ (n : Nat) (x1 : Int) (x2 : Int) (w : Wd), p_X9_partOf_2 n x1 x2 w = some res → XG g d (hP g d w) [(0, .ref (d.ad (50))), (1, iV (x1)), (2, iV (x2))] [] 2 := by
  intro n
  induction n with
  | zero => intro x1 x2 w  hq; exact nomatch (show none = some _ from hq)
  | succ n ih =>
    intro x1 x2 w  hq
    refine x_aload_n C 0 dX9_partOf_2 rfl ?_
    refine x_iload_n C 2 dX9_partOf_3 rfl ?_
    refine x_iconst C dX9_partOf_4 ?_
    refine x_iadd C dX9_partOf_5 ?_
    refine x_callVi (K := 10) (rm := rmv 1 21 0 0) (As := [iV (x2 + 1)]) (rest := []) C hA hR0 mf_X9_firstOf lk_X9_90 rfl (isK_lit hdm rfl rfl) (by decide) ⟨rfl, rfl⟩ ⟨Nat.le_of_ble_eq_true rfl, Nat.le_of_ble_eq_true rfl⟩ rfl rfl (Nat.le_of_ble_eq_true rfl) hce dX9_partOf_6 hq (fun _ _ h => c_X9_firstOf g.l g.G hdm  h) (fun r2 w1 _ hq => ?_)
    refine x_iload_n C 1 dX9_partOf_9 rfl ?_
    refine x_icmp_gt (tgt := 19) C dX9_partOf_10 (by decide) hq (fun hq => ?_) (fun hq => ?_)
    · refine x_iload_n C 2 dX9_partOf_19 rfl ?_
      exact hR _ _ _ _ hq rfl dX9_partOf_20
    · refine x_iinc (lv' := [(2, iV (x2 + 1)), (0, .ref (d.ad (50))), (1, iV (x1))]) C 2 dX9_partOf_13 rfl (by decide) rfl ?_
      refine x_goto (tgt := 2) C dX9_partOf_16 (by decide) ?_
      refine XG.sub [1, 2, 0] rfl ?_
      exact ih _ _ _ hq
set_option maxRecDepth 100000 in
set_option maxHeartbeats 4000000 in
theorem L_X9_partOf {g : Cx} {d : Dl} (C : CX g cX9_partOf 3 (some .int) RX9) (hdm : g.dm = 1) (hA : ∀ q : Nat, g.s.heap.size ≤ q → g.A q) (hR0 : g.R = rmv 2 44 0 0) (hce : d.ce ≤ g.R.cells ∧ d.so ≤ g.R.slots) {res : Int × Wd} (hR : rtI g d cX9_partOf .int res) (x1 : Int) (w : Wd) (hq : p_X9_partOf x1 w = some res) : XG g d (hP g d w) [(0, .ref (d.ad (50))), (1, iV (x1))] [] 0 := by
  refine x_iconst C dX9_partOf_0 ?_
  refine x_istore_n (lv' := [(2, iV (0)), (0, .ref (d.ad (50))), (1, iV (x1))]) C dX9_partOf_1 (by decide) rfl ?_
  refine XG.sub [1, 2, 0] rfl ?_
  exact L_X9_partOf_2 C hdm hA hR0 hce hR _ _ _ _ hq
set_option maxRecDepth 100000 in
set_option maxHeartbeats 4000000 in
theorem c_X9_partOf (l : Launch) (G : Gd) {dm na : Nat} {ad : Nat → Nat} (hdm : dm = 1) {x1 : Int} {w w' : Wd} {r : Int}  (hq : p_X9_partOf x1 w = some (r, w')) : mI l yX9_partOf cX9_partOf 3 (some .int) (rmv 2 44 0 0) G dm na ad [.ref (ad (50)), iV (x1)] w r w' := by
  refine met_I [(0, .ref (ad (50))), (1, iV (x1))] (by decide) (Nat.le_of_ble_eq_true rfl) rfl .int rfl (fun g d C S hR => ?_)
  obtain ⟨rfl, hR0, rfl, rfl, rfl, hA⟩ := S
  exact L_X9_partOf (d := (na, ad, 0, 0)) C hdm hA hR0 ⟨Nat.zero_le _, Nat.zero_le _⟩ hR  _ w hq
set_option maxRecDepth 100000 in
set_option maxHeartbeats 4000000 in
theorem L_X9_bytesOf {g : Cx} {d : Dl} (C : CX g cX9_bytesOf 2 (some .int) RX9) (hdm : g.dm = 1) (hA : ∀ q : Nat, g.s.heap.size ≤ q → g.A q) (hR0 : g.R = rmv 0 0 0 0) (hce : d.ce ≤ g.R.cells ∧ d.so ≤ g.R.slots) {res : Int × Wd} (hR : rtI g d cX9_bytesOf .int res) (x1 : Int) (w : Wd) (hq : p_X9_bytesOf x1 w = some res) : XG g d (hP g d w) [(0, .ref (d.ad (50))), (1, iV (x1))] [] 0 := by
  refine x_aload_n C 0 dX9_bytesOf_0 rfl ?_
  refine x_getrow C hdm cl_X9 rfl ⟨rfl, rfl, rfl⟩ fl_X9_24 dX9_bytesOf_1 (fun q1 => ?_)
  refine x_sipush (v := 319) C dX9_bytesOf_4 (by decide +kernel) ?_
  refine x_bipush (v := 13) C dX9_bytesOf_7 (by decide +kernel) ?_
  refine x_iload_n C 1 dX9_bytesOf_9 rfl ?_
  refine x_imul C dX9_bytesOf_10 ?_
  refine x_iadd C dX9_bytesOf_11 ?_
  refine inb_2 hq (fun hi hq => ?_)
  refine x_iald C (okR_K hdm q1) (by rw [okR_ln q1]; exact hi) dX9_bytesOf_12 ?_
  exact hR _ _ _ _ hq rfl dX9_bytesOf_13
set_option maxRecDepth 100000 in
set_option maxHeartbeats 4000000 in
theorem c_X9_bytesOf (l : Launch) (G : Gd) {dm na : Nat} {ad : Nat → Nat} (hdm : dm = 1) {x1 : Int} {w w' : Wd} {r : Int}  (hq : p_X9_bytesOf x1 w = some (r, w')) : mI l yX9_bytesOf cX9_bytesOf 2 (some .int) (rmv 0 0 0 0) G dm na ad [.ref (ad (50)), iV (x1)] w r w' := by
  refine met_I [(0, .ref (ad (50))), (1, iV (x1))] (by decide) (Nat.le_of_ble_eq_true rfl) rfl .int rfl (fun g d C S hR => ?_)
  obtain ⟨rfl, hR0, rfl, rfl, rfl, hA⟩ := S
  exact L_X9_bytesOf (d := (na, ad, 0, 0)) C hdm hA hR0 ⟨Nat.zero_le _, Nat.zero_le _⟩ hR  _ w hq
set_option maxRecDepth 100000 in
set_option maxHeartbeats 4000000 in
theorem L_X9_byteOf {g : Cx} {d : Dl} (C : CX g cX9_byteOf 3 (some .int) RX9) (hdm : g.dm = 1) (hA : ∀ q : Nat, g.s.heap.size ≤ q → g.A q) (hR0 : g.R = rmv 0 0 0 0) (hce : d.ce ≤ g.R.cells ∧ d.so ≤ g.R.slots) {res : Int × Wd} (hR : rtI g d cX9_byteOf .int res) (x1 : Int) (x2 : Int) (w : Wd) (hq : p_X9_byteOf x1 x2 w = some res) : XG g d (hP g d w) [(0, .ref (d.ad (50))), (1, iV (x1)), (2, iV (x2))] [] 0 := by
  refine x_aload_n C 0 dX9_byteOf_0 rfl ?_
  refine x_getrow C hdm cl_X9 rfl ⟨rfl, rfl, rfl⟩ fl_X9_24 dX9_byteOf_1 (fun q1 => ?_)
  refine x_sipush (v := 319) C dX9_byteOf_4 (by decide +kernel) ?_
  refine x_bipush (v := 13) C dX9_byteOf_7 (by decide +kernel) ?_
  refine x_iload_n C 1 dX9_byteOf_9 rfl ?_
  refine x_imul C dX9_byteOf_10 ?_
  refine x_iadd C dX9_byteOf_11 ?_
  refine x_iconst C dX9_byteOf_12 ?_
  refine x_iadd C dX9_byteOf_13 ?_
  refine x_iload_n C 2 dX9_byteOf_14 rfl ?_
  refine x_iadd C dX9_byteOf_15 ?_
  refine inb_2 hq (fun hi hq => ?_)
  refine x_iald C (okR_K hdm q1) (by rw [okR_ln q1]; exact hi) dX9_byteOf_16 ?_
  exact hR _ _ _ _ hq rfl dX9_byteOf_17
set_option maxRecDepth 100000 in
set_option maxHeartbeats 4000000 in
theorem c_X9_byteOf (l : Launch) (G : Gd) {dm na : Nat} {ad : Nat → Nat} (hdm : dm = 1) {x1 : Int} {x2 : Int} {w w' : Wd} {r : Int}  (hq : p_X9_byteOf x1 x2 w = some (r, w')) : mI l yX9_byteOf cX9_byteOf 3 (some .int) (rmv 0 0 0 0) G dm na ad [.ref (ad (50)), iV (x1), iV (x2)] w r w' := by
  refine met_I [(0, .ref (ad (50))), (1, iV (x1)), (2, iV (x2))] (by decide) (Nat.le_of_ble_eq_true rfl) rfl .int rfl (fun g d C S hR => ?_)
  obtain ⟨rfl, hR0, rfl, rfl, rfl, hA⟩ := S
  exact L_X9_byteOf (d := (na, ad, 0, 0)) C hdm hA hR0 ⟨Nat.zero_le _, Nat.zero_le _⟩ hR  _ _ w hq
set_option maxRecDepth 100000 in
set_option maxHeartbeats 4000000 in
theorem L_X9_isPart {g : Cx} {d : Dl} (C : CX g cX9_isPart 2 (some .boolean) RX9) (hdm : g.dm = 1) (hA : ∀ q : Nat, g.s.heap.size ≤ q → g.A q) (hR0 : g.R = rmv 1 25 0 0) (hce : d.ce ≤ g.R.cells ∧ d.so ≤ g.R.slots) {res : Int × Wd} (hR : rtI g d cX9_isPart .boolean res) (x1 : Int) (w : Wd) (hq : p_X9_isPart x1 w = some res) : XG g d (hP g d w) [(0, .ref (d.ad (50))), (1, iV (x1))] [] 0 := by
  refine x_iload_n C 1 dX9_isPart_0 rfl ?_
  refine x_i2l C dX9_isPart_1 ?_
  refine x_lconst C dX9_isPart_2 ?_
  refine x_aload_n C 0 dX9_isPart_3 rfl ?_
  refine x_getrow C hdm cl_X9 rfl ⟨rfl, rfl, rfl⟩ fl_X9_24 dX9_isPart_4 (fun q1 => ?_)
  refine x_bipush (v := 9) C dX9_isPart_7 (by decide +kernel) ?_
  refine inb_2 hq (fun hi hq => ?_)
  refine x_iald C (okR_K hdm q1) (by rw [okR_ln q1]; exact hi) dX9_isPart_9 ?_
  refine x_iconst C dX9_isPart_10 ?_
  refine x_isub C dX9_isPart_11 ?_
  refine x_i2l C dX9_isPart_12 ?_
  refine x_callSi (rm := rmv 0 0 0 0) (As := [jV (w32 x1), jV (0), jV (w32 ((gA w (gP w 50 3) 9) - 1))]) (rest := []) C hA hR0 mf_X9_in lk_X9_75 ⟨rfl, rfl⟩ ⟨Nat.le_of_ble_eq_true rfl, Nat.le_of_ble_eq_true rfl⟩ rfl rfl (Nat.le_of_ble_eq_true rfl) hce dX9_isPart_13 hq (fun _ _ h => c_X9_in g.l g.G hdm  h) (fun r3 w2 _ hq => ?_)
  exact hR _ _ _ _ (zr_2 hq) (zr_1 hq) dX9_isPart_16
set_option maxRecDepth 100000 in
set_option maxHeartbeats 4000000 in
theorem c_X9_isPart (l : Launch) (G : Gd) {dm na : Nat} {ad : Nat → Nat} (hdm : dm = 1) {x1 : Int} {w w' : Wd} {r : Int}  (hq : p_X9_isPart x1 w = some (r, w')) : mI l yX9_isPart cX9_isPart 2 (some .boolean) (rmv 1 25 0 0) G dm na ad [.ref (ad (50)), iV (x1)] w r w' := by
  refine met_I [(0, .ref (ad (50))), (1, iV (x1))] (by decide) (Nat.le_of_ble_eq_true rfl) rfl .boolean rfl (fun g d C S hR => ?_)
  obtain ⟨rfl, hR0, rfl, rfl, rfl, hA⟩ := S
  exact L_X9_isPart (d := (na, ad, 0, 0)) C hdm hA hR0 ⟨Nat.zero_le _, Nat.zero_le _⟩ hR  _ w hq
set_option maxRecDepth 100000 in
set_option maxHeartbeats 4000000 in
theorem L_X9_isWordNumber {g : Cx} {d : Dl} (C : CX g cX9_isWordNumber 2 (some .boolean) RX9) (hdm : g.dm = 1) (hA : ∀ q : Nat, g.s.heap.size ≤ q → g.A q) (hR0 : g.R = rmv 1 25 0 0) (hce : d.ce ≤ g.R.cells ∧ d.so ≤ g.R.slots) {res : Int × Wd} (hR : rtI g d cX9_isWordNumber .boolean res) (x1 : Int) (w : Wd) (hq : p_X9_isWordNumber x1 w = some res) : XG g d (hP g d w) [(0, .ref (d.ad (50))), (1, iV (x1))] [] 0 := by
  refine x_iload_n C 1 dX9_isWordNumber_0 rfl ?_
  refine x_i2l C dX9_isWordNumber_1 ?_
  refine x_lconst C dX9_isWordNumber_2 ?_
  refine x_aload_n C 0 dX9_isWordNumber_3 rfl ?_
  refine x_getrow C hdm cl_X9 rfl ⟨rfl, rfl, rfl⟩ fl_X9_24 dX9_isWordNumber_4 (fun q1 => ?_)
  refine x_bipush (v := 10) C dX9_isWordNumber_7 (by decide +kernel) ?_
  refine inb_2 hq (fun hi hq => ?_)
  refine x_iald C (okR_K hdm q1) (by rw [okR_ln q1]; exact hi) dX9_isWordNumber_9 ?_
  refine x_iconst C dX9_isWordNumber_10 ?_
  refine x_isub C dX9_isWordNumber_11 ?_
  refine x_i2l C dX9_isWordNumber_12 ?_
  refine x_callSi (rm := rmv 0 0 0 0) (As := [jV (w32 x1), jV (0), jV (w32 ((gA w (gP w 50 3) 10) - 1))]) (rest := []) C hA hR0 mf_X9_in lk_X9_75 ⟨rfl, rfl⟩ ⟨Nat.le_of_ble_eq_true rfl, Nat.le_of_ble_eq_true rfl⟩ rfl rfl (Nat.le_of_ble_eq_true rfl) hce dX9_isWordNumber_13 hq (fun _ _ h => c_X9_in g.l g.G hdm  h) (fun r3 w2 _ hq => ?_)
  exact hR _ _ _ _ (zr_2 hq) (zr_1 hq) dX9_isWordNumber_16
set_option maxRecDepth 100000 in
set_option maxHeartbeats 4000000 in
theorem c_X9_isWordNumber (l : Launch) (G : Gd) {dm na : Nat} {ad : Nat → Nat} (hdm : dm = 1) {x1 : Int} {w w' : Wd} {r : Int}  (hq : p_X9_isWordNumber x1 w = some (r, w')) : mI l yX9_isWordNumber cX9_isWordNumber 2 (some .boolean) (rmv 1 25 0 0) G dm na ad [.ref (ad (50)), iV (x1)] w r w' := by
  refine met_I [(0, .ref (ad (50))), (1, iV (x1))] (by decide) (Nat.le_of_ble_eq_true rfl) rfl .boolean rfl (fun g d C S hR => ?_)
  obtain ⟨rfl, hR0, rfl, rfl, rfl, hA⟩ := S
  exact L_X9_isWordNumber (d := (na, ad, 0, 0)) C hdm hA hR0 ⟨Nat.zero_le _, Nat.zero_le _⟩ hR  _ w hq
set_option maxRecDepth 100000 in
set_option maxHeartbeats 4000000 in
theorem L_X9_fitsAt_46 {g : Cx} {d : Dl} (C : CX g cX9_fitsAt 6 (some .boolean) RX9) (hdm : g.dm = 1) (hA : ∀ q : Nat, g.s.heap.size ≤ q → g.A q) (hR0 : g.R = rmv 3 69 0 0) (hce : d.ce ≤ g.R.cells ∧ d.so ≤ g.R.slots) {res : Int × Wd} (hR : rtI g d cX9_fitsAt .boolean res) {k18 : Int → Int → Int → Int → Int → Wd → Option (Int × Wd)} (hk18 : ∀ (x1 : Int) (x2 : Int) (x3 : Int) (x4 : Int) (x5 : Int) (w : Wd), k18 x1 x2 x3 x4 x5 w = some res → XG g d (hP g d w) [(0, .ref (d.ad (50))), (1, iV (x1)), (2, iV (x2)), (3, iV (x3)), (4, iV (x4)), (5, iV (x5))] [] 18) (x1 : Int) (x2 : Int) (x3 : Int) (x5 : Int) (s0 : Int) (w : Wd) (hq : p_X9_fitsAt_46 k18 x1 x2 x3 x5 s0 w = some res) : XG g d (hP g d w) [(0, .ref (d.ad (50))), (1, iV (x1)), (2, iV (x2)), (3, iV (x3)), (5, iV (x5))] [iV (s0)] 46 := by
  refine x_istore (lv' := [(4, iV (s0)), (0, .ref (d.ad (50))), (1, iV (x1)), (2, iV (x2)), (3, iV (x3)), (5, iV (x5))]) C dX9_fitsAt_46 (by decide) rfl ?_
  refine x_iinc (lv' := [(5, iV (x5 + 1)), (4, iV (s0)), (0, .ref (d.ad (50))), (1, iV (x1)), (2, iV (x2)), (3, iV (x3))]) C 5 dX9_fitsAt_48 rfl (by decide) rfl ?_
  refine x_goto (tgt := 18) C dX9_fitsAt_51 (by decide) ?_
  refine XG.sub [2, 3, 4, 5, 1, 0] rfl ?_
  exact hk18 _ _ _ _ _ _ hq
set_option maxRecDepth 100000 in
set_option maxHeartbeats 4000000 in
theorem L_X9_fitsAt_45 {g : Cx} {d : Dl} (C : CX g cX9_fitsAt 6 (some .boolean) RX9) (hdm : g.dm = 1) (hA : ∀ q : Nat, g.s.heap.size ≤ q → g.A q) (hR0 : g.R = rmv 3 69 0 0) (hce : d.ce ≤ g.R.cells ∧ d.so ≤ g.R.slots) {res : Int × Wd} (hR : rtI g d cX9_fitsAt .boolean res) {k18 : Int → Int → Int → Int → Int → Wd → Option (Int × Wd)} (hk18 : ∀ (x1 : Int) (x2 : Int) (x3 : Int) (x4 : Int) (x5 : Int) (w : Wd), k18 x1 x2 x3 x4 x5 w = some res → XG g d (hP g d w) [(0, .ref (d.ad (50))), (1, iV (x1)), (2, iV (x2)), (3, iV (x3)), (4, iV (x4)), (5, iV (x5))] [] 18) (x1 : Int) (x2 : Int) (x3 : Int) (x5 : Int) (w : Wd) (hq : p_X9_fitsAt_45 k18 x1 x2 x3 x5 w = some res) : XG g d (hP g d w) [(0, .ref (d.ad (50))), (1, iV (x1)), (2, iV (x2)), (3, iV (x3)), (5, iV (x5))] [] 45 := by
  refine x_iconst C dX9_fitsAt_45 ?_
  exact L_X9_fitsAt_46 C hdm hA hR0 hce hR hk18 _ _ _ _ _ _ hq
set_option maxRecDepth 100000 in
set_option maxHeartbeats 4000000 in
theorem L_X9_fitsAt_18 {g : Cx} {d : Dl} (C : CX g cX9_fitsAt 6 (some .boolean) RX9) (hdm : g.dm = 1) (hA : ∀ q : Nat, g.s.heap.size ≤ q → g.A q) (hR0 : g.R = rmv 3 69 0 0) (hce : d.ce ≤ g.R.cells ∧ d.so ≤ g.R.slots) {res : Int × Wd} (hR : rtI g d cX9_fitsAt .boolean res) : ∀ (n : Nat) (x1 : Int) (x2 : Int) (x3 : Int) (x4 : Int) (x5 : Int) (w : Wd), p_X9_fitsAt_18 n x1 x2 x3 x4 x5 w = some res → XG g d (hP g d w) [(0, .ref (d.ad (50))), (1, iV (x1)), (2, iV (x2)), (3, iV (x3)), (4, iV (x4)), (5, iV (x5))] [] 18 := by
  intro n
  induction n with
  | zero => intro x1 x2 x3 x4 x5 w  hq; exact nomatch (show none = some _ from hq)
  | succ n ih =>
    intro x1 x2 x3 x4 x5 w  hq
    refine x_iload C 5 dX9_fitsAt_18 rfl ?_
    refine x_iload_n C 1 dX9_fitsAt_20 rfl ?_
    refine x_iload_n C 3 dX9_fitsAt_21 rfl ?_
    refine x_iadd C dX9_fitsAt_22 ?_
    refine x_icmp_ge (tgt := 54) C dX9_fitsAt_23 (by decide) hq (fun hq => ?_) (fun hq => ?_)
    · refine x_iload C 4 dX9_fitsAt_54 rfl ?_
      exact hR _ _ _ _ (zr_2 hq) (zr_1 hq) dX9_fitsAt_56
    · refine x_iload C 4 dX9_fitsAt_26 rfl ?_
      refine x_if_eq (tgt := 45) C dX9_fitsAt_28 (by decide) hq (fun hq => ?_) (fun hq => ?_)
      · refine XG.sub [0, 1, 2, 3, 5] rfl ?_
        exact L_X9_fitsAt_45 C hdm hA hR0 hce hR ih _ _ _ _ _ hq
      · refine x_aload_n C 0 dX9_fitsAt_31 rfl ?_
        refine x_iload C 5 dX9_fitsAt_32 rfl ?_
        refine x_iload_n C 2 dX9_fitsAt_34 rfl ?_
        refine x_callVi (K := 10) (rm := rmv 2 47 0 0) (As := [iV (x5), iV (x2)]) (rest := []) C hA hR0 mf_X9_hasFlaw lk_X9_93 rfl (isK_lit hdm rfl rfl) (by decide) ⟨rfl, rfl⟩ ⟨Nat.le_of_ble_eq_true rfl, Nat.le_of_ble_eq_true rfl⟩ rfl rfl (Nat.le_of_ble_eq_true rfl) hce dX9_fitsAt_35 hq (fun _ _ h => c_X9_hasFlaw g.l g.G hdm  h) (fun r2 w1 _ hq => ?_)
        refine x_if_ne (tgt := 45) C dX9_fitsAt_38 (by decide) hq (fun hq => ?_) (fun hq => ?_)
        · refine XG.sub [0, 1, 2, 3, 5] rfl ?_
          exact L_X9_fitsAt_45 C hdm hA hR0 hce hR ih _ _ _ _ _ hq
        · refine x_iconst C dX9_fitsAt_41 ?_
          refine x_goto (tgt := 46) C dX9_fitsAt_42 (by decide) ?_
          refine XG.sub [0, 1, 2, 3, 5] rfl ?_
          exact L_X9_fitsAt_46 C hdm hA hR0 hce hR ih _ _ _ _ _ _ hq
set_option maxRecDepth 100000 in
set_option maxHeartbeats 4000000 in
theorem L_X9_fitsAt {g : Cx} {d : Dl} (C : CX g cX9_fitsAt 6 (some .boolean) RX9) (hdm : g.dm = 1) (hA : ∀ q : Nat, g.s.heap.size ≤ q → g.A q) (hR0 : g.R = rmv 3 69 0 0) (hce : d.ce ≤ g.R.cells ∧ d.so ≤ g.R.slots) {res : Int × Wd} (hR : rtI g d cX9_fitsAt .boolean res) (x1 : Int) (x2 : Int) (x3 : Int) (w : Wd) (hq : p_X9_fitsAt x1 x2 x3 w = some res) : XG g d (hP g d w) [(0, .ref (d.ad (50))), (1, iV (x1)), (2, iV (x2)), (3, iV (x3))] [] 0 := by
  refine x_iload_n C 1 dX9_fitsAt_0 rfl ?_
  refine x_iload_n C 3 dX9_fitsAt_1 rfl ?_
  refine x_iadd C dX9_fitsAt_2 ?_
  refine x_aload_n C 0 dX9_fitsAt_3 rfl ?_
  refine x_callVi (K := 10) (rm := rmv 0 0 0 0) (As := []) (rest := [iV (x1 + x3)]) C hA hR0 mf_X9_wide lk_X9_71 rfl (isK_lit hdm rfl rfl) (by decide) ⟨rfl, rfl⟩ ⟨Nat.le_of_ble_eq_true rfl, Nat.le_of_ble_eq_true rfl⟩ rfl rfl (Nat.le_of_ble_eq_true rfl) hce dX9_fitsAt_4 hq (fun _ _ h => c_X9_wide g.l g.G hdm  h) (fun r2 w1 _ hq => ?_)
  refine x_icmp_le (tgt := 12) C dX9_fitsAt_7 (by decide) hq (fun hq => ?_) (fun hq => ?_)
  · refine x_iconst C dX9_fitsAt_12 ?_
    refine x_istore (lv' := [(4, iV (1)), (0, .ref (d.ad (50))), (1, iV (x1)), (2, iV (x2)), (3, iV (x3))]) C dX9_fitsAt_13 (by decide) rfl ?_
    refine x_iload_n C 2 dX9_fitsAt_15 rfl ?_
    refine x_istore (lv' := [(5, iV (x1)), (4, iV (1)), (0, .ref (d.ad (50))), (1, iV (x1)), (2, iV (x2)), (3, iV (x3))]) C dX9_fitsAt_16 (by decide) rfl ?_
    refine XG.sub [2, 3, 4, 5, 1, 0] rfl ?_
    exact L_X9_fitsAt_18 C hdm hA hR0 hce hR _ _ _ _ _ _ _ hq
  · refine x_iconst C dX9_fitsAt_10 ?_
    exact hR _ _ _ _ hq (by decide +kernel) dX9_fitsAt_11
set_option maxRecDepth 100000 in
set_option maxHeartbeats 4000000 in
theorem c_X9_fitsAt (l : Launch) (G : Gd) {dm na : Nat} {ad : Nat → Nat} (hdm : dm = 1) {x1 : Int} {x2 : Int} {x3 : Int} {w w' : Wd} {r : Int}  (hq : p_X9_fitsAt x1 x2 x3 w = some (r, w')) : mI l yX9_fitsAt cX9_fitsAt 6 (some .boolean) (rmv 3 69 0 0) G dm na ad [.ref (ad (50)), iV (x1), iV (x2), iV (x3)] w r w' := by
  refine met_I [(0, .ref (ad (50))), (1, iV (x1)), (2, iV (x2)), (3, iV (x3))] (by decide) (Nat.le_of_ble_eq_true rfl) rfl .boolean rfl (fun g d C S hR => ?_)
  obtain ⟨rfl, hR0, rfl, rfl, rfl, hA⟩ := S
  exact L_X9_fitsAt (d := (na, ad, 0, 0)) C hdm hA hR0 ⟨Nat.zero_le _, Nat.zero_le _⟩ hR  _ _ _ w hq
set_option maxRecDepth 100000 in
set_option maxHeartbeats 4000000 in
theorem L_X9_findPlace_55 {g : Cx} {d : Dl} (C : CX g cX9_findPlace 2 (some .boolean) RX9) (hdm : g.dm = 1) (hA : ∀ q : Nat, g.s.heap.size ≤ q → g.A q) (hR0 : g.R = rmv 4 94 0 0) (hce : d.ce ≤ g.R.cells ∧ d.so ≤ g.R.slots) {res : Int × Wd} (hR : rtI g d cX9_findPlace .boolean res) {k0 : Int → Wd → Option (Int × Wd)} (hk0 : ∀ (x1 : Int) (w : Wd), k0 x1 w = some res → XG g d (hP g d w) [(0, .ref (d.ad (50))), (1, iV (x1))] [] 0) (x1 : Int) (w : Wd) (hq : p_X9_findPlace_55 k0 x1 w = some res) : XG g d (hP g d w) [(0, .ref (d.ad (50))), (1, iV (x1))] [] 55 := by
  refine x_aload_n C 0 dX9_findPlace_55 rfl ?_
  refine x_dup C rfl dX9_findPlace_56 ?_
  refine x_get (K := 10) (k := 7) C (isK_lit hdm rfl rfl) (by decide) cl_X9 (by decide) ⟨rfl, rfl, rfl⟩ fl_X9_96 dX9_findPlace_57 ?_
  refine x_iconst C dX9_findPlace_60 ?_
  refine x_iadd C dX9_findPlace_61 ?_
  refine x_put (K := 10) (k := 7) C (isK_lit hdm rfl rfl) (by decide) cl_X9 (by decide) ⟨rfl, rfl, rfl, rfl⟩ fl_X9_96 ⟨rfl, rfl⟩ dX9_findPlace_62 ?_
  refine x_aload_n C 0 dX9_findPlace_65 rfl ?_
  refine x_iconst C dX9_findPlace_66 ?_
  refine x_put (K := 10) (k := 8) C (isK_lit hdm rfl rfl) (by decide) cl_X9 (by decide) ⟨rfl, rfl, rfl, rfl⟩ fl_X9_99 ⟨rfl, rfl⟩ dX9_findPlace_67 ?_
  refine nmW hq (fun w1 ew1 hq => ?_)
  rw [← ew1]
  refine x_goto (tgt := 0) C dX9_findPlace_70 (by decide) ?_
  exact hk0 _ _ hq
set_option maxRecDepth 100000 in
set_option maxHeartbeats 4000000 in
theorem L_X9_findPlace_11 {g : Cx} {d : Dl} (C : CX g cX9_findPlace 2 (some .boolean) RX9) (hdm : g.dm = 1) (hA : ∀ q : Nat, g.s.heap.size ≤ q → g.A q) (hR0 : g.R = rmv 4 94 0 0) (hce : d.ce ≤ g.R.cells ∧ d.so ≤ g.R.slots) {res : Int × Wd} (hR : rtI g d cX9_findPlace .boolean res) {k0 : Int → Wd → Option (Int × Wd)} (hk0 : ∀ (x1 : Int) (w : Wd), k0 x1 w = some res → XG g d (hP g d w) [(0, .ref (d.ad (50))), (1, iV (x1))] [] 0) : ∀ (n : Nat) (x1 : Int) (w : Wd), p_X9_findPlace_11 k0 n x1 w = some res → XG g d (hP g d w) [(0, .ref (d.ad (50))), (1, iV (x1))] [] 11 := by
  intro n
  induction n with
  | zero => intro x1 w  hq; exact nomatch (show none = some _ from hq)
  | succ n ih =>
    intro x1 w  hq
    refine x_aload_n C 0 dX9_findPlace_11 rfl ?_
    refine x_get (K := 10) (k := 8) C (isK_lit hdm rfl rfl) (by decide) cl_X9 (by decide) ⟨rfl, rfl, rfl⟩ fl_X9_99 dX9_findPlace_12 ?_
    refine x_iload_n C 1 dX9_findPlace_15 rfl ?_
    refine x_iadd C dX9_findPlace_16 ?_
    refine x_aload_n C 0 dX9_findPlace_17 rfl ?_
    refine x_callVi (K := 10) (rm := rmv 0 0 0 0) (As := []) (rest := [iV ((gF w 50 8) + x1)]) C hA hR0 mf_X9_wide lk_X9_71 rfl (isK_lit hdm rfl rfl) (by decide) ⟨rfl, rfl⟩ ⟨Nat.le_of_ble_eq_true rfl, Nat.le_of_ble_eq_true rfl⟩ rfl rfl (Nat.le_of_ble_eq_true rfl) hce dX9_findPlace_18 hq (fun _ _ h => c_X9_wide g.l g.G hdm  h) (fun r2 w1 _ hq => ?_)
    refine x_icmp_gt (tgt := 55) C dX9_findPlace_21 (by decide) hq (fun hq => ?_) (fun hq => ?_)
    · exact L_X9_findPlace_55 C hdm hA hR0 hce hR hk0 _ _ hq
    · refine x_aload_n C 0 dX9_findPlace_24 rfl ?_
      refine x_aload_n C 0 dX9_findPlace_25 rfl ?_
      refine x_get (K := 10) (k := 8) C (isK_lit hdm rfl rfl) (by decide) cl_X9 (by decide) ⟨rfl, rfl, rfl⟩ fl_X9_99 dX9_findPlace_26 ?_
      refine x_aload_n C 0 dX9_findPlace_29 rfl ?_
      refine x_get (K := 10) (k := 7) C (isK_lit hdm rfl rfl) (by decide) cl_X9 (by decide) ⟨rfl, rfl, rfl⟩ fl_X9_96 dX9_findPlace_30 ?_
      refine x_iload_n C 1 dX9_findPlace_33 rfl ?_
      refine x_callVi (K := 10) (rm := rmv 3 69 0 0) (As := [iV (gF w1 50 8), iV (gF w1 50 7), iV (x1)]) (rest := []) C hA hR0 mf_X9_fitsAt lk_X9_102 rfl (isK_lit hdm rfl rfl) (by decide) ⟨rfl, rfl⟩ ⟨Nat.le_of_ble_eq_true rfl, Nat.le_of_ble_eq_true rfl⟩ rfl rfl (Nat.le_of_ble_eq_true rfl) hce dX9_findPlace_34 hq (fun _ _ h => c_X9_fitsAt g.l g.G hdm  h) (fun r4 w3 _ hq => ?_)
      refine x_if_eq (tgt := 42) C dX9_findPlace_37 (by decide) hq (fun hq => ?_) (fun hq => ?_)
      · refine x_aload_n C 0 dX9_findPlace_42 rfl ?_
        refine x_dup C rfl dX9_findPlace_43 ?_
        refine x_get (K := 10) (k := 8) C (isK_lit hdm rfl rfl) (by decide) cl_X9 (by decide) ⟨rfl, rfl, rfl⟩ fl_X9_99 dX9_findPlace_44 ?_
        refine x_iconst C dX9_findPlace_47 ?_
        refine x_iadd C dX9_findPlace_48 ?_
        refine x_put (K := 10) (k := 8) C (isK_lit hdm rfl rfl) (by decide) cl_X9 (by decide) ⟨rfl, rfl, rfl, rfl⟩ fl_X9_99 ⟨rfl, rfl⟩ dX9_findPlace_49 ?_
        refine x_goto (tgt := 11) C dX9_findPlace_52 (by decide) ?_
        exact ih _ _ hq
      · refine x_iconst C dX9_findPlace_40 ?_
        exact hR _ _ _ _ hq (by decide +kernel) dX9_findPlace_41
set_option maxRecDepth 100000 in
set_option maxHeartbeats 4000000 in
theorem L_X9_findPlace_0 {g : Cx} {d : Dl} (C : CX g cX9_findPlace 2 (some .boolean) RX9) (hdm : g.dm = 1) (hA : ∀ q : Nat, g.s.heap.size ≤ q → g.A q) (hR0 : g.R = rmv 4 94 0 0) (hce : d.ce ≤ g.R.cells ∧ d.so ≤ g.R.slots) {res : Int × Wd} (hR : rtI g d cX9_findPlace .boolean res) : ∀ (n : Nat) (x1 : Int) (w : Wd), p_X9_findPlace_0 n x1 w = some res → XG g d (hP g d w) [(0, .ref (d.ad (50))), (1, iV (x1))] [] 0 := by
  intro n
  induction n with
  | zero => intro x1 w  hq; exact nomatch (show none = some _ from hq)
  | succ n ih =>
    intro x1 w  hq
    refine x_aload_n C 0 dX9_findPlace_0 rfl ?_
    refine x_get (K := 10) (k := 7) C (isK_lit hdm rfl rfl) (by decide) cl_X9 (by decide) ⟨rfl, rfl, rfl⟩ fl_X9_96 dX9_findPlace_1 ?_
    refine x_aload_n C 0 dX9_findPlace_4 rfl ?_
    refine x_callVi (K := 10) (rm := rmv 0 0 0 0) (As := []) (rest := [iV (gF w 50 7)]) C hA hR0 mf_X9_high lk_X9_79 rfl (isK_lit hdm rfl rfl) (by decide) ⟨rfl, rfl⟩ ⟨Nat.le_of_ble_eq_true rfl, Nat.le_of_ble_eq_true rfl⟩ rfl rfl (Nat.le_of_ble_eq_true rfl) hce dX9_findPlace_5 hq (fun _ _ h => c_X9_high g.l g.G hdm  h) (fun r2 w1 _ hq => ?_)
    refine x_icmp_ge (tgt := 73) C dX9_findPlace_8 (by decide) hq (fun hq => ?_) (fun hq => ?_)
    · refine x_iconst C dX9_findPlace_73 ?_
      exact hR _ _ _ _ hq (by decide +kernel) dX9_findPlace_74
    · exact L_X9_findPlace_11 C hdm hA hR0 hce hR ih _ _ _ hq
set_option maxRecDepth 100000 in
set_option maxHeartbeats 4000000 in
theorem L_X9_findPlace {g : Cx} {d : Dl} (C : CX g cX9_findPlace 2 (some .boolean) RX9) (hdm : g.dm = 1) (hA : ∀ q : Nat, g.s.heap.size ≤ q → g.A q) (hR0 : g.R = rmv 4 94 0 0) (hce : d.ce ≤ g.R.cells ∧ d.so ≤ g.R.slots) {res : Int × Wd} (hR : rtI g d cX9_findPlace .boolean res) (x1 : Int) (w : Wd) (hq : p_X9_findPlace x1 w = some res) : XG g d (hP g d w) [(0, .ref (d.ad (50))), (1, iV (x1))] [] 0 := by
  exact L_X9_findPlace_0 C hdm hA hR0 hce hR _ _ _ hq
set_option maxRecDepth 100000 in
set_option maxHeartbeats 4000000 in
theorem c_X9_findPlace (l : Launch) (G : Gd) {dm na : Nat} {ad : Nat → Nat} (hdm : dm = 1) {x1 : Int} {w w' : Wd} {r : Int}  (hq : p_X9_findPlace x1 w = some (r, w')) : mI l yX9_findPlace cX9_findPlace 2 (some .boolean) (rmv 4 94 0 0) G dm na ad [.ref (ad (50)), iV (x1)] w r w' := by
  refine met_I [(0, .ref (ad (50))), (1, iV (x1))] (by decide) (Nat.le_of_ble_eq_true rfl) rfl .boolean rfl (fun g d C S hR => ?_)
  obtain ⟨rfl, hR0, rfl, rfl, rfl, hA⟩ := S
  exact L_X9_findPlace (d := (na, ad, 0, 0)) C hdm hA hR0 ⟨Nat.zero_le _, Nat.zero_le _⟩ hR  _ w hq
set_option maxRecDepth 100000 in
set_option maxHeartbeats 4000000 in
theorem L_X9_mayMove_51 {g : Cx} {d : Dl} (C : CX g cX9_mayMove 6 (some .boolean) RX9) (hdm : g.dm = 1) (hA : ∀ q : Nat, g.s.heap.size ≤ q → g.A q) (hR0 : g.R = rmv 4 94 0 0) (hce : d.ce ≤ g.R.cells ∧ d.so ≤ g.R.slots) {res : Int × Wd} (hR : rtI g d cX9_mayMove .boolean res) {k6 : Int → Int → Int → Int → Wd → Option (Int × Wd)} (hk6 : ∀ (x2 : Int) (x3 : Int) (x4 : Int) (x5 : Int) (w : Wd), k6 x2 x3 x4 x5 w = some res → XG g d (hP g d w) [(0, .ref (d.ad (50))), (2, iV (x2)), (3, iV (x3)), (4, iV (x4)), (5, iV (x5))] [] 6) (x2 : Int) (x3 : Int) (x5 : Int) (s0 : Int) (w : Wd) (hq : p_X9_mayMove_51 k6 x2 x3 x5 s0 w = some res) : XG g d (hP g d w) [(0, .ref (d.ad (50))), (2, iV (x2)), (3, iV (x3)), (5, iV (x5))] [iV (s0)] 51 := by
  refine x_istore (lv' := [(4, iV (s0)), (0, .ref (d.ad (50))), (2, iV (x2)), (3, iV (x3)), (5, iV (x5))]) C dX9_mayMove_51 (by decide) rfl ?_
  refine x_iinc (lv' := [(5, iV (x5 + 1)), (4, iV (s0)), (0, .ref (d.ad (50))), (2, iV (x2)), (3, iV (x3))]) C 4 dX9_mayMove_53 rfl (by decide) rfl ?_
  refine x_goto (tgt := 6) C dX9_mayMove_56 (by decide) ?_
  refine XG.sub [2, 3, 4, 1, 0] rfl ?_
  exact hk6 _ _ _ _ _ hq
set_option maxRecDepth 100000 in
set_option maxHeartbeats 4000000 in
theorem L_X9_mayMove_50 {g : Cx} {d : Dl} (C : CX g cX9_mayMove 6 (some .boolean) RX9) (hdm : g.dm = 1) (hA : ∀ q : Nat, g.s.heap.size ≤ q → g.A q) (hR0 : g.R = rmv 4 94 0 0) (hce : d.ce ≤ g.R.cells ∧ d.so ≤ g.R.slots) {res : Int × Wd} (hR : rtI g d cX9_mayMove .boolean res) {k6 : Int → Int → Int → Int → Wd → Option (Int × Wd)} (hk6 : ∀ (x2 : Int) (x3 : Int) (x4 : Int) (x5 : Int) (w : Wd), k6 x2 x3 x4 x5 w = some res → XG g d (hP g d w) [(0, .ref (d.ad (50))), (2, iV (x2)), (3, iV (x3)), (4, iV (x4)), (5, iV (x5))] [] 6) (x2 : Int) (x3 : Int) (x5 : Int) (w : Wd) (hq : p_X9_mayMove_50 k6 x2 x3 x5 w = some res) : XG g d (hP g d w) [(0, .ref (d.ad (50))), (2, iV (x2)), (3, iV (x3)), (5, iV (x5))] [] 50 := by
  refine x_iconst C dX9_mayMove_50 ?_
  exact L_X9_mayMove_51 C hdm hA hR0 hce hR hk6 _ _ _ _ _ hq
set_option maxRecDepth 100000 in
set_option maxHeartbeats 4000000 in
theorem L_X9_mayMove_6 {g : Cx} {d : Dl} (C : CX g cX9_mayMove 6 (some .boolean) RX9) (hdm : g.dm = 1) (hA : ∀ q : Nat, g.s.heap.size ≤ q → g.A q) (hR0 : g.R = rmv 4 94 0 0) (hce : d.ce ≤ g.R.cells ∧ d.so ≤ g.R.slots) {res : Int × Wd} (hR : rtI g d cX9_mayMove .boolean res) : ∀ (n : Nat) (x2 : Int) (x3 : Int) (x4 : Int) (x5 : Int) (w : Wd), p_X9_mayMove_6 n x2 x3 x4 x5 w = some res → XG g d (hP g d w) [(0, .ref (d.ad (50))), (2, iV (x2)), (3, iV (x3)), (4, iV (x4)), (5, iV (x5))] [] 6 := by
  intro n
  induction n with
  | zero => intro x2 x3 x4 x5 w  hq; exact nomatch (show none = some _ from hq)
  | succ n ih =>
    intro x2 x3 x4 x5 w  hq
    refine x_iload C 4 dX9_mayMove_6 rfl ?_
    refine x_iload_n C 1 dX9_mayMove_8 rfl ?_
    refine x_icmp_ge (tgt := 59) C dX9_mayMove_9 (by decide) hq (fun hq => ?_) (fun hq => ?_)
    · refine x_iload C 3 dX9_mayMove_59 rfl ?_
      exact hR _ _ _ _ (zr_2 hq) (zr_1 hq) dX9_mayMove_61
    · refine x_iload C 3 dX9_mayMove_12 rfl ?_
      refine x_if_eq (tgt := 50) C dX9_mayMove_14 (by decide) hq (fun hq => ?_) (fun hq => ?_)
      · refine XG.sub [0, 1, 2, 4] rfl ?_
        exact L_X9_mayMove_50 C hdm hA hR0 hce hR ih _ _ _ _ hq
      · refine x_aload_n C 0 dX9_mayMove_17 rfl ?_
        refine x_aload_n C 0 dX9_mayMove_18 rfl ?_
        refine x_getr (K := 10) (k := 5) (o2 := 54) C (isK_lit hdm rfl rfl) (by decide) cl_X9 (by decide) ⟨rfl, rfl, rfl⟩ fl_X9_30 rfl dX9_mayMove_19 ?_
        refine x_iload C 4 dX9_mayMove_22 rfl ?_
        refine inb_2 hq (fun hi hq => ?_)
        refine x_iald C (isK_lit hdm rfl rfl) hi dX9_mayMove_24 ?_
        refine x_iload_n C 2 dX9_mayMove_25 rfl ?_
        refine x_iadd C dX9_mayMove_26 ?_
        refine x_aload_n C 0 dX9_mayMove_27 rfl ?_
        refine x_getr (K := 10) (k := 4) (o2 := 53) C (isK_lit hdm rfl rfl) (by decide) cl_X9 (by decide) ⟨rfl, rfl, rfl⟩ fl_X9_27 rfl dX9_mayMove_28 ?_
        refine x_iload C 4 dX9_mayMove_31 rfl ?_
        refine inb_2 hq (fun hi hq => ?_)
        refine x_iald C (isK_lit hdm rfl rfl) hi dX9_mayMove_33 ?_
        refine x_aload_n C 0 dX9_mayMove_34 rfl ?_
        refine x_iload C 4 dX9_mayMove_35 rfl ?_
        refine x_callVi (K := 10) (rm := rmv 0 0 0 0) (As := [iV (x5)]) (rest := [iV (gA w 53 x5), iV ((gA w 54 x5) + x3), .ref (d.ad (50))]) C hA hR0 mf_X9_bytesOf lk_X9_106 rfl (isK_lit hdm rfl rfl) (by decide) ⟨rfl, rfl⟩ ⟨Nat.le_of_ble_eq_true rfl, Nat.le_of_ble_eq_true rfl⟩ rfl rfl (Nat.le_of_ble_eq_true rfl) hce dX9_mayMove_37 hq (fun _ _ h => c_X9_bytesOf g.l g.G hdm  h) (fun r2 w1 _ hq => ?_)
        refine x_callVi (K := 10) (rm := rmv 3 69 0 0) (As := [iV ((gA w 54 x5) + x3), iV (gA w 53 x5), iV (r2)]) (rest := []) C hA hR0 mf_X9_fitsAt lk_X9_102 rfl (isK_lit hdm rfl rfl) (by decide) ⟨rfl, rfl⟩ ⟨Nat.le_of_ble_eq_true rfl, Nat.le_of_ble_eq_true rfl⟩ rfl rfl (Nat.le_of_ble_eq_true rfl) hce dX9_mayMove_40 hq (fun _ _ h => c_X9_fitsAt g.l g.G hdm  h) (fun r4 w3 _ hq => ?_)
        refine x_if_eq (tgt := 50) C dX9_mayMove_43 (by decide) hq (fun hq => ?_) (fun hq => ?_)
        · refine XG.sub [0, 1, 2, 4] rfl ?_
          exact L_X9_mayMove_50 C hdm hA hR0 hce hR ih _ _ _ _ hq
        · refine x_iconst C dX9_mayMove_46 ?_
          refine x_goto (tgt := 51) C dX9_mayMove_47 (by decide) ?_
          refine XG.sub [0, 1, 2, 4] rfl ?_
          exact L_X9_mayMove_51 C hdm hA hR0 hce hR ih _ _ _ _ _ hq
set_option maxRecDepth 100000 in
set_option maxHeartbeats 4000000 in
theorem L_X9_mayMove {g : Cx} {d : Dl} (C : CX g cX9_mayMove 6 (some .boolean) RX9) (hdm : g.dm = 1) (hA : ∀ q : Nat, g.s.heap.size ≤ q → g.A q) (hR0 : g.R = rmv 4 94 0 0) (hce : d.ce ≤ g.R.cells ∧ d.so ≤ g.R.slots) {res : Int × Wd} (hR : rtI g d cX9_mayMove .boolean res) (x1 : Int) (x2 : Int) (x3 : Int) (w : Wd) (hq : p_X9_mayMove x1 x2 x3 w = some res) : XG g d (hP g d w) [(0, .ref (d.ad (50))), (1, iV (x1)), (2, iV (x2)), (3, iV (x3))] [] 0 := by
  refine x_iconst C dX9_mayMove_0 ?_
  refine x_istore (lv' := [(4, iV (1)), (0, .ref (d.ad (50))), (1, iV (x1)), (2, iV (x2)), (3, iV (x3))]) C dX9_mayMove_1 (by decide) rfl ?_
  refine x_iload_n C 2 dX9_mayMove_3 rfl ?_
  refine x_istore (lv' := [(5, iV (x1)), (4, iV (1)), (0, .ref (d.ad (50))), (1, iV (x1)), (2, iV (x2)), (3, iV (x3))]) C dX9_mayMove_4 (by decide) rfl ?_
  refine XG.sub [2, 4, 5, 1, 0] rfl ?_
  exact L_X9_mayMove_6 C hdm hA hR0 hce hR _ _ _ _ _ _ hq
set_option maxRecDepth 100000 in
set_option maxHeartbeats 4000000 in
theorem c_X9_mayMove (l : Launch) (G : Gd) {dm na : Nat} {ad : Nat → Nat} (hdm : dm = 1) {x1 : Int} {x2 : Int} {x3 : Int} {w w' : Wd} {r : Int}  (hq : p_X9_mayMove x1 x2 x3 w = some (r, w')) : mI l yX9_mayMove cX9_mayMove 6 (some .boolean) (rmv 4 94 0 0) G dm na ad [.ref (ad (50)), iV (x1), iV (x2), iV (x3)] w r w' := by
  refine met_I [(0, .ref (ad (50))), (1, iV (x1)), (2, iV (x2)), (3, iV (x3))] (by decide) (Nat.le_of_ble_eq_true rfl) rfl .boolean rfl (fun g d C S hR => ?_)
  obtain ⟨rfl, hR0, rfl, rfl, rfl, hA⟩ := S
  exact L_X9_mayMove (d := (na, ad, 0, 0)) C hdm hA hR0 ⟨Nat.zero_le _, Nat.zero_le _⟩ hR  _ _ _ w hq
set_option maxRecDepth 100000 in
set_option maxHeartbeats 4000000 in
theorem L_X9_moveRow_45 {g : Cx} {d : Dl} (C : CX g cX9_moveRow 6 none RX9) (hdm : g.dm = 1) (hA : ∀ q : Nat, g.s.heap.size ≤ q → g.A q) (hR0 : g.R = rmv 5 119 0 0) (hce : d.ce ≤ g.R.cells ∧ d.so ≤ g.R.slots) {res : Wd} (hR : rtV g d cX9_moveRow res) : ∀ (n : Nat) (x2 : Int) (x4 : Int) (x5 : Int) (w : Wd), p_X9_moveRow_45 n x2 x4 x5 w = some res → XG g d (hP g d w) [(0, .ref (d.ad (50))), (2, iV (x2)), (4, iV (x4)), (5, iV (x5))] [] 45 := by
  intro n
  induction n with
  | zero => intro x2 x4 x5 w  hq; exact nomatch (show none = some _ from hq)
  | succ n ih =>
    intro x2 x4 x5 w  hq
    refine x_iload C 3 dX9_moveRow_45 rfl ?_
    refine x_iload_n C 1 dX9_moveRow_47 rfl ?_
    refine x_icmp_ge (tgt := 69) C dX9_moveRow_48 (by decide) hq (fun hq => ?_) (fun hq => ?_)
    · exact hR _ _ _ hq dX9_moveRow_69
    · refine x_aload_n C 0 dX9_moveRow_51 rfl ?_
      refine x_getr (K := 10) (k := 5) (o2 := 54) C (isK_lit hdm rfl rfl) (by decide) cl_X9 (by decide) ⟨rfl, rfl, rfl⟩ fl_X9_30 rfl dX9_moveRow_52 ?_
      refine x_iload C 3 dX9_moveRow_55 rfl ?_
      refine x_dup2 C rfl rfl dX9_moveRow_57 ?_
      refine inb_2 hq (fun hi hq => ?_)
      refine x_iald C (isK_lit hdm rfl rfl) hi dX9_moveRow_58 ?_
      refine x_iload C 2 dX9_moveRow_59 rfl ?_
      refine x_iadd C dX9_moveRow_61 ?_
      refine inb_2 hq (fun hi hq => ?_)
      refine x_iast C (isK_lit hdm rfl rfl) hi dX9_moveRow_62 ?_
      refine x_iinc (lv' := [(5, iV (x5 + 1)), (0, .ref (d.ad (50))), (2, iV (x2)), (4, iV (x4))]) C 3 dX9_moveRow_63 rfl (by decide) rfl ?_
      refine x_goto (tgt := 45) C dX9_moveRow_66 (by decide) ?_
      refine XG.sub [1, 2, 3, 0] rfl ?_
      exact ih _ _ _ _ hq
set_option maxRecDepth 100000 in
set_option maxHeartbeats 4000000 in
theorem L_X9_moveRow_42 {g : Cx} {d : Dl} (C : CX g cX9_moveRow 6 none RX9) (hdm : g.dm = 1) (hA : ∀ q : Nat, g.s.heap.size ≤ q → g.A q) (hR0 : g.R = rmv 5 119 0 0) (hce : d.ce ≤ g.R.cells ∧ d.so ≤ g.R.slots) {res : Wd} (hR : rtV g d cX9_moveRow res) (x1 : Int) (x2 : Int) (x4 : Int) (w : Wd) (hq : p_X9_moveRow_42 x1 x2 x4 w = some res) : XG g d (hP g d w) [(0, .ref (d.ad (50))), (1, iV (x1)), (2, iV (x2)), (4, iV (x4))] [] 42 := by
  refine x_iload_n C 1 dX9_moveRow_42 rfl ?_
  refine x_istore (lv' := [(5, iV (x1)), (0, .ref (d.ad (50))), (1, iV (x1)), (2, iV (x2)), (4, iV (x4))]) C dX9_moveRow_43 (by decide) rfl ?_
  refine XG.sub [1, 3, 4, 0] rfl ?_
  exact L_X9_moveRow_45 C hdm hA hR0 hce hR _ _ _ _ _ hq
set_option maxRecDepth 100000 in
set_option maxHeartbeats 4000000 in
theorem L_X9_moveRow_25 {g : Cx} {d : Dl} (C : CX g cX9_moveRow 6 none RX9) (hdm : g.dm = 1) (hA : ∀ q : Nat, g.s.heap.size ≤ q → g.A q) (hR0 : g.R = rmv 5 119 0 0) (hce : d.ce ≤ g.R.cells ∧ d.so ≤ g.R.slots) {res : Wd} (hR : rtV g d cX9_moveRow res) : ∀ (n : Nat) (x1 : Int) (x2 : Int) (x4 : Int) (w : Wd), p_X9_moveRow_25 n x1 x2 x4 w = some res → XG g d (hP g d w) [(0, .ref (d.ad (50))), (1, iV (x1)), (2, iV (x2)), (4, iV (x4))] [] 25 := by
  intro n
  induction n with
  | zero => intro x1 x2 x4 w  hq; exact nomatch (show none = some _ from hq)
  | succ n ih =>
    intro x1 x2 x4 w  hq
    refine x_aload_n C 0 dX9_moveRow_25 rfl ?_
    refine x_iload_n C 1 dX9_moveRow_26 rfl ?_
    refine x_iload_n C 2 dX9_moveRow_27 rfl ?_
    refine x_iload C 3 dX9_moveRow_28 rfl ?_
    refine x_callVi (K := 10) (rm := rmv 4 94 0 0) (As := [iV (x1), iV (x2), iV (x4)]) (rest := []) C hA hR0 mf_X9_mayMove lk_X9_109 rfl (isK_lit hdm rfl rfl) (by decide) ⟨rfl, rfl⟩ ⟨Nat.le_of_ble_eq_true rfl, Nat.le_of_ble_eq_true rfl⟩ rfl rfl (Nat.le_of_ble_eq_true rfl) hce dX9_moveRow_30 hq (fun _ _ h => c_X9_mayMove g.l g.G hdm  h) (fun r2 w1 _ hq => ?_)
    refine x_if_ne (tgt := 42) C dX9_moveRow_33 (by decide) hq (fun hq => ?_) (fun hq => ?_)
    · exact L_X9_moveRow_42 C hdm hA hR0 hce hR _ _ _ _ hq
    · refine x_iinc (lv' := [(4, iV (x4 + (-1))), (0, .ref (d.ad (50))), (1, iV (x1)), (2, iV (x2))]) C 3 dX9_moveRow_36 rfl (by decide) rfl ?_
      refine x_goto (tgt := 25) C dX9_moveRow_39 (by decide) ?_
      refine XG.sub [1, 2, 3, 0] rfl ?_
      exact ih _ _ _ _ hq
set_option maxRecDepth 100000 in
set_option maxHeartbeats 4000000 in
theorem L_X9_moveRow {g : Cx} {d : Dl} (C : CX g cX9_moveRow 6 none RX9) (hdm : g.dm = 1) (hA : ∀ q : Nat, g.s.heap.size ≤ q → g.A q) (hR0 : g.R = rmv 5 119 0 0) (hce : d.ce ≤ g.R.cells ∧ d.so ≤ g.R.slots) {res : Wd} (hR : rtV g d cX9_moveRow res) (x1 : Int) (x2 : Int) (w : Wd) (hq : p_X9_moveRow x1 x2 w = some res) : XG g d (hP g d w) [(0, .ref (d.ad (50))), (1, iV (x1)), (2, iV (x2))] [] 0 := by
  refine x_iload_n C 2 dX9_moveRow_0 rfl ?_
  refine x_iconst C dX9_moveRow_1 ?_
  refine x_isub C dX9_moveRow_2 ?_
  refine x_istore_n (lv' := [(3, iV (x2 - 1)), (0, .ref (d.ad (50))), (1, iV (x1)), (2, iV (x2))]) C dX9_moveRow_3 (by decide) rfl ?_
  refine x_aload_n C 1 dX9_moveRow_4 rfl ?_
  refine x_callVi (K := 10) (rm := rmv 0 0 0 0) (As := []) (rest := []) C hA hR0 mf_X9_wide lk_X9_71 rfl (isK_lit hdm rfl rfl) (by decide) ⟨rfl, rfl⟩ ⟨Nat.le_of_ble_eq_true rfl, Nat.le_of_ble_eq_true rfl⟩ rfl rfl (Nat.le_of_ble_eq_true rfl) hce dX9_moveRow_5 hq (fun _ _ h => c_X9_wide g.l g.G hdm  h) (fun r2 w1 _ hq => ?_)
  refine x_aload_n C 1 dX9_moveRow_8 rfl ?_
  refine x_getr (K := 10) (k := 5) (o2 := 54) C (isK_lit hdm rfl rfl) (by decide) cl_X9 (by decide) ⟨rfl, rfl, rfl⟩ fl_X9_30 rfl dX9_moveRow_9 ?_
  refine x_iload_n C 0 dX9_moveRow_12 rfl ?_
  refine inb_2 hq (fun hi hq => ?_)
  refine x_iald C (isK_lit hdm rfl rfl) hi dX9_moveRow_13 ?_
  refine x_isub C dX9_moveRow_14 ?_
  refine x_aload_n C 1 dX9_moveRow_15 rfl ?_
  refine x_iload_n C 0 dX9_moveRow_16 rfl ?_
  refine x_callVi (K := 10) (rm := rmv 0 0 0 0) (As := [iV (x2 - 1)]) (rest := [iV (r2 - (gA w1 54 (x2 - 1)))]) C hA hR0 mf_X9_bytesOf lk_X9_106 rfl (isK_lit hdm rfl rfl) (by decide) ⟨rfl, rfl⟩ ⟨Nat.le_of_ble_eq_true rfl, Nat.le_of_ble_eq_true rfl⟩ rfl rfl (Nat.le_of_ble_eq_true rfl) hce dX9_moveRow_17 hq (fun _ _ h => c_X9_bytesOf g.l g.G hdm  h) (fun r4 w3 _ hq => ?_)
  refine x_isub C dX9_moveRow_20 ?_
  refine x_iconst C dX9_moveRow_21 ?_
  refine x_idiv C (by decide +kernel) dX9_moveRow_22 ?_
  refine x_istore (lv' := [(4, iV (dv32 ((r2 - (gA w1 54 (x2 - 1))) - r4) 2)), (3, iV (x2 - 1)), (0, .ref (d.ad (50))), (1, iV (x1)), (2, iV (x2))]) C dX9_moveRow_23 (by decide) rfl ?_
  refine XG.sub [2, 3, 4, 0] rfl ?_
  exact L_X9_moveRow_25 C hdm hA hR0 hce hR _ _ _ _ _ hq
set_option maxRecDepth 100000 in
set_option maxHeartbeats 4000000 in
theorem c_X9_moveRow (l : Launch) (G : Gd) {dm na : Nat} {ad : Nat → Nat} (hdm : dm = 1) {x1 : Int} {x2 : Int} {w w' : Wd}   (hq : p_X9_moveRow x1 x2 w = some w') : mV l yX9_moveRow cX9_moveRow 6 none (rmv 5 119 0 0) G dm na ad [.ref (ad (50)), iV (x1), iV (x2)] w w' := by
  refine met_V [(0, .ref (ad (50))), (1, iV (x1)), (2, iV (x2))] (by decide) (Nat.le_of_ble_eq_true rfl) rfl rfl (fun g d C S hR => ?_)
  obtain ⟨rfl, hR0, rfl, rfl, rfl, hA⟩ := S
  exact L_X9_moveRow (d := (na, ad, 0, 0)) C hdm hA hR0 ⟨Nat.zero_le _, Nat.zero_le _⟩ hR  _ _ w hq
set_option maxRecDepth 100000 in
set_option maxHeartbeats 4000000 in
theorem L_X9_moveName_38 {g : Cx} {d : Dl} (C : CX g cX9_moveName 5 none RX9) (hdm : g.dm = 1) (hA : ∀ q : Nat, g.s.heap.size ≤ q → g.A q) (hR0 : g.R = rmv 6 144 0 0) (hce : d.ce ≤ g.R.cells ∧ d.so ≤ g.R.slots) {res : Wd} (hR : rtV g d cX9_moveName res) {k2 : Int → Int → Wd → Option (Wd)} (hk2 : ∀ (x2 : Int) (x3 : Int) (w : Wd), k2 x2 x3 w = some res → XG g d (hP g d w) [(0, .ref (d.ad (50))), (2, iV (x2)), (3, iV (x3))] [] 2) (x2 : Int) (x3 : Int) (x4 : Int) (w : Wd) (hq : p_X9_moveName_38 k2 x2 x3 x4 w = some res) : XG g d (hP g d w) [(0, .ref (d.ad (50))), (2, iV (x2)), (3, iV (x3)), (4, iV (x4))] [] 38 := by
  refine x_aload_n C 0 dX9_moveName_38 rfl ?_
  refine x_iload_n C 2 dX9_moveName_39 rfl ?_
  refine x_iload C 3 dX9_moveName_40 rfl ?_
  refine x_callVv (K := 10) (rm := rmv 5 119 0 0) (As := [iV (x3), iV (x4)]) (rest := []) C hA hR0 mf_X9_moveRow lk_X9_112 rfl (isK_lit hdm rfl rfl) (by decide) ⟨rfl, rfl⟩ ⟨Nat.le_of_ble_eq_true rfl, Nat.le_of_ble_eq_true rfl⟩ rfl rfl (Nat.le_of_ble_eq_true rfl) hce dX9_moveName_42 hq (fun _ h => c_X9_moveRow g.l g.G hdm  h) (fun w1 _ hq => ?_)
  refine x_iload C 3 dX9_moveName_45 rfl ?_
  refine x_istore_n (lv' := [(3, iV (x4)), (0, .ref (d.ad (50))), (2, iV (x2)), (4, iV (x4))]) C dX9_moveName_47 (by decide) rfl ?_
  refine x_goto (tgt := 2) C dX9_moveName_48 (by decide) ?_
  refine XG.sub [1, 2, 0] rfl ?_
  exact hk2 _ _ _ hq
set_option maxRecDepth 100000 in
set_option maxHeartbeats 4000000 in
theorem L_X9_moveName_10 {g : Cx} {d : Dl} (C : CX g cX9_moveName 5 none RX9) (hdm : g.dm = 1) (hA : ∀ q : Nat, g.s.heap.size ≤ q → g.A q) (hR0 : g.R = rmv 6 144 0 0) (hce : d.ce ≤ g.R.cells ∧ d.so ≤ g.R.slots) {res : Wd} (hR : rtV g d cX9_moveName res) {k2 : Int → Int → Wd → Option (Wd)} (hk2 : ∀ (x2 : Int) (x3 : Int) (w : Wd), k2 x2 x3 w = some res → XG g d (hP g d w) [(0, .ref (d.ad (50))), (2, iV (x2)), (3, iV (x3))] [] 2) : ∀ (n : Nat) (x2 : Int) (x3 : Int) (x4 : Int) (w : Wd), p_X9_moveName_10 k2 n x2 x3 x4 w = some res → XG g d (hP g d w) [(0, .ref (d.ad (50))), (2, iV (x2)), (3, iV (x3)), (4, iV (x4))] [] 10 := by
  intro n
  induction n with
  | zero => intro x2 x3 x4 w  hq; exact nomatch (show none = some _ from hq)
  | succ n ih =>
    intro x2 x3 x4 w  hq
    refine x_iload C 3 dX9_moveName_10 rfl ?_
    refine x_iload_n C 1 dX9_moveName_12 rfl ?_
    refine x_icmp_ge (tgt := 38) C dX9_moveName_13 (by decide) hq (fun hq => ?_) (fun hq => ?_)
    · exact L_X9_moveName_38 C hdm hA hR0 hce hR hk2 _ _ _ _ hq
    · refine x_aload_n C 0 dX9_moveName_16 rfl ?_
      refine x_getr (K := 10) (k := 4) (o2 := 53) C (isK_lit hdm rfl rfl) (by decide) cl_X9 (by decide) ⟨rfl, rfl, rfl⟩ fl_X9_27 rfl dX9_moveName_17 ?_
      refine x_iload C 3 dX9_moveName_20 rfl ?_
      refine inb_2 hq (fun hi hq => ?_)
      refine x_iald C (isK_lit hdm rfl rfl) hi dX9_moveName_22 ?_
      refine x_aload_n C 0 dX9_moveName_23 rfl ?_
      refine x_getr (K := 10) (k := 4) (o2 := 53) C (isK_lit hdm rfl rfl) (by decide) cl_X9 (by decide) ⟨rfl, rfl, rfl⟩ fl_X9_27 rfl dX9_moveName_24 ?_
      refine x_iload_n C 2 dX9_moveName_27 rfl ?_
      refine inb_2 hq (fun hi hq => ?_)
      refine x_iald C (isK_lit hdm rfl rfl) hi dX9_moveName_28 ?_
      refine x_icmp_ne (tgt := 38) C dX9_moveName_29 (by decide) hq (fun hq => ?_) (fun hq => ?_)
      · exact L_X9_moveName_38 C hdm hA hR0 hce hR hk2 _ _ _ _ hq
      · refine x_iinc (lv' := [(4, iV (x4 + 1)), (0, .ref (d.ad (50))), (2, iV (x2)), (3, iV (x3))]) C 3 dX9_moveName_32 rfl (by decide) rfl ?_
        refine x_goto (tgt := 10) C dX9_moveName_35 (by decide) ?_
        refine XG.sub [1, 2, 3, 0] rfl ?_
        exact ih _ _ _ _ hq
set_option maxRecDepth 100000 in
set_option maxHeartbeats 4000000 in
theorem L_X9_moveName_2 {g : Cx} {d : Dl} (C : CX g cX9_moveName 5 none RX9) (hdm : g.dm = 1) (hA : ∀ q : Nat, g.s.heap.size ≤ q → g.A q) (hR0 : g.R = rmv 6 144 0 0) (hce : d.ce ≤ g.R.cells ∧ d.so ≤ g.R.slots) {res : Wd} (hR : rtV g d cX9_moveName res) : ∀ (n : Nat) (x2 : Int) (x3 : Int) (w : Wd), p_X9_moveName_2 n x2 x3 w = some res → XG g d (hP g d w) [(0, .ref (d.ad (50))), (2, iV (x2)), (3, iV (x3))] [] 2 := by
  intro n
  induction n with
  | zero => intro x2 x3 w  hq; exact nomatch (show none = some _ from hq)
  | succ n ih =>
    intro x2 x3 w  hq
    refine x_iload_n C 2 dX9_moveName_2 rfl ?_
    refine x_iload_n C 1 dX9_moveName_3 rfl ?_
    refine x_icmp_ge (tgt := 51) C dX9_moveName_4 (by decide) hq (fun hq => ?_) (fun hq => ?_)
    · exact hR _ _ _ hq dX9_moveName_51
    · refine x_iload_n C 2 dX9_moveName_7 rfl ?_
      refine x_istore (lv' := [(4, iV (x3)), (0, .ref (d.ad (50))), (2, iV (x2)), (3, iV (x3))]) C dX9_moveName_8 (by decide) rfl ?_
      refine XG.sub [1, 2, 3, 0] rfl ?_
      exact L_X9_moveName_10 C hdm hA hR0 hce hR ih _ _ _ _ _ hq
set_option maxRecDepth 100000 in
set_option maxHeartbeats 4000000 in
theorem L_X9_moveName {g : Cx} {d : Dl} (C : CX g cX9_moveName 5 none RX9) (hdm : g.dm = 1) (hA : ∀ q : Nat, g.s.heap.size ≤ q → g.A q) (hR0 : g.R = rmv 6 144 0 0) (hce : d.ce ≤ g.R.cells ∧ d.so ≤ g.R.slots) {res : Wd} (hR : rtV g d cX9_moveName res) (x1 : Int) (x2 : Int) (w : Wd) (hq : p_X9_moveName x1 x2 w = some res) : XG g d (hP g d w) [(0, .ref (d.ad (50))), (1, iV (x1)), (2, iV (x2))] [] 0 := by
  refine x_iload_n C 1 dX9_moveName_0 rfl ?_
  refine x_istore_n (lv' := [(3, iV (x1)), (0, .ref (d.ad (50))), (1, iV (x1)), (2, iV (x2))]) C dX9_moveName_1 (by decide) rfl ?_
  refine XG.sub [1, 3, 0] rfl ?_
  exact L_X9_moveName_2 C hdm hA hR0 hce hR _ _ _ _ hq
set_option maxRecDepth 100000 in
set_option maxHeartbeats 4000000 in
theorem c_X9_moveName (l : Launch) (G : Gd) {dm na : Nat} {ad : Nat → Nat} (hdm : dm = 1) {x1 : Int} {x2 : Int} {w w' : Wd}   (hq : p_X9_moveName x1 x2 w = some w') : mV l yX9_moveName cX9_moveName 5 none (rmv 6 144 0 0) G dm na ad [.ref (ad (50)), iV (x1), iV (x2)] w w' := by
  refine met_V [(0, .ref (ad (50))), (1, iV (x1)), (2, iV (x2))] (by decide) (Nat.le_of_ble_eq_true rfl) rfl rfl (fun g d C S hR => ?_)
  obtain ⟨rfl, hR0, rfl, rfl, rfl, hA⟩ := S
  exact L_X9_moveName (d := (na, ad, 0, 0)) C hdm hA hR0 ⟨Nat.zero_le _, Nat.zero_le _⟩ hR  _ _ w hq
set_option maxRecDepth 100000 in
set_option maxHeartbeats 4000000 in
theorem L_X9_layPart_107 {g : Cx} {d : Dl} (C : CX g cX9_layPart 5 (some .boolean) RX9) (hdm : g.dm = 1) (hA : ∀ q : Nat, g.s.heap.size ≤ q → g.A q) (hR0 : g.R = rmv 7 168 0 0) (hce : d.ce ≤ g.R.cells ∧ d.so ≤ g.R.slots) {res : Int × Wd} (hR : rtI g d cX9_layPart .boolean res)  (w : Wd) (hq : p_X9_layPart_107 w = some res) : XG g d (hP g d w) [(0, .ref (d.ad (50)))] [] 107 := by
  refine x_aload_n C 0 dX9_layPart_107 rfl ?_
  refine x_dup C rfl dX9_layPart_108 ?_
  refine x_get (K := 10) (k := 7) C (isK_lit hdm rfl rfl) (by decide) cl_X9 (by decide) ⟨rfl, rfl, rfl⟩ fl_X9_96 dX9_layPart_109 ?_
  refine x_aload_n C 0 dX9_layPart_112 rfl ?_
  refine x_getrow C hdm cl_X9 rfl ⟨rfl, rfl, rfl⟩ fl_X9_24 dX9_layPart_113 (fun q1 => ?_)
  refine x_iconst C dX9_layPart_116 ?_
  refine inb_2 hq (fun hi hq => ?_)
  refine x_iald C (okR_K hdm q1) (by rw [okR_ln q1]; exact hi) dX9_layPart_117 ?_
  refine x_iconst C dX9_layPart_118 ?_
  refine x_iadd C dX9_layPart_119 ?_
  refine x_iadd C dX9_layPart_120 ?_
  refine x_put (K := 10) (k := 7) C (isK_lit hdm rfl rfl) (by decide) cl_X9 (by decide) ⟨rfl, rfl, rfl, rfl⟩ fl_X9_96 ⟨rfl, rfl⟩ dX9_layPart_121 ?_
  refine x_aload_n C 0 dX9_layPart_124 rfl ?_
  refine x_iconst C dX9_layPart_125 ?_
  refine x_put (K := 10) (k := 8) C (isK_lit hdm rfl rfl) (by decide) cl_X9 (by decide) ⟨rfl, rfl, rfl, rfl⟩ fl_X9_99 ⟨rfl, rfl⟩ dX9_layPart_126 ?_
  refine nmW hq (fun w2 ew2 hq => ?_)
  rw [← ew2]
  refine x_iconst C dX9_layPart_129 ?_
  exact hR _ _ _ _ hq (by decide +kernel) dX9_layPart_130
set_option maxRecDepth 100000 in
set_option maxHeartbeats 4000000 in
theorem L_X9_layPart_93 {g : Cx} {d : Dl} (C : CX g cX9_layPart 5 (some .boolean) RX9) (hdm : g.dm = 1) (hA : ∀ q : Nat, g.s.heap.size ≤ q → g.A q) (hR0 : g.R = rmv 7 168 0 0) (hce : d.ce ≤ g.R.cells ∧ d.so ≤ g.R.slots) {res : Int × Wd} (hR : rtI g d cX9_layPart .boolean res) (x1 : Int) (x2 : Int) (x3 : Int) (w : Wd) (hq : p_X9_layPart_93 x1 x2 x3 w = some res) : XG g d (hP g d w) [(0, .ref (d.ad (50))), (1, iV (x1)), (2, iV (x2)), (3, iV (x3))] [] 93 := by
  refine x_aload_n C 0 dX9_layPart_93 rfl ?_
  refine x_iload_n C 1 dX9_layPart_94 rfl ?_
  refine x_callVi (K := 10) (rm := rmv 0 0 0 0) (As := [iV (x1)]) (rest := []) C hA hR0 mf_X9_kindOf lk_X9_123 rfl (isK_lit hdm rfl rfl) (by decide) ⟨rfl, rfl⟩ ⟨Nat.le_of_ble_eq_true rfl, Nat.le_of_ble_eq_true rfl⟩ rfl rfl (Nat.le_of_ble_eq_true rfl) hce dX9_layPart_95 hq (fun _ _ h => c_X9_kindOf g.l g.G hdm  h) (fun r2 w1 _ hq => ?_)
  refine x_if_ne (tgt := 107) C dX9_layPart_98 (by decide) hq (fun hq => ?_) (fun hq => ?_)
  · refine XG.sub [0] rfl ?_
    exact L_X9_layPart_107 C hdm hA hR0 hce hR _ hq
  · refine x_aload_n C 0 dX9_layPart_101 rfl ?_
    refine x_iload_n C 2 dX9_layPart_102 rfl ?_
    refine x_iload_n C 3 dX9_layPart_103 rfl ?_
    refine x_callVv (K := 10) (rm := rmv 6 144 0 0) (As := [iV (x2), iV (x3)]) (rest := []) C hA hR0 mf_X9_moveName lk_X9_126 rfl (isK_lit hdm rfl rfl) (by decide) ⟨rfl, rfl⟩ ⟨Nat.le_of_ble_eq_true rfl, Nat.le_of_ble_eq_true rfl⟩ rfl rfl (Nat.le_of_ble_eq_true rfl) hce dX9_layPart_104 hq (fun _ h => c_X9_moveName g.l g.G hdm  h) (fun w3 _ hq => ?_)
    refine XG.sub [0] rfl ?_
    exact L_X9_layPart_107 C hdm hA hR0 hce hR _ hq
set_option maxRecDepth 100000 in
set_option maxHeartbeats 4000000 in
theorem L_X9_layPart_17 {g : Cx} {d : Dl} (C : CX g cX9_layPart 5 (some .boolean) RX9) (hdm : g.dm = 1) (hA : ∀ q : Nat, g.s.heap.size ≤ q → g.A q) (hR0 : g.R = rmv 7 168 0 0) (hce : d.ce ≤ g.R.cells ∧ d.so ≤ g.R.slots) {res : Int × Wd} (hR : rtI g d cX9_layPart .boolean res) : ∀ (n : Nat) (x1 : Int) (x2 : Int) (x3 : Int) (x4 : Int) (w : Wd), p_X9_layPart_17 n x1 x2 x3 x4 w = some res → XG g d (hP g d w) [(0, .ref (d.ad (50))), (1, iV (x1)), (2, iV (x2)), (3, iV (x3)), (4, iV (x4))] [] 17 := by
  intro n
  induction n with
  | zero => intro x1 x2 x3 x4 w  hq; exact nomatch (show none = some _ from hq)
  | succ n ih =>
    intro x1 x2 x3 x4 w  hq
    refine x_iload C 4 dX9_layPart_17 rfl ?_
    refine x_iload_n C 3 dX9_layPart_19 rfl ?_
    refine x_icmp_ge (tgt := 93) C dX9_layPart_20 (by decide) hq (fun hq => ?_) (fun hq => ?_)
    · refine XG.sub [0, 1, 2, 3] rfl ?_
      exact L_X9_layPart_93 C hdm hA hR0 hce hR _ _ _ _ hq
    · refine x_aload_n C 0 dX9_layPart_23 rfl ?_
      refine x_aload_n C 0 dX9_layPart_24 rfl ?_
      refine x_iload C 4 dX9_layPart_25 rfl ?_
      refine x_callVi (K := 10) (rm := rmv 0 0 0 0) (As := [iV (x4)]) (rest := [.ref (d.ad (50))]) C hA hR0 mf_X9_bytesOf lk_X9_106 rfl (isK_lit hdm rfl rfl) (by decide) ⟨rfl, rfl⟩ ⟨Nat.le_of_ble_eq_true rfl, Nat.le_of_ble_eq_true rfl⟩ rfl rfl (Nat.le_of_ble_eq_true rfl) hce dX9_layPart_27 hq (fun _ _ h => c_X9_bytesOf g.l g.G hdm  h) (fun r2 w1 _ hq => ?_)
      refine x_callVi (K := 10) (rm := rmv 4 94 0 0) (As := [iV (r2)]) (rest := []) C hA hR0 mf_X9_findPlace lk_X9_116 rfl (isK_lit hdm rfl rfl) (by decide) ⟨rfl, rfl⟩ ⟨Nat.le_of_ble_eq_true rfl, Nat.le_of_ble_eq_true rfl⟩ rfl rfl (Nat.le_of_ble_eq_true rfl) hce dX9_layPart_30 hq (fun _ _ h => c_X9_findPlace g.l g.G hdm  h) (fun r4 w3 _ hq => ?_)
      refine x_if_ne (tgt := 38) C dX9_layPart_33 (by decide) hq (fun hq => ?_) (fun hq => ?_)
      · refine x_aload_n C 0 dX9_layPart_38 rfl ?_
        refine x_getr (K := 10) (k := 4) (o2 := 53) C (isK_lit hdm rfl rfl) (by decide) cl_X9 (by decide) ⟨rfl, rfl, rfl⟩ fl_X9_27 rfl dX9_layPart_39 ?_
        refine x_iload C 4 dX9_layPart_42 rfl ?_
        refine x_aload_n C 0 dX9_layPart_44 rfl ?_
        refine x_get (K := 10) (k := 7) C (isK_lit hdm rfl rfl) (by decide) cl_X9 (by decide) ⟨rfl, rfl, rfl⟩ fl_X9_96 dX9_layPart_45 ?_
        refine inb_2 hq (fun hi hq => ?_)
        refine x_iast C (isK_lit hdm rfl rfl) hi dX9_layPart_48 ?_
        refine x_aload_n C 0 dX9_layPart_49 rfl ?_
        refine x_getr (K := 10) (k := 5) (o2 := 54) C (isK_lit hdm rfl rfl) (by decide) cl_X9 (by decide) ⟨rfl, rfl, rfl⟩ fl_X9_30 rfl dX9_layPart_50 ?_
        refine x_iload C 4 dX9_layPart_53 rfl ?_
        refine x_aload_n C 0 dX9_layPart_55 rfl ?_
        refine x_get (K := 10) (k := 8) C (isK_lit hdm rfl rfl) (by decide) cl_X9 (by decide) ⟨rfl, rfl, rfl⟩ fl_X9_99 dX9_layPart_56 ?_
        refine inb_2 hq (fun hi hq => ?_)
        refine x_iast C (isK_lit hdm rfl rfl) hi dX9_layPart_59 ?_
        refine nmW hq (fun w5 ew5 hq => ?_)
        rw [← ew5]
        refine x_aload_n C 0 dX9_layPart_60 rfl ?_
        refine x_dup C rfl dX9_layPart_61 ?_
        refine x_get (K := 10) (k := 8) C (isK_lit hdm rfl rfl) (by decide) cl_X9 (by decide) ⟨rfl, rfl, rfl⟩ fl_X9_99 dX9_layPart_62 ?_
        refine x_aload_n C 0 dX9_layPart_65 rfl ?_
        refine x_iload C 4 dX9_layPart_66 rfl ?_
        refine x_callVi (K := 10) (rm := rmv 0 0 0 0) (As := [iV (x4)]) (rest := [iV (gF w5 50 8), .ref (d.ad (50))]) C hA hR0 mf_X9_bytesOf lk_X9_106 rfl (isK_lit hdm rfl rfl) (by decide) ⟨rfl, rfl⟩ ⟨Nat.le_of_ble_eq_true rfl, Nat.le_of_ble_eq_true rfl⟩ rfl rfl (Nat.le_of_ble_eq_true rfl) hce dX9_layPart_68 hq (fun _ _ h => c_X9_bytesOf g.l g.G hdm  h) (fun r7 w6 _ hq => ?_)
        refine x_iconst C dX9_layPart_71 ?_
        refine x_iadd C dX9_layPart_72 ?_
        refine x_iadd C dX9_layPart_73 ?_
        refine x_put (K := 10) (k := 8) C (isK_lit hdm rfl rfl) (by decide) cl_X9 (by decide) ⟨rfl, rfl, rfl, rfl⟩ fl_X9_99 ⟨rfl, rfl⟩ dX9_layPart_74 ?_
        refine x_aload_n C 0 dX9_layPart_77 rfl ?_
        refine x_dup C rfl dX9_layPart_78 ?_
        refine x_get (K := 10) (k := 6) C (isK_lit hdm rfl rfl) (by decide) cl_X9 (by decide) ⟨rfl, rfl, rfl⟩ fl_X9_120 dX9_layPart_79 ?_
        refine x_iconst C dX9_layPart_82 ?_
        refine x_iadd C dX9_layPart_83 ?_
        refine x_put (K := 10) (k := 6) C (isK_lit hdm rfl rfl) (by decide) cl_X9 (by decide) ⟨rfl, rfl, rfl, rfl⟩ fl_X9_120 ⟨rfl, rfl⟩ dX9_layPart_84 ?_
        refine nmW hq (fun w8 ew8 hq => ?_)
        rw [← ew8]
        refine x_iinc (lv' := [(4, iV (x4 + 1)), (0, .ref (d.ad (50))), (1, iV (x1)), (2, iV (x2)), (3, iV (x3))]) C 4 dX9_layPart_87 rfl (by decide) rfl ?_
        refine x_goto (tgt := 17) C dX9_layPart_90 (by decide) ?_
        refine XG.sub [1, 2, 3, 4, 0] rfl ?_
        exact ih _ _ _ _ _ hq
      · refine x_iconst C dX9_layPart_36 ?_
        exact hR _ _ _ _ hq (by decide +kernel) dX9_layPart_37
set_option maxRecDepth 100000 in
set_option maxHeartbeats 4000000 in
theorem L_X9_layPart {g : Cx} {d : Dl} (C : CX g cX9_layPart 5 (some .boolean) RX9) (hdm : g.dm = 1) (hA : ∀ q : Nat, g.s.heap.size ≤ q → g.A q) (hR0 : g.R = rmv 7 168 0 0) (hce : d.ce ≤ g.R.cells ∧ d.so ≤ g.R.slots) {res : Int × Wd} (hR : rtI g d cX9_layPart .boolean res) (x1 : Int) (w : Wd) (hq : p_X9_layPart x1 w = some res) : XG g d (hP g d w) [(0, .ref (d.ad (50))), (1, iV (x1))] [] 0 := by
  refine x_aload_n C 0 dX9_layPart_0 rfl ?_
  refine x_iload_n C 1 dX9_layPart_1 rfl ?_
  refine x_callVi (K := 10) (rm := rmv 1 21 0 0) (As := [iV (x1)]) (rest := []) C hA hR0 mf_X9_firstOf lk_X9_90 rfl (isK_lit hdm rfl rfl) (by decide) ⟨rfl, rfl⟩ ⟨Nat.le_of_ble_eq_true rfl, Nat.le_of_ble_eq_true rfl⟩ rfl rfl (Nat.le_of_ble_eq_true rfl) hce dX9_layPart_2 hq (fun _ _ h => c_X9_firstOf g.l g.G hdm  h) (fun r2 w1 _ hq => ?_)
  refine x_istore_n (lv' := [(2, iV (r2)), (0, .ref (d.ad (50))), (1, iV (x1))]) C dX9_layPart_5 (by decide) rfl ?_
  refine x_iload_n C 0 dX9_layPart_6 rfl ?_
  refine x_aload_n C 1 dX9_layPart_7 rfl ?_
  refine x_iload_n C 2 dX9_layPart_8 rfl ?_
  refine x_callVi (K := 10) (rm := rmv 0 0 0 0) (As := [iV (x1)]) (rest := [iV (r2)]) C hA hR0 mf_X9_manyOf lk_X9_86 rfl (isK_lit hdm rfl rfl) (by decide) ⟨rfl, rfl⟩ ⟨Nat.le_of_ble_eq_true rfl, Nat.le_of_ble_eq_true rfl⟩ rfl rfl (Nat.le_of_ble_eq_true rfl) hce dX9_layPart_9 hq (fun _ _ h => c_X9_manyOf g.l g.G hdm  h) (fun r4 w3 _ hq => ?_)
  refine x_iadd C dX9_layPart_12 ?_
  refine x_istore_n (lv' := [(3, iV (r2 + r4)), (2, iV (r2)), (0, .ref (d.ad (50))), (1, iV (x1))]) C dX9_layPart_13 (by decide) rfl ?_
  refine x_iload_n C 1 dX9_layPart_14 rfl ?_
  refine x_istore (lv' := [(4, iV (r2)), (3, iV (r2 + r4)), (2, iV (r2)), (0, .ref (d.ad (50))), (1, iV (x1))]) C dX9_layPart_15 (by decide) rfl ?_
  refine XG.sub [3, 4, 2, 1, 0] rfl ?_
  exact L_X9_layPart_17 C hdm hA hR0 hce hR _ _ _ _ _ _ hq
set_option maxRecDepth 100000 in
set_option maxHeartbeats 4000000 in
theorem c_X9_layPart (l : Launch) (G : Gd) {dm na : Nat} {ad : Nat → Nat} (hdm : dm = 1) {x1 : Int} {w w' : Wd} {r : Int}  (hq : p_X9_layPart x1 w = some (r, w')) : mI l yX9_layPart cX9_layPart 5 (some .boolean) (rmv 7 168 0 0) G dm na ad [.ref (ad (50)), iV (x1)] w r w' := by
  refine met_I [(0, .ref (ad (50))), (1, iV (x1))] (by decide) (Nat.le_of_ble_eq_true rfl) rfl .boolean rfl (fun g d C S hR => ?_)
  obtain ⟨rfl, hR0, rfl, rfl, rfl, hA⟩ := S
  exact L_X9_layPart (d := (na, ad, 0, 0)) C hdm hA hR0 ⟨Nat.zero_le _, Nat.zero_le _⟩ hR  _ w hq
set_option maxRecDepth 100000 in
set_option maxHeartbeats 4000000 in
theorem L_X9_lay_17 {g : Cx} {d : Dl} (C : CX g cX9_lay 2 (some .int) RX9) (hdm : g.dm = 1) (hA : ∀ q : Nat, g.s.heap.size ≤ q → g.A q) (hR0 : g.R = rmv 8 192 0 0) (hce : d.ce ≤ g.R.cells ∧ d.so ≤ g.R.slots) {res : Int × Wd} (hR : rtI g d cX9_lay .int res) : ∀ (n : Nat) (x1 : Int) (w : Wd), p_X9_lay_17 n x1 w = some res → XG g d (hP g d w) [(0, .ref (d.ad (50))), (1, iV (x1))] [] 17 := by
  intro n
  induction n with
  | zero => intro x1 w  hq; exact nomatch (show none = some _ from hq)
  | succ n ih =>
    intro x1 w  hq
    refine x_iload_n C 1 dX9_lay_17 rfl ?_
    refine x_aload_n C 0 dX9_lay_18 rfl ?_
    refine x_getrow C hdm cl_X9 rfl ⟨rfl, rfl, rfl⟩ fl_X9_24 dX9_lay_19 (fun q1 => ?_)
    refine x_bipush (v := 9) C dX9_lay_22 (by decide +kernel) ?_
    refine inb_2 hq (fun hi hq => ?_)
    refine x_iald C (okR_K hdm q1) (by rw [okR_ln q1]; exact hi) dX9_lay_24 ?_
    refine x_icmp_ge (tgt := 47) C dX9_lay_25 (by decide) hq (fun hq => ?_) (fun hq => ?_)
    · refine x_aload_n C 0 dX9_lay_47 rfl ?_
      refine x_get (K := 10) (k := 6) C (isK_lit hdm rfl rfl) (by decide) cl_X9 (by decide) ⟨rfl, rfl, rfl⟩ fl_X9_120 dX9_lay_48 ?_
      exact hR _ _ _ _ hq rfl dX9_lay_51
    · refine x_aload_n C 0 dX9_lay_28 rfl ?_
      refine x_iload_n C 1 dX9_lay_29 rfl ?_
      refine x_callVi (K := 10) (rm := rmv 7 168 0 0) (As := [iV (x1)]) (rest := []) C hA hR0 mf_X9_layPart lk_X9_129 rfl (isK_lit hdm rfl rfl) (by decide) ⟨rfl, rfl⟩ ⟨Nat.le_of_ble_eq_true rfl, Nat.le_of_ble_eq_true rfl⟩ rfl rfl (Nat.le_of_ble_eq_true rfl) hce dX9_lay_30 hq (fun _ _ h => c_X9_layPart g.l g.G hdm  h) (fun r3 w2 _ hq => ?_)
      refine x_if_ne (tgt := 41) C dX9_lay_33 (by decide) hq (fun hq => ?_) (fun hq => ?_)
      · refine x_iinc (lv' := [(1, iV (x1 + 1)), (0, .ref (d.ad (50)))]) C 1 dX9_lay_41 rfl (by decide) rfl ?_
        refine x_goto (tgt := 17) C dX9_lay_44 (by decide) ?_
        refine XG.sub [1, 0] rfl ?_
        exact ih _ _ hq
      · refine x_aload_n C 0 dX9_lay_36 rfl ?_
        refine x_get (K := 10) (k := 6) C (isK_lit hdm rfl rfl) (by decide) cl_X9 (by decide) ⟨rfl, rfl, rfl⟩ fl_X9_120 dX9_lay_37 ?_
        exact hR _ _ _ _ hq rfl dX9_lay_40
set_option maxRecDepth 100000 in
set_option maxHeartbeats 4000000 in
theorem L_X9_lay {g : Cx} {d : Dl} (C : CX g cX9_lay 2 (some .int) RX9) (hdm : g.dm = 1) (hA : ∀ q : Nat, g.s.heap.size ≤ q → g.A q) (hR0 : g.R = rmv 8 192 0 0) (hce : d.ce ≤ g.R.cells ∧ d.so ≤ g.R.slots) {res : Int × Wd} (hR : rtI g d cX9_lay .int res)  (w : Wd) (hq : p_X9_lay  w = some res) : XG g d (hP g d w) [(0, .ref (d.ad (50)))] [] 0 := by
  refine x_aload_n C 0 dX9_lay_0 rfl ?_
  refine x_iconst C dX9_lay_1 ?_
  refine x_put (K := 10) (k := 6) C (isK_lit hdm rfl rfl) (by decide) cl_X9 (by decide) ⟨rfl, rfl, rfl, rfl⟩ fl_X9_120 ⟨rfl, rfl⟩ dX9_lay_2 ?_
  refine x_aload_n C 0 dX9_lay_5 rfl ?_
  refine x_iconst C dX9_lay_6 ?_
  refine x_put (K := 10) (k := 7) C (isK_lit hdm rfl rfl) (by decide) cl_X9 (by decide) ⟨rfl, rfl, rfl, rfl⟩ fl_X9_96 ⟨rfl, rfl⟩ dX9_lay_7 ?_
  refine nmW hq (fun w1 ew1 hq => ?_)
  rw [← ew1]
  refine x_aload_n C 0 dX9_lay_10 rfl ?_
  refine x_iconst C dX9_lay_11 ?_
  refine x_put (K := 10) (k := 8) C (isK_lit hdm rfl rfl) (by decide) cl_X9 (by decide) ⟨rfl, rfl, rfl, rfl⟩ fl_X9_99 ⟨rfl, rfl⟩ dX9_lay_12 ?_
  refine x_iconst C dX9_lay_15 ?_
  refine x_istore_n (lv' := [(1, iV (0)), (0, .ref (d.ad (50)))]) C dX9_lay_16 (by decide) rfl ?_
  refine XG.sub [1, 0] rfl ?_
  exact L_X9_lay_17 C hdm hA hR0 hce hR _ _ _ hq
set_option maxRecDepth 100000 in
set_option maxHeartbeats 4000000 in
theorem c_X9_lay (l : Launch) (G : Gd) {dm na : Nat} {ad : Nat → Nat} (hdm : dm = 1)  {w w' : Wd} {r : Int}  (hq : p_X9_lay  w = some (r, w')) : mI l yX9_lay cX9_lay 2 (some .int) (rmv 8 192 0 0) G dm na ad [.ref (ad (50))] w r w' := by
  refine met_I [(0, .ref (ad (50)))] (by decide) (Nat.le_of_ble_eq_true rfl) rfl .int rfl (fun g d C S hR => ?_)
  obtain ⟨rfl, hR0, rfl, rfl, rfl, hA⟩ := S
  exact L_X9_lay (d := (na, ad, 0, 0)) C hdm hA hR0 ⟨Nat.zero_le _, Nat.zero_le _⟩ hR   w hq
set_option maxRecDepth 100000 in
set_option maxHeartbeats 4000000 in
theorem L_X9_isTouched_44 {g : Cx} {d : Dl} (C : CX g cX9_isTouched 3 (some .boolean) RX9) (hdm : g.dm = 1) (hA : ∀ q : Nat, g.s.heap.size ≤ q → g.A q) (hR0 : g.R = rmv 3 69 0 0) (hce : d.ce ≤ g.R.cells ∧ d.so ≤ g.R.slots) {res : Int × Wd} (hR : rtI g d cX9_isTouched .boolean res)  (w : Wd) (hq : p_X9_isTouched_44 w = some res) : XG g d (hP g d w) [] [] 44 := by
  refine x_iconst C dX9_isTouched_44 ?_
  refine x_goto (tgt := 49) C dX9_isTouched_45 (by decide) ?_
  exact hR _ _ _ _ hq (by decide +kernel) dX9_isTouched_49
set_option maxRecDepth 100000 in
set_option maxHeartbeats 4000000 in
theorem L_X9_isTouched {g : Cx} {d : Dl} (C : CX g cX9_isTouched 3 (some .boolean) RX9) (hdm : g.dm = 1) (hA : ∀ q : Nat, g.s.heap.size ≤ q → g.A q) (hR0 : g.R = rmv 3 69 0 0) (hce : d.ce ≤ g.R.cells ∧ d.so ≤ g.R.slots) {res : Int × Wd} (hR : rtI g d cX9_isTouched .boolean res) (x1 : Int) (x2 : Int) (w : Wd) (hq : p_X9_isTouched x1 x2 w = some res) : XG g d (hP g d w) [(0, .ref (d.ad (50))), (1, iV (x1)), (2, iV (x2))] [] 0 := by
  refine x_aload_n C 0 dX9_isTouched_0 rfl ?_
  refine x_iload_n C 1 dX9_isTouched_1 rfl ?_
  refine x_iconst C dX9_isTouched_2 ?_
  refine x_isub C dX9_isTouched_3 ?_
  refine x_iload_n C 2 dX9_isTouched_4 rfl ?_
  refine x_callVi (K := 10) (rm := rmv 2 47 0 0) (As := [iV (x1 - 1), iV (x2)]) (rest := []) C hA hR0 mf_X9_hasFlaw lk_X9_93 rfl (isK_lit hdm rfl rfl) (by decide) ⟨rfl, rfl⟩ ⟨Nat.le_of_ble_eq_true rfl, Nat.le_of_ble_eq_true rfl⟩ rfl rfl (Nat.le_of_ble_eq_true rfl) hce dX9_isTouched_5 hq (fun _ _ h => c_X9_hasFlaw g.l g.G hdm  h) (fun r2 w1 _ hq => ?_)
  refine x_if_ne (tgt := 44) C dX9_isTouched_8 (by decide) hq (fun hq => ?_) (fun hq => ?_)
  · refine XG.sub [] rfl ?_
    exact L_X9_isTouched_44 C hdm hA hR0 hce hR _ hq
  · refine x_aload_n C 0 dX9_isTouched_11 rfl ?_
    refine x_iload_n C 1 dX9_isTouched_12 rfl ?_
    refine x_iconst C dX9_isTouched_13 ?_
    refine x_iadd C dX9_isTouched_14 ?_
    refine x_iload_n C 2 dX9_isTouched_15 rfl ?_
    refine x_callVi (K := 10) (rm := rmv 2 47 0 0) (As := [iV (x1 + 1), iV (x2)]) (rest := []) C hA hR0 mf_X9_hasFlaw lk_X9_93 rfl (isK_lit hdm rfl rfl) (by decide) ⟨rfl, rfl⟩ ⟨Nat.le_of_ble_eq_true rfl, Nat.le_of_ble_eq_true rfl⟩ rfl rfl (Nat.le_of_ble_eq_true rfl) hce dX9_isTouched_16 hq (fun _ _ h => c_X9_hasFlaw g.l g.G hdm  h) (fun r4 w3 _ hq => ?_)
    refine x_if_ne (tgt := 44) C dX9_isTouched_19 (by decide) hq (fun hq => ?_) (fun hq => ?_)
    · refine XG.sub [] rfl ?_
      exact L_X9_isTouched_44 C hdm hA hR0 hce hR _ hq
    · refine x_aload_n C 0 dX9_isTouched_22 rfl ?_
      refine x_iload_n C 1 dX9_isTouched_23 rfl ?_
      refine x_iload_n C 2 dX9_isTouched_24 rfl ?_
      refine x_iconst C dX9_isTouched_25 ?_
      refine x_isub C dX9_isTouched_26 ?_
      refine x_callVi (K := 10) (rm := rmv 2 47 0 0) (As := [iV (x1), iV (x2 - 1)]) (rest := []) C hA hR0 mf_X9_hasFlaw lk_X9_93 rfl (isK_lit hdm rfl rfl) (by decide) ⟨rfl, rfl⟩ ⟨Nat.le_of_ble_eq_true rfl, Nat.le_of_ble_eq_true rfl⟩ rfl rfl (Nat.le_of_ble_eq_true rfl) hce dX9_isTouched_27 hq (fun _ _ h => c_X9_hasFlaw g.l g.G hdm  h) (fun r6 w5 _ hq => ?_)
      refine x_if_ne (tgt := 44) C dX9_isTouched_30 (by decide) hq (fun hq => ?_) (fun hq => ?_)
      · refine XG.sub [] rfl ?_
        exact L_X9_isTouched_44 C hdm hA hR0 hce hR _ hq
      · refine x_aload_n C 0 dX9_isTouched_33 rfl ?_
        refine x_iload_n C 1 dX9_isTouched_34 rfl ?_
        refine x_iload_n C 2 dX9_isTouched_35 rfl ?_
        refine x_iconst C dX9_isTouched_36 ?_
        refine x_iadd C dX9_isTouched_37 ?_
        refine x_callVi (K := 10) (rm := rmv 2 47 0 0) (As := [iV (x1), iV (x2 + 1)]) (rest := []) C hA hR0 mf_X9_hasFlaw lk_X9_93 rfl (isK_lit hdm rfl rfl) (by decide) ⟨rfl, rfl⟩ ⟨Nat.le_of_ble_eq_true rfl, Nat.le_of_ble_eq_true rfl⟩ rfl rfl (Nat.le_of_ble_eq_true rfl) hce dX9_isTouched_38 hq (fun _ _ h => c_X9_hasFlaw g.l g.G hdm  h) (fun r8 w7 _ hq => ?_)
        refine x_if_eq (tgt := 48) C dX9_isTouched_41 (by decide) hq (fun hq => ?_) (fun hq => ?_)
        · refine x_iconst C dX9_isTouched_48 ?_
          exact hR _ _ _ _ hq (by decide +kernel) dX9_isTouched_49
        · refine XG.sub [] rfl ?_
          exact L_X9_isTouched_44 C hdm hA hR0 hce hR _ hq
set_option maxRecDepth 100000 in
set_option maxHeartbeats 4000000 in
theorem c_X9_isTouched (l : Launch) (G : Gd) {dm na : Nat} {ad : Nat → Nat} (hdm : dm = 1) {x1 : Int} {x2 : Int} {w w' : Wd} {r : Int}  (hq : p_X9_isTouched x1 x2 w = some (r, w')) : mI l yX9_isTouched cX9_isTouched 3 (some .boolean) (rmv 3 69 0 0) G dm na ad [.ref (ad (50)), iV (x1), iV (x2)] w r w' := by
  refine met_I [(0, .ref (ad (50))), (1, iV (x1)), (2, iV (x2))] (by decide) (Nat.le_of_ble_eq_true rfl) rfl .boolean rfl (fun g d C S hR => ?_)
  obtain ⟨rfl, hR0, rfl, rfl, rfl, hA⟩ := S
  exact L_X9_isTouched (d := (na, ad, 0, 0)) C hdm hA hR0 ⟨Nat.zero_le _, Nat.zero_le _⟩ hR  _ _ w hq
set_option maxRecDepth 100000 in
set_option maxHeartbeats 4000000 in
theorem L_X9_plainStrokes {g : Cx} {d : Dl} (C : CX g cX9_plainStrokes 1 (some .int) RX9) (hdm : g.dm = 1) (hA : ∀ q : Nat, g.s.heap.size ≤ q → g.A q) (hR0 : g.R = rmv 0 0 0 0) (hce : d.ce ≤ g.R.cells ∧ d.so ≤ g.R.slots) {res : Int × Wd} (hR : rtI g d cX9_plainStrokes .int res) (x0 : Int) (w : Wd) (hq : p_X9_plainStrokes x0 w = some res) : XG g d (hP g d w) [(0, iV (x0))] [] 0 := by
  refine x_iload_n C 0 dX9_plainStrokes_0 rfl ?_
  refine x_bipush (v := 97) C dX9_plainStrokes_1 (by decide +kernel) ?_
  refine x_icmp_lt (tgt := 20) C dX9_plainStrokes_3 (by decide) hq (fun hq => ?_) (fun hq => ?_)
  · refine x_iconst C dX9_plainStrokes_20 ?_
    refine x_iload_n C 0 dX9_plainStrokes_21 rfl ?_
    refine x_bipush (v := 48) C dX9_plainStrokes_22 (by decide +kernel) ?_
    refine x_isub C dX9_plainStrokes_24 ?_
    refine x_iconst C dX9_plainStrokes_25 ?_
    refine x_irem C (by decide +kernel) dX9_plainStrokes_26 ?_
    refine x_iadd C dX9_plainStrokes_27 ?_
    exact hR _ _ _ _ hq rfl dX9_plainStrokes_28
  · refine x_iconst C dX9_plainStrokes_6 ?_
    refine x_bipush (v := 7) C dX9_plainStrokes_7 (by decide +kernel) ?_
    refine x_iload_n C 0 dX9_plainStrokes_9 rfl ?_
    refine x_bipush (v := 97) C dX9_plainStrokes_10 (by decide +kernel) ?_
    refine x_isub C dX9_plainStrokes_12 ?_
    refine x_imul C dX9_plainStrokes_13 ?_
    refine x_iconst C dX9_plainStrokes_14 ?_
    refine x_irem C (by decide +kernel) dX9_plainStrokes_15 ?_
    refine x_iadd C dX9_plainStrokes_16 ?_
    refine x_goto (tgt := 28) C dX9_plainStrokes_17 (by decide) ?_
    exact hR _ _ _ _ hq rfl dX9_plainStrokes_28
set_option maxRecDepth 100000 in
set_option maxHeartbeats 4000000 in
theorem c_X9_plainStrokes (l : Launch) (G : Gd) {dm na : Nat} {ad : Nat → Nat} (hdm : dm = 1) {x0 : Int} {w w' : Wd} {r : Int}  (hq : p_X9_plainStrokes x0 w = some (r, w')) : mI l yX9_plainStrokes cX9_plainStrokes 1 (some .int) (rmv 0 0 0 0) G dm na ad [iV (x0)] w r w' := by
  refine met_I [(0, iV (x0))] (by decide) (Nat.le_of_ble_eq_true rfl) rfl .int rfl (fun g d C S hR => ?_)
  obtain ⟨rfl, hR0, rfl, rfl, rfl, hA⟩ := S
  exact L_X9_plainStrokes (d := (na, ad, 0, 0)) C hdm hA hR0 ⟨Nat.zero_le _, Nat.zero_le _⟩ hR  _ w hq
set_option maxRecDepth 100000 in
set_option maxHeartbeats 4000000 in
theorem L_X9_strokesOf {g : Cx} {d : Dl} (C : CX g cX9_strokesOf 4 (some .int) RX9) (hdm : g.dm = 1) (hA : ∀ q : Nat, g.s.heap.size ≤ q → g.A q) (hR0 : g.R = rmv 4 91 0 0) (hce : d.ce ≤ g.R.cells ∧ d.so ≤ g.R.slots) {res : Int × Wd} (hR : rtI g d cX9_strokesOf .int res) (x1 : Int) (x2 : Int) (w : Wd) (hq : p_X9_strokesOf x1 x2 w = some res) : XG g d (hP g d w) [(0, .ref (d.ad (50))), (1, iV (x1)), (2, iV (x2))] [] 0 := by
  refine x_aload_n C 0 dX9_strokesOf_0 rfl ?_
  refine x_iload_n C 1 dX9_strokesOf_1 rfl ?_
  refine x_iload_n C 2 dX9_strokesOf_2 rfl ?_
  refine x_callVi (K := 10) (rm := rmv 0 0 0 0) (As := [iV (x1), iV (x2)]) (rest := []) C hA hR0 mf_X9_byteOf lk_X9_132 rfl (isK_lit hdm rfl rfl) (by decide) ⟨rfl, rfl⟩ ⟨Nat.le_of_ble_eq_true rfl, Nat.le_of_ble_eq_true rfl⟩ rfl rfl (Nat.le_of_ble_eq_true rfl) hce dX9_strokesOf_3 hq (fun _ _ h => c_X9_byteOf g.l g.G hdm  h) (fun r2 w1 _ hq => ?_)
  refine x_callSi (rm := rmv 0 0 0 0) (As := [iV (r2)]) (rest := []) C hA hR0 mf_X9_plainStrokes lk_X9_136 ⟨rfl, rfl⟩ ⟨Nat.le_of_ble_eq_true rfl, Nat.le_of_ble_eq_true rfl⟩ rfl rfl (Nat.le_of_ble_eq_true rfl) hce dX9_strokesOf_6 hq (fun _ _ h => c_X9_plainStrokes g.l g.G hdm  h) (fun r4 w3 _ hq => ?_)
  refine x_istore_n (lv' := [(3, iV (r4)), (0, .ref (d.ad (50))), (1, iV (x1)), (2, iV (x2))]) C dX9_strokesOf_9 (by decide) rfl ?_
  refine x_aload_n C 1 dX9_strokesOf_10 rfl ?_
  refine x_aload_n C 1 dX9_strokesOf_11 rfl ?_
  refine x_getr (K := 10) (k := 5) (o2 := 54) C (isK_lit hdm rfl rfl) (by decide) cl_X9 (by decide) ⟨rfl, rfl, rfl⟩ fl_X9_30 rfl dX9_strokesOf_12 ?_
  refine x_iload_n C 2 dX9_strokesOf_15 rfl ?_
  refine inb_2 hq (fun hi hq => ?_)
  refine x_iald C (isK_lit hdm rfl rfl) hi dX9_strokesOf_16 ?_
  refine x_iload_n C 3 dX9_strokesOf_17 rfl ?_
  refine x_iadd C dX9_strokesOf_18 ?_
  refine x_aload_n C 1 dX9_strokesOf_19 rfl ?_
  refine x_getr (K := 10) (k := 4) (o2 := 53) C (isK_lit hdm rfl rfl) (by decide) cl_X9 (by decide) ⟨rfl, rfl, rfl⟩ fl_X9_27 rfl dX9_strokesOf_20 ?_
  refine x_iload_n C 2 dX9_strokesOf_23 rfl ?_
  refine inb_2 hq (fun hi hq => ?_)
  refine x_iald C (isK_lit hdm rfl rfl) hi dX9_strokesOf_24 ?_
  refine x_callVi (K := 10) (rm := rmv 3 69 0 0) (As := [iV ((gA w3 54 x1) + x2), iV (gA w3 53 x1)]) (rest := []) C hA hR0 mf_X9_isTouched lk_X9_139 rfl (isK_lit hdm rfl rfl) (by decide) ⟨rfl, rfl⟩ ⟨Nat.le_of_ble_eq_true rfl, Nat.le_of_ble_eq_true rfl⟩ rfl rfl (Nat.le_of_ble_eq_true rfl) hce dX9_strokesOf_25 hq (fun _ _ h => c_X9_isTouched g.l g.G hdm  h) (fun r6 w5 _ hq => ?_)
  refine x_if_eq (tgt := 37) C dX9_strokesOf_28 (by decide) hq (fun hq => ?_) (fun hq => ?_)
  · refine x_iload_n C 0 dX9_strokesOf_37 rfl ?_
    exact hR _ _ _ _ hq rfl dX9_strokesOf_38
  · refine x_iconst C dX9_strokesOf_31 ?_
    refine x_iload_n C 0 dX9_strokesOf_32 rfl ?_
    refine x_imul C dX9_strokesOf_33 ?_
    refine x_goto (tgt := 38) C dX9_strokesOf_34 (by decide) ?_
    exact hR _ _ _ _ hq rfl dX9_strokesOf_38
set_option maxRecDepth 100000 in
set_option maxHeartbeats 4000000 in
theorem c_X9_strokesOf (l : Launch) (G : Gd) {dm na : Nat} {ad : Nat → Nat} (hdm : dm = 1) {x1 : Int} {x2 : Int} {w w' : Wd} {r : Int}  (hq : p_X9_strokesOf x1 x2 w = some (r, w')) : mI l yX9_strokesOf cX9_strokesOf 4 (some .int) (rmv 4 91 0 0) G dm na ad [.ref (ad (50)), iV (x1), iV (x2)] w r w' := by
  refine met_I [(0, .ref (ad (50))), (1, iV (x1)), (2, iV (x2))] (by decide) (Nat.le_of_ble_eq_true rfl) rfl .int rfl (fun g d C S hR => ?_)
  obtain ⟨rfl, hR0, rfl, rfl, rfl, hA⟩ := S
  exact L_X9_strokesOf (d := (na, ad, 0, 0)) C hdm hA hR0 ⟨Nat.zero_le _, Nat.zero_le _⟩ hR  _ _ w hq
set_option maxRecDepth 100000 in
set_option maxHeartbeats 4000000 in
theorem L_X9_strokesOfWord_4 {g : Cx} {d : Dl} (C : CX g cX9_strokesOfWord 4 (some .int) RX9) (hdm : g.dm = 1) (hA : ∀ q : Nat, g.s.heap.size ≤ q → g.A q) (hR0 : g.R = rmv 5 114 0 0) (hce : d.ce ≤ g.R.cells ∧ d.so ≤ g.R.slots) {res : Int × Wd} (hR : rtI g d cX9_strokesOfWord .int res) : ∀ (n : Nat) (x1 : Int) (x2 : Int) (x3 : Int) (w : Wd), p_X9_strokesOfWord_4 n x1 x2 x3 w = some res → XG g d (hP g d w) [(0, .ref (d.ad (50))), (1, iV (x1)), (2, iV (x2)), (3, iV (x3))] [] 4 := by
  intro n
  induction n with
  | zero => intro x1 x2 x3 w  hq; exact nomatch (show none = some _ from hq)
  | succ n ih =>
    intro x1 x2 x3 w  hq
    refine x_iload_n C 3 dX9_strokesOfWord_4 rfl ?_
    refine x_aload_n C 0 dX9_strokesOfWord_5 rfl ?_
    refine x_iload_n C 1 dX9_strokesOfWord_6 rfl ?_
    refine x_callVi (K := 10) (rm := rmv 0 0 0 0) (As := [iV (x1)]) (rest := [iV (x3)]) C hA hR0 mf_X9_bytesOf lk_X9_106 rfl (isK_lit hdm rfl rfl) (by decide) ⟨rfl, rfl⟩ ⟨Nat.le_of_ble_eq_true rfl, Nat.le_of_ble_eq_true rfl⟩ rfl rfl (Nat.le_of_ble_eq_true rfl) hce dX9_strokesOfWord_7 hq (fun _ _ h => c_X9_bytesOf g.l g.G hdm  h) (fun r2 w1 _ hq => ?_)
    refine x_icmp_ge (tgt := 28) C dX9_strokesOfWord_10 (by decide) hq (fun hq => ?_) (fun hq => ?_)
    · refine x_iload_n C 2 dX9_strokesOfWord_28 rfl ?_
      exact hR _ _ _ _ hq rfl dX9_strokesOfWord_29
    · refine x_iload_n C 2 dX9_strokesOfWord_13 rfl ?_
      refine x_aload_n C 0 dX9_strokesOfWord_14 rfl ?_
      refine x_iload_n C 1 dX9_strokesOfWord_15 rfl ?_
      refine x_iload_n C 3 dX9_strokesOfWord_16 rfl ?_
      refine x_callVi (K := 10) (rm := rmv 4 91 0 0) (As := [iV (x1), iV (x3)]) (rest := [iV (x2)]) C hA hR0 mf_X9_strokesOf lk_X9_142 rfl (isK_lit hdm rfl rfl) (by decide) ⟨rfl, rfl⟩ ⟨Nat.le_of_ble_eq_true rfl, Nat.le_of_ble_eq_true rfl⟩ rfl rfl (Nat.le_of_ble_eq_true rfl) hce dX9_strokesOfWord_17 hq (fun _ _ h => c_X9_strokesOf g.l g.G hdm  h) (fun r4 w3 _ hq => ?_)
      refine x_iadd C dX9_strokesOfWord_20 ?_
      refine x_istore_n (lv' := [(2, iV (x2 + r4)), (0, .ref (d.ad (50))), (1, iV (x1)), (3, iV (x3))]) C dX9_strokesOfWord_21 (by decide) rfl ?_
      refine x_iinc (lv' := [(3, iV (x3 + 1)), (2, iV (x2 + r4)), (0, .ref (d.ad (50))), (1, iV (x1))]) C 3 dX9_strokesOfWord_22 rfl (by decide) rfl ?_
      refine x_goto (tgt := 4) C dX9_strokesOfWord_25 (by decide) ?_
      refine XG.sub [2, 3, 1, 0] rfl ?_
      exact ih _ _ _ _ hq
set_option maxRecDepth 100000 in
set_option maxHeartbeats 4000000 in
theorem L_X9_strokesOfWord {g : Cx} {d : Dl} (C : CX g cX9_strokesOfWord 4 (some .int) RX9) (hdm : g.dm = 1) (hA : ∀ q : Nat, g.s.heap.size ≤ q → g.A q) (hR0 : g.R = rmv 5 114 0 0) (hce : d.ce ≤ g.R.cells ∧ d.so ≤ g.R.slots) {res : Int × Wd} (hR : rtI g d cX9_strokesOfWord .int res) (x1 : Int) (w : Wd) (hq : p_X9_strokesOfWord x1 w = some res) : XG g d (hP g d w) [(0, .ref (d.ad (50))), (1, iV (x1))] [] 0 := by
  refine x_iconst C dX9_strokesOfWord_0 ?_
  refine x_istore_n (lv' := [(2, iV (0)), (0, .ref (d.ad (50))), (1, iV (x1))]) C dX9_strokesOfWord_1 (by decide) rfl ?_
  refine x_iconst C dX9_strokesOfWord_2 ?_
  refine x_istore_n (lv' := [(3, iV (0)), (2, iV (0)), (0, .ref (d.ad (50))), (1, iV (x1))]) C dX9_strokesOfWord_3 (by decide) rfl ?_
  refine XG.sub [2, 3, 1, 0] rfl ?_
  exact L_X9_strokesOfWord_4 C hdm hA hR0 hce hR _ _ _ _ _ hq
set_option maxRecDepth 100000 in
set_option maxHeartbeats 4000000 in
theorem c_X9_strokesOfWord (l : Launch) (G : Gd) {dm na : Nat} {ad : Nat → Nat} (hdm : dm = 1) {x1 : Int} {w w' : Wd} {r : Int}  (hq : p_X9_strokesOfWord x1 w = some (r, w')) : mI l yX9_strokesOfWord cX9_strokesOfWord 4 (some .int) (rmv 5 114 0 0) G dm na ad [.ref (ad (50)), iV (x1)] w r w' := by
  refine met_I [(0, .ref (ad (50))), (1, iV (x1))] (by decide) (Nat.le_of_ble_eq_true rfl) rfl .int rfl (fun g d C S hR => ?_)
  obtain ⟨rfl, hR0, rfl, rfl, rfl, hA⟩ := S
  exact L_X9_strokesOfWord (d := (na, ad, 0, 0)) C hdm hA hR0 ⟨Nat.zero_le _, Nat.zero_le _⟩ hR  _ w hq
set_option maxRecDepth 100000 in
set_option maxHeartbeats 4000000 in
theorem L_X9_lettersAhead_4 {g : Cx} {d : Dl} (C : CX g cX9_lettersAhead 4 (some .int) RX9) (hdm : g.dm = 1) (hA : ∀ q : Nat, g.s.heap.size ≤ q → g.A q) (hR0 : g.R = rmv 1 21 0 0) (hce : d.ce ≤ g.R.cells ∧ d.so ≤ g.R.slots) {res : Int × Wd} (hR : rtI g d cX9_lettersAhead .int res) : ∀ (n : Nat) (x1 : Int) (x2 : Int) (x3 : Int) (w : Wd), p_X9_lettersAhead_4 n x1 x2 x3 w = some res → XG g d (hP g d w) [(0, .ref (d.ad (50))), (1, iV (x1)), (2, iV (x2)), (3, iV (x3))] [] 4 := by
  intro n
  induction n with
  | zero => intro x1 x2 x3 w  hq; exact nomatch (show none = some _ from hq)
  | succ n ih =>
    intro x1 x2 x3 w  hq
    refine x_iload_n C 3 dX9_lettersAhead_4 rfl ?_
    refine x_iload_n C 1 dX9_lettersAhead_5 rfl ?_
    refine x_icmp_ge (tgt := 23) C dX9_lettersAhead_6 (by decide) hq (fun hq => ?_) (fun hq => ?_)
    · refine x_iload_n C 2 dX9_lettersAhead_23 rfl ?_
      exact hR _ _ _ _ hq rfl dX9_lettersAhead_24
    · refine x_iload_n C 2 dX9_lettersAhead_9 rfl ?_
      refine x_aload_n C 0 dX9_lettersAhead_10 rfl ?_
      refine x_iload_n C 3 dX9_lettersAhead_11 rfl ?_
      refine x_callVi (K := 10) (rm := rmv 0 0 0 0) (As := [iV (x3)]) (rest := [iV (x2)]) C hA hR0 mf_X9_bytesOf lk_X9_106 rfl (isK_lit hdm rfl rfl) (by decide) ⟨rfl, rfl⟩ ⟨Nat.le_of_ble_eq_true rfl, Nat.le_of_ble_eq_true rfl⟩ rfl rfl (Nat.le_of_ble_eq_true rfl) hce dX9_lettersAhead_12 hq (fun _ _ h => c_X9_bytesOf g.l g.G hdm  h) (fun r2 w1 _ hq => ?_)
      refine x_iadd C dX9_lettersAhead_15 ?_
      refine x_istore_n (lv' := [(2, iV (x2 + r2)), (0, .ref (d.ad (50))), (1, iV (x1)), (3, iV (x3))]) C dX9_lettersAhead_16 (by decide) rfl ?_
      refine x_iinc (lv' := [(3, iV (x3 + 1)), (2, iV (x2 + r2)), (0, .ref (d.ad (50))), (1, iV (x1))]) C 3 dX9_lettersAhead_17 rfl (by decide) rfl ?_
      refine x_goto (tgt := 4) C dX9_lettersAhead_20 (by decide) ?_
      refine XG.sub [2, 3, 1, 0] rfl ?_
      exact ih _ _ _ _ hq
set_option maxRecDepth 100000 in
set_option maxHeartbeats 4000000 in
theorem L_X9_lettersAhead {g : Cx} {d : Dl} (C : CX g cX9_lettersAhead 4 (some .int) RX9) (hdm : g.dm = 1) (hA : ∀ q : Nat, g.s.heap.size ≤ q → g.A q) (hR0 : g.R = rmv 1 21 0 0) (hce : d.ce ≤ g.R.cells ∧ d.so ≤ g.R.slots) {res : Int × Wd} (hR : rtI g d cX9_lettersAhead .int res) (x1 : Int) (w : Wd) (hq : p_X9_lettersAhead x1 w = some res) : XG g d (hP g d w) [(0, .ref (d.ad (50))), (1, iV (x1))] [] 0 := by
  refine x_iconst C dX9_lettersAhead_0 ?_
  refine x_istore_n (lv' := [(2, iV (0)), (0, .ref (d.ad (50))), (1, iV (x1))]) C dX9_lettersAhead_1 (by decide) rfl ?_
  refine x_iconst C dX9_lettersAhead_2 ?_
  refine x_istore_n (lv' := [(3, iV (0)), (2, iV (0)), (0, .ref (d.ad (50))), (1, iV (x1))]) C dX9_lettersAhead_3 (by decide) rfl ?_
  refine XG.sub [2, 3, 1, 0] rfl ?_
  exact L_X9_lettersAhead_4 C hdm hA hR0 hce hR _ _ _ _ _ hq
set_option maxRecDepth 100000 in
set_option maxHeartbeats 4000000 in
theorem c_X9_lettersAhead (l : Launch) (G : Gd) {dm na : Nat} {ad : Nat → Nat} (hdm : dm = 1) {x1 : Int} {w w' : Wd} {r : Int}  (hq : p_X9_lettersAhead x1 w = some (r, w')) : mI l yX9_lettersAhead cX9_lettersAhead 4 (some .int) (rmv 1 21 0 0) G dm na ad [.ref (ad (50)), iV (x1)] w r w' := by
  refine met_I [(0, .ref (ad (50))), (1, iV (x1))] (by decide) (Nat.le_of_ble_eq_true rfl) rfl .int rfl (fun g d C S hR => ?_)
  obtain ⟨rfl, hR0, rfl, rfl, rfl, hA⟩ := S
  exact L_X9_lettersAhead (d := (na, ad, 0, 0)) C hdm hA hR0 ⟨Nat.zero_le _, Nat.zero_le _⟩ hR  _ w hq
set_option maxRecDepth 100000 in
set_option maxHeartbeats 4000000 in
theorem L_X9_letters {g : Cx} {d : Dl} (C : CX g cX9_letters 1 (some .int) RX9) (hdm : g.dm = 1) (hA : ∀ q : Nat, g.s.heap.size ≤ q → g.A q) (hR0 : g.R = rmv 2 44 0 0) (hce : d.ce ≤ g.R.cells ∧ d.so ≤ g.R.slots) {res : Int × Wd} (hR : rtI g d cX9_letters .int res)  (w : Wd) (hq : p_X9_letters  w = some res) : XG g d (hP g d w) [(0, .ref (d.ad (50)))] [] 0 := by
  refine x_aload_n C 0 dX9_letters_0 rfl ?_
  refine x_aload_n C 0 dX9_letters_1 rfl ?_
  refine x_get (K := 10) (k := 6) C (isK_lit hdm rfl rfl) (by decide) cl_X9 (by decide) ⟨rfl, rfl, rfl⟩ fl_X9_120 dX9_letters_2 ?_
  refine x_callVi (K := 10) (rm := rmv 1 21 0 0) (As := [iV (gF w 50 6)]) (rest := []) C hA hR0 mf_X9_lettersAhead lk_X9_145 rfl (isK_lit hdm rfl rfl) (by decide) ⟨rfl, rfl⟩ ⟨Nat.le_of_ble_eq_true rfl, Nat.le_of_ble_eq_true rfl⟩ rfl rfl (Nat.le_of_ble_eq_true rfl) hce dX9_letters_5 hq (fun _ _ h => c_X9_lettersAhead g.l g.G hdm  h) (fun r2 w1 _ hq => ?_)
  exact hR _ _ _ _ hq rfl dX9_letters_8
set_option maxRecDepth 100000 in
set_option maxHeartbeats 4000000 in
theorem c_X9_letters (l : Launch) (G : Gd) {dm na : Nat} {ad : Nat → Nat} (hdm : dm = 1)  {w w' : Wd} {r : Int}  (hq : p_X9_letters  w = some (r, w')) : mI l yX9_letters cX9_letters 1 (some .int) (rmv 2 44 0 0) G dm na ad [.ref (ad (50))] w r w' := by
  refine met_I [(0, .ref (ad (50)))] (by decide) (Nat.le_of_ble_eq_true rfl) rfl .int rfl (fun g d C S hR => ?_)
  obtain ⟨rfl, hR0, rfl, rfl, rfl, hA⟩ := S
  exact L_X9_letters (d := (na, ad, 0, 0)) C hdm hA hR0 ⟨Nat.zero_le _, Nat.zero_le _⟩ hR   w hq
set_option maxRecDepth 100000 in
set_option maxHeartbeats 4000000 in
theorem L_X9_wordOfLetter_2 {g : Cx} {d : Dl} (C : CX g cX9_wordOfLetter 3 (some .int) RX9) (hdm : g.dm = 1) (hA : ∀ q : Nat, g.s.heap.size ≤ q → g.A q) (hR0 : g.R = rmv 2 44 0 0) (hce : d.ce ≤ g.R.cells ∧ d.so ≤ g.R.slots) {res : Int × Wd} (hR : rtI g d cX9_wordOfLetter .int res) : ∀ (n : Nat) (x1 : Int) (x2 : Int) (w : Wd), p_X9_wordOfLetter_2 n x1 x2 w = some res → XG g d (hP g d w) [(0, .ref (d.ad (50))), (1, iV (x1)), (2, iV (x2))] [] 2 := by
  intro n
  induction n with
  | zero => intro x1 x2 w  hq; exact nomatch (show none = some _ from hq)
  | succ n ih =>
    intro x1 x2 w  hq
    refine x_aload_n C 0 dX9_wordOfLetter_2 rfl ?_
    refine x_iload_n C 2 dX9_wordOfLetter_3 rfl ?_
    refine x_iconst C dX9_wordOfLetter_4 ?_
    refine x_iadd C dX9_wordOfLetter_5 ?_
    refine x_callVi (K := 10) (rm := rmv 1 21 0 0) (As := [iV (x2 + 1)]) (rest := []) C hA hR0 mf_X9_lettersAhead lk_X9_145 rfl (isK_lit hdm rfl rfl) (by decide) ⟨rfl, rfl⟩ ⟨Nat.le_of_ble_eq_true rfl, Nat.le_of_ble_eq_true rfl⟩ rfl rfl (Nat.le_of_ble_eq_true rfl) hce dX9_wordOfLetter_6 hq (fun _ _ h => c_X9_lettersAhead g.l g.G hdm  h) (fun r2 w1 _ hq => ?_)
    refine x_iload_n C 1 dX9_wordOfLetter_9 rfl ?_
    refine x_icmp_gt (tgt := 19) C dX9_wordOfLetter_10 (by decide) hq (fun hq => ?_) (fun hq => ?_)
    · refine x_iload_n C 2 dX9_wordOfLetter_19 rfl ?_
      exact hR _ _ _ _ hq rfl dX9_wordOfLetter_20
    · refine x_iinc (lv' := [(2, iV (x2 + 1)), (0, .ref (d.ad (50))), (1, iV (x1))]) C 2 dX9_wordOfLetter_13 rfl (by decide) rfl ?_
      refine x_goto (tgt := 2) C dX9_wordOfLetter_16 (by decide) ?_
      refine XG.sub [1, 2, 0] rfl ?_
      exact ih _ _ _ hq
set_option maxRecDepth 100000 in
set_option maxHeartbeats 4000000 in
theorem L_X9_wordOfLetter {g : Cx} {d : Dl} (C : CX g cX9_wordOfLetter 3 (some .int) RX9) (hdm : g.dm = 1) (hA : ∀ q : Nat, g.s.heap.size ≤ q → g.A q) (hR0 : g.R = rmv 2 44 0 0) (hce : d.ce ≤ g.R.cells ∧ d.so ≤ g.R.slots) {res : Int × Wd} (hR : rtI g d cX9_wordOfLetter .int res) (x1 : Int) (w : Wd) (hq : p_X9_wordOfLetter x1 w = some res) : XG g d (hP g d w) [(0, .ref (d.ad (50))), (1, iV (x1))] [] 0 := by
  refine x_iconst C dX9_wordOfLetter_0 ?_
  refine x_istore_n (lv' := [(2, iV (0)), (0, .ref (d.ad (50))), (1, iV (x1))]) C dX9_wordOfLetter_1 (by decide) rfl ?_
  refine XG.sub [1, 2, 0] rfl ?_
  exact L_X9_wordOfLetter_2 C hdm hA hR0 hce hR _ _ _ _ hq
set_option maxRecDepth 100000 in
set_option maxHeartbeats 4000000 in
theorem c_X9_wordOfLetter (l : Launch) (G : Gd) {dm na : Nat} {ad : Nat → Nat} (hdm : dm = 1) {x1 : Int} {w w' : Wd} {r : Int}  (hq : p_X9_wordOfLetter x1 w = some (r, w')) : mI l yX9_wordOfLetter cX9_wordOfLetter 3 (some .int) (rmv 2 44 0 0) G dm na ad [.ref (ad (50)), iV (x1)] w r w' := by
  refine met_I [(0, .ref (ad (50))), (1, iV (x1))] (by decide) (Nat.le_of_ble_eq_true rfl) rfl .int rfl (fun g d C S hR => ?_)
  obtain ⟨rfl, hR0, rfl, rfl, rfl, hA⟩ := S
  exact L_X9_wordOfLetter (d := (na, ad, 0, 0)) C hdm hA hR0 ⟨Nat.zero_le _, Nat.zero_le _⟩ hR  _ w hq
set_option maxRecDepth 100000 in
set_option maxHeartbeats 4000000 in
theorem L_X9_strokesOfLetter {g : Cx} {d : Dl} (C : CX g cX9_strokesOfLetter 3 (some .int) RX9) (hdm : g.dm = 1) (hA : ∀ q : Nat, g.s.heap.size ≤ q → g.A q) (hR0 : g.R = rmv 5 114 0 0) (hce : d.ce ≤ g.R.cells ∧ d.so ≤ g.R.slots) {res : Int × Wd} (hR : rtI g d cX9_strokesOfLetter .int res) (x1 : Int) (w : Wd) (hq : p_X9_strokesOfLetter x1 w = some res) : XG g d (hP g d w) [(0, .ref (d.ad (50))), (1, iV (x1))] [] 0 := by
  refine x_aload_n C 0 dX9_strokesOfLetter_0 rfl ?_
  refine x_iload_n C 1 dX9_strokesOfLetter_1 rfl ?_
  refine x_callVi (K := 10) (rm := rmv 2 44 0 0) (As := [iV (x1)]) (rest := []) C hA hR0 mf_X9_wordOfLetter lk_X9_148 rfl (isK_lit hdm rfl rfl) (by decide) ⟨rfl, rfl⟩ ⟨Nat.le_of_ble_eq_true rfl, Nat.le_of_ble_eq_true rfl⟩ rfl rfl (Nat.le_of_ble_eq_true rfl) hce dX9_strokesOfLetter_2 hq (fun _ _ h => c_X9_wordOfLetter g.l g.G hdm  h) (fun r2 w1 _ hq => ?_)
  refine x_istore_n (lv' := [(2, iV (r2)), (0, .ref (d.ad (50))), (1, iV (x1))]) C dX9_strokesOfLetter_5 (by decide) rfl ?_
  refine x_aload_n C 1 dX9_strokesOfLetter_6 rfl ?_
  refine x_iload_n C 0 dX9_strokesOfLetter_7 rfl ?_
  refine x_iload_n C 2 dX9_strokesOfLetter_8 rfl ?_
  refine x_aload_n C 1 dX9_strokesOfLetter_9 rfl ?_
  refine x_iload_n C 0 dX9_strokesOfLetter_10 rfl ?_
  refine x_callVi (K := 10) (rm := rmv 1 21 0 0) (As := [iV (r2)]) (rest := [iV (x1), iV (r2), .ref (d.ad (50))]) C hA hR0 mf_X9_lettersAhead lk_X9_145 rfl (isK_lit hdm rfl rfl) (by decide) ⟨rfl, rfl⟩ ⟨Nat.le_of_ble_eq_true rfl, Nat.le_of_ble_eq_true rfl⟩ rfl rfl (Nat.le_of_ble_eq_true rfl) hce dX9_strokesOfLetter_11 hq (fun _ _ h => c_X9_lettersAhead g.l g.G hdm  h) (fun r4 w3 _ hq => ?_)
  refine x_isub C dX9_strokesOfLetter_14 ?_
  refine x_callVi (K := 10) (rm := rmv 4 91 0 0) (As := [iV (r2), iV (x1 - r4)]) (rest := []) C hA hR0 mf_X9_strokesOf lk_X9_142 rfl (isK_lit hdm rfl rfl) (by decide) ⟨rfl, rfl⟩ ⟨Nat.le_of_ble_eq_true rfl, Nat.le_of_ble_eq_true rfl⟩ rfl rfl (Nat.le_of_ble_eq_true rfl) hce dX9_strokesOfLetter_15 hq (fun _ _ h => c_X9_strokesOf g.l g.G hdm  h) (fun r6 w5 _ hq => ?_)
  exact hR _ _ _ _ hq rfl dX9_strokesOfLetter_18
set_option maxRecDepth 100000 in
set_option maxHeartbeats 4000000 in
theorem c_X9_strokesOfLetter (l : Launch) (G : Gd) {dm na : Nat} {ad : Nat → Nat} (hdm : dm = 1) {x1 : Int} {w w' : Wd} {r : Int}  (hq : p_X9_strokesOfLetter x1 w = some (r, w')) : mI l yX9_strokesOfLetter cX9_strokesOfLetter 3 (some .int) (rmv 5 114 0 0) G dm na ad [.ref (ad (50)), iV (x1)] w r w' := by
  refine met_I [(0, .ref (ad (50))), (1, iV (x1))] (by decide) (Nat.le_of_ble_eq_true rfl) rfl .int rfl (fun g d C S hR => ?_)
  obtain ⟨rfl, hR0, rfl, rfl, rfl, hA⟩ := S
  exact L_X9_strokesOfLetter (d := (na, ad, 0, 0)) C hdm hA hR0 ⟨Nat.zero_le _, Nat.zero_le _⟩ hR  _ w hq
set_option maxRecDepth 100000 in
set_option maxHeartbeats 4000000 in
theorem L_X9_wordIn_52 {g : Cx} {d : Dl} (C : CX g cX9_wordIn 4 (some .int) RX9) (hdm : g.dm = 1) (hA : ∀ q : Nat, g.s.heap.size ≤ q → g.A q) (hR0 : g.R = rmv 1 25 0 0) (hce : d.ce ≤ g.R.cells ∧ d.so ≤ g.R.slots) {res : Int × Wd} (hR : rtI g d cX9_wordIn .int res) {k2 : Int → Int → Int → Wd → Option (Int × Wd)} (hk2 : ∀ (x1 : Int) (x2 : Int) (x3 : Int) (w : Wd), k2 x1 x2 x3 w = some res → XG g d (hP g d w) [(0, .ref (d.ad (50))), (1, iV (x1)), (2, iV (x2)), (3, iV (x3))] [] 2) (x1 : Int) (x2 : Int) (x3 : Int) (w : Wd) (hq : p_X9_wordIn_52 k2 x1 x2 x3 w = some res) : XG g d (hP g d w) [(0, .ref (d.ad (50))), (1, iV (x1)), (2, iV (x2)), (3, iV (x3))] [] 52 := by
  refine x_iinc (lv' := [(3, iV (x3 + 1)), (0, .ref (d.ad (50))), (1, iV (x1)), (2, iV (x2))]) C 3 dX9_wordIn_52 rfl (by decide) rfl ?_
  refine x_goto (tgt := 2) C dX9_wordIn_55 (by decide) ?_
  refine XG.sub [1, 2, 3, 0] rfl ?_
  exact hk2 _ _ _ _ hq
set_option maxRecDepth 100000 in
set_option maxHeartbeats 4000000 in
theorem L_X9_wordIn_2 {g : Cx} {d : Dl} (C : CX g cX9_wordIn 4 (some .int) RX9) (hdm : g.dm = 1) (hA : ∀ q : Nat, g.s.heap.size ≤ q → g.A q) (hR0 : g.R = rmv 1 25 0 0) (hce : d.ce ≤ g.R.cells ∧ d.so ≤ g.R.slots) {res : Int × Wd} (hR : rtI g d cX9_wordIn .int res) : ∀ (n : Nat) (x1 : Int) (x2 : Int) (x3 : Int) (w : Wd), p_X9_wordIn_2 n x1 x2 x3 w = some res → XG g d (hP g d w) [(0, .ref (d.ad (50))), (1, iV (x1)), (2, iV (x2)), (3, iV (x3))] [] 2 := by
  intro n
  induction n with
  | zero => intro x1 x2 x3 w  hq; exact nomatch (show none = some _ from hq)
  | succ n ih =>
    intro x1 x2 x3 w  hq
    refine x_iload_n C 3 dX9_wordIn_2 rfl ?_
    refine x_aload_n C 0 dX9_wordIn_3 rfl ?_
    refine x_get (K := 10) (k := 6) C (isK_lit hdm rfl rfl) (by decide) cl_X9 (by decide) ⟨rfl, rfl, rfl⟩ fl_X9_120 dX9_wordIn_4 ?_
    refine x_icmp_ge (tgt := 58) C dX9_wordIn_7 (by decide) hq (fun hq => ?_) (fun hq => ?_)
    · refine x_iconst C dX9_wordIn_58 ?_
      exact hR _ _ _ _ hq rfl dX9_wordIn_59
    · refine x_aload_n C 0 dX9_wordIn_10 rfl ?_
      refine x_getr (K := 10) (k := 4) (o2 := 53) C (isK_lit hdm rfl rfl) (by decide) cl_X9 (by decide) ⟨rfl, rfl, rfl⟩ fl_X9_27 rfl dX9_wordIn_11 ?_
      refine x_iload_n C 3 dX9_wordIn_14 rfl ?_
      refine inb_2 hq (fun hi hq => ?_)
      refine x_iald C (isK_lit hdm rfl rfl) hi dX9_wordIn_15 ?_
      refine x_iload_n C 2 dX9_wordIn_16 rfl ?_
      refine x_icmp_ne (tgt := 52) C dX9_wordIn_17 (by decide) hq (fun hq => ?_) (fun hq => ?_)
      · exact L_X9_wordIn_52 C hdm hA hR0 hce hR ih _ _ _ _ hq
      · refine x_iload_n C 1 dX9_wordIn_20 rfl ?_
        refine x_i2l C dX9_wordIn_21 ?_
        refine x_aload_n C 0 dX9_wordIn_22 rfl ?_
        refine x_getr (K := 10) (k := 5) (o2 := 54) C (isK_lit hdm rfl rfl) (by decide) cl_X9 (by decide) ⟨rfl, rfl, rfl⟩ fl_X9_30 rfl dX9_wordIn_23 ?_
        refine x_iload_n C 3 dX9_wordIn_26 rfl ?_
        refine inb_2 hq (fun hi hq => ?_)
        refine x_iald C (isK_lit hdm rfl rfl) hi dX9_wordIn_27 ?_
        refine x_i2l C dX9_wordIn_28 ?_
        refine x_aload_n C 0 dX9_wordIn_29 rfl ?_
        refine x_getr (K := 10) (k := 5) (o2 := 54) C (isK_lit hdm rfl rfl) (by decide) cl_X9 (by decide) ⟨rfl, rfl, rfl⟩ fl_X9_30 rfl dX9_wordIn_30 ?_
        refine x_iload_n C 3 dX9_wordIn_33 rfl ?_
        refine inb_2 hq (fun hi hq => ?_)
        refine x_iald C (isK_lit hdm rfl rfl) hi dX9_wordIn_34 ?_
        refine x_aload_n C 0 dX9_wordIn_35 rfl ?_
        refine x_iload_n C 3 dX9_wordIn_36 rfl ?_
        refine x_callVi (K := 10) (rm := rmv 0 0 0 0) (As := [iV (x3)]) (rest := [iV (gA w 54 x3), jV (w32 (gA w 54 x3)), jV (w32 x1)]) C hA hR0 mf_X9_bytesOf lk_X9_106 rfl (isK_lit hdm rfl rfl) (by decide) ⟨rfl, rfl⟩ ⟨Nat.le_of_ble_eq_true rfl, Nat.le_of_ble_eq_true rfl⟩ rfl rfl (Nat.le_of_ble_eq_true rfl) hce dX9_wordIn_37 hq (fun _ _ h => c_X9_bytesOf g.l g.G hdm  h) (fun r2 w1 _ hq => ?_)
        refine x_iadd C dX9_wordIn_40 ?_
        refine x_iconst C dX9_wordIn_41 ?_
        refine x_isub C dX9_wordIn_42 ?_
        refine x_i2l C dX9_wordIn_43 ?_
        refine x_callSi (rm := rmv 0 0 0 0) (As := [jV (w32 x1), jV (w32 (gA w 54 x3)), jV (w32 (((gA w 54 x3) + r2) - 1))]) (rest := []) C hA hR0 mf_X9_in lk_X9_75 ⟨rfl, rfl⟩ ⟨Nat.le_of_ble_eq_true rfl, Nat.le_of_ble_eq_true rfl⟩ rfl rfl (Nat.le_of_ble_eq_true rfl) hce dX9_wordIn_44 hq (fun _ _ h => c_X9_in g.l g.G hdm  h) (fun r4 w3 _ hq => ?_)
        refine x_if_eq (tgt := 52) C dX9_wordIn_47 (by decide) hq (fun hq => ?_) (fun hq => ?_)
        · exact L_X9_wordIn_52 C hdm hA hR0 hce hR ih _ _ _ _ hq
        · refine x_iload_n C 3 dX9_wordIn_50 rfl ?_
          exact hR _ _ _ _ hq rfl dX9_wordIn_51
set_option maxRecDepth 100000 in
set_option maxHeartbeats 4000000 in
theorem L_X9_wordIn {g : Cx} {d : Dl} (C : CX g cX9_wordIn 4 (some .int) RX9) (hdm : g.dm = 1) (hA : ∀ q : Nat, g.s.heap.size ≤ q → g.A q) (hR0 : g.R = rmv 1 25 0 0) (hce : d.ce ≤ g.R.cells ∧ d.so ≤ g.R.slots) {res : Int × Wd} (hR : rtI g d cX9_wordIn .int res) (x1 : Int) (x2 : Int) (w : Wd) (hq : p_X9_wordIn x1 x2 w = some res) : XG g d (hP g d w) [(0, .ref (d.ad (50))), (1, iV (x1)), (2, iV (x2))] [] 0 := by
  refine x_iconst C dX9_wordIn_0 ?_
  refine x_istore_n (lv' := [(3, iV (0)), (0, .ref (d.ad (50))), (1, iV (x1)), (2, iV (x2))]) C dX9_wordIn_1 (by decide) rfl ?_
  refine XG.sub [1, 2, 3, 0] rfl ?_
  exact L_X9_wordIn_2 C hdm hA hR0 hce hR _ _ _ _ _ hq
set_option maxRecDepth 100000 in
set_option maxHeartbeats 4000000 in
theorem c_X9_wordIn (l : Launch) (G : Gd) {dm na : Nat} {ad : Nat → Nat} (hdm : dm = 1) {x1 : Int} {x2 : Int} {w w' : Wd} {r : Int}  (hq : p_X9_wordIn x1 x2 w = some (r, w')) : mI l yX9_wordIn cX9_wordIn 4 (some .int) (rmv 1 25 0 0) G dm na ad [.ref (ad (50)), iV (x1), iV (x2)] w r w' := by
  refine met_I [(0, .ref (ad (50))), (1, iV (x1)), (2, iV (x2))] (by decide) (Nat.le_of_ble_eq_true rfl) rfl .int rfl (fun g d C S hR => ?_)
  obtain ⟨rfl, hR0, rfl, rfl, rfl, hA⟩ := S
  exact L_X9_wordIn (d := (na, ad, 0, 0)) C hdm hA hR0 ⟨Nat.zero_le _, Nat.zero_le _⟩ hR  _ _ w hq
set_option maxRecDepth 100000 in
set_option maxHeartbeats 4000000 in
theorem L_X9_timeForLetter_51 {g : Cx} {d : Dl} (C : CX g cX9_timeForLetter 5 (some .int) RX9) (hdm : g.dm = 1) (hA : ∀ q : Nat, g.s.heap.size ≤ q → g.A q) (hR0 : g.R = rmv 6 136 0 0) (hce : d.ce ≤ g.R.cells ∧ d.so ≤ g.R.slots) {res : Int × Wd} (hR : rtI g d cX9_timeForLetter .int res) (x3 : Int) (x4 : Int) (w : Wd) (hq : p_X9_timeForLetter_51 x3 x4 w = some res) : XG g d (hP g d w) [(0, .ref (d.ad (50))), (3, iV (x3)), (4, iV (x4))] [] 51 := by
  refine x_aload_n C 0 dX9_timeForLetter_51 rfl ?_
  refine x_iconst C dX9_timeForLetter_52 ?_
  refine x_aload_n C 0 dX9_timeForLetter_53 rfl ?_
  refine x_get (K := 10) (k := 9) C (isK_lit hdm rfl rfl) (by decide) cl_X9 (by decide) ⟨rfl, rfl, rfl⟩ fl_X9_154 dX9_timeForLetter_54 ?_
  refine x_iload_n C 1 dX9_timeForLetter_57 rfl ?_
  refine x_isub C dX9_timeForLetter_58 ?_
  refine x_max C hR0 lk_X9_160 jm_max_s jm_i jm_max_c ⟨Nat.le_of_ble_eq_true rfl, Nat.le_of_ble_eq_true rfl⟩ hce dX9_timeForLetter_59 ?_
  refine x_put (K := 10) (k := 9) C (isK_lit hdm rfl rfl) (by decide) cl_X9 (by decide) ⟨rfl, rfl, rfl, rfl⟩ fl_X9_154 ⟨rfl, rfl⟩ dX9_timeForLetter_62 ?_
  refine x_iload C 2 dX9_timeForLetter_65 rfl ?_
  exact hR _ _ _ _ hq rfl dX9_timeForLetter_67
set_option maxRecDepth 100000 in
set_option maxHeartbeats 4000000 in
theorem L_X9_timeForLetter {g : Cx} {d : Dl} (C : CX g cX9_timeForLetter 5 (some .int) RX9) (hdm : g.dm = 1) (hA : ∀ q : Nat, g.s.heap.size ≤ q → g.A q) (hR0 : g.R = rmv 6 136 0 0) (hce : d.ce ≤ g.R.cells ∧ d.so ≤ g.R.slots) {res : Int × Wd} (hR : rtI g d cX9_timeForLetter .int res) (x1 : Int) (x2 : Int) (w : Wd) (hq : p_X9_timeForLetter x1 x2 w = some res) : XG g d (hP g d w) [(0, .ref (d.ad (50))), (1, iV (x1)), (2, iV (x2))] [] 0 := by
  refine x_aload_n C 0 dX9_timeForLetter_0 rfl ?_
  refine x_iload_n C 1 dX9_timeForLetter_1 rfl ?_
  refine x_callVi (K := 10) (rm := rmv 5 114 0 0) (As := [iV (x1)]) (rest := []) C hA hR0 mf_X9_strokesOfLetter lk_X9_151 rfl (isK_lit hdm rfl rfl) (by decide) ⟨rfl, rfl⟩ ⟨Nat.le_of_ble_eq_true rfl, Nat.le_of_ble_eq_true rfl⟩ rfl rfl (Nat.le_of_ble_eq_true rfl) hce dX9_timeForLetter_2 hq (fun _ _ h => c_X9_strokesOfLetter g.l g.G hdm  h) (fun r2 w1 _ hq => ?_)
  refine x_istore_n (lv' := [(3, iV (r2)), (0, .ref (d.ad (50))), (1, iV (x1)), (2, iV (x2))]) C dX9_timeForLetter_5 (by decide) rfl ?_
  refine x_iload_n C 0 dX9_timeForLetter_6 rfl ?_
  refine x_istore (lv' := [(4, iV (r2)), (3, iV (r2)), (0, .ref (d.ad (50))), (1, iV (x1)), (2, iV (x2))]) C dX9_timeForLetter_7 (by decide) rfl ?_
  refine x_aload_n C 2 dX9_timeForLetter_9 rfl ?_
  refine x_get (K := 10) (k := 9) C (isK_lit hdm rfl rfl) (by decide) cl_X9 (by decide) ⟨rfl, rfl, rfl⟩ fl_X9_154 dX9_timeForLetter_10 ?_
  refine x_iload_n C 1 dX9_timeForLetter_13 rfl ?_
  refine x_icmp_ge (tgt := 51) C dX9_timeForLetter_14 (by decide) hq (fun hq => ?_) (fun hq => ?_)
  · refine XG.sub [2, 1, 0] rfl ?_
    exact L_X9_timeForLetter_51 C hdm hA hR0 hce hR _ _ _ hq
  · refine x_aload_n C 2 dX9_timeForLetter_17 rfl ?_
    refine x_get (K := 10) (k := 9) C (isK_lit hdm rfl rfl) (by decide) cl_X9 (by decide) ⟨rfl, rfl, rfl⟩ fl_X9_154 dX9_timeForLetter_18 ?_
    refine x_iload_n C 4 dX9_timeForLetter_21 rfl ?_
    refine x_icmp_ge (tgt := 51) C dX9_timeForLetter_22 (by decide) hq (fun hq => ?_) (fun hq => ?_)
    · refine XG.sub [2, 1, 0] rfl ?_
      exact L_X9_timeForLetter_51 C hdm hA hR0 hce hR _ _ _ hq
    · refine x_aload_n C 2 dX9_timeForLetter_25 rfl ?_
      refine x_iload_n C 4 dX9_timeForLetter_26 rfl ?_
      refine x_put (K := 10) (k := 9) C (isK_lit hdm rfl rfl) (by decide) cl_X9 (by decide) ⟨rfl, rfl, rfl, rfl⟩ fl_X9_154 ⟨rfl, rfl⟩ dX9_timeForLetter_27 ?_
      refine x_aload_n C 2 dX9_timeForLetter_30 rfl ?_
      refine x_dup C rfl dX9_timeForLetter_31 ?_
      refine x_get (K := 10) (k := 10) C (isK_lit hdm rfl rfl) (by decide) cl_X9 (by decide) ⟨rfl, rfl, rfl⟩ fl_X9_157 dX9_timeForLetter_32 ?_
      refine x_iconst C dX9_timeForLetter_35 ?_
      refine x_iadd C dX9_timeForLetter_36 ?_
      refine x_put (K := 10) (k := 10) C (isK_lit hdm rfl rfl) (by decide) cl_X9 (by decide) ⟨rfl, rfl, rfl, rfl⟩ fl_X9_157 ⟨rfl, rfl⟩ dX9_timeForLetter_37 ?_
      refine nmW hq (fun w3 ew3 hq => ?_)
      rw [← ew3]
      refine x_iload C 0 dX9_timeForLetter_40 rfl ?_
      refine x_aload_n C 2 dX9_timeForLetter_42 rfl ?_
      refine x_getrow C hdm cl_X9 rfl ⟨rfl, rfl, rfl⟩ fl_X9_24 dX9_timeForLetter_43 (fun q4 => ?_)
      refine x_iconst C dX9_timeForLetter_46 ?_
      refine inb_2 hq (fun hi hq => ?_)
      refine x_iald C (okR_K hdm q4) (by rw [okR_ln q4]; exact hi) dX9_timeForLetter_47 ?_
      refine x_iadd C dX9_timeForLetter_48 ?_
      refine x_istore (lv' := [(4, iV (r2 + (gA w3 (gP w3 50 3) 4))), (3, iV (r2)), (0, .ref (d.ad (50))), (1, iV (x1)), (2, iV (x2))]) C dX9_timeForLetter_49 (by decide) rfl ?_
      refine XG.sub [2, 1, 0] rfl ?_
      exact L_X9_timeForLetter_51 C hdm hA hR0 hce hR _ _ _ hq
set_option maxRecDepth 100000 in
set_option maxHeartbeats 4000000 in
theorem c_X9_timeForLetter (l : Launch) (G : Gd) {dm na : Nat} {ad : Nat → Nat} (hdm : dm = 1) {x1 : Int} {x2 : Int} {w w' : Wd} {r : Int}  (hq : p_X9_timeForLetter x1 x2 w = some (r, w')) : mI l yX9_timeForLetter cX9_timeForLetter 5 (some .int) (rmv 6 136 0 0) G dm na ad [.ref (ad (50)), iV (x1), iV (x2)] w r w' := by
  refine met_I [(0, .ref (ad (50))), (1, iV (x1)), (2, iV (x2))] (by decide) (Nat.le_of_ble_eq_true rfl) rfl .int rfl (fun g d C S hR => ?_)
  obtain ⟨rfl, hR0, rfl, rfl, rfl, hA⟩ := S
  exact L_X9_timeForLetter (d := (na, ad, 0, 0)) C hdm hA hR0 ⟨Nat.zero_le _, Nat.zero_le _⟩ hR  _ _ w hq
set_option maxRecDepth 100000 in
set_option maxHeartbeats 4000000 in
theorem L_X9_timeFromTo_20 {g : Cx} {d : Dl} (C : CX g cX9_timeFromTo 5 (some .int) RX9) (hdm : g.dm = 1) (hA : ∀ q : Nat, g.s.heap.size ≤ q → g.A q) (hR0 : g.R = rmv 7 160 0 0) (hce : d.ce ≤ g.R.cells ∧ d.so ≤ g.R.slots) {res : Int × Wd} (hR : rtI g d cX9_timeFromTo .int res) : ∀ (n : Nat) (x2 : Int) (x3 : Int) (x4 : Int) (w : Wd), p_X9_timeFromTo_20 n x2 x3 x4 w = some res → XG g d (hP g d w) [(0, .ref (d.ad (50))), (2, iV (x2)), (3, iV (x3)), (4, iV (x4))] [] 20 := by
  intro n
  induction n with
  | zero => intro x2 x3 x4 w  hq; exact nomatch (show none = some _ from hq)
  | succ n ih =>
    intro x2 x3 x4 w  hq
    refine x_iload C 3 dX9_timeFromTo_20 rfl ?_
    refine x_iload_n C 1 dX9_timeFromTo_22 rfl ?_
    refine x_icmp_ge (tgt := 47) C dX9_timeFromTo_23 (by decide) hq (fun hq => ?_) (fun hq => ?_)
    · refine x_iload_n C 2 dX9_timeFromTo_47 rfl ?_
      exact hR _ _ _ _ hq rfl dX9_timeFromTo_48
    · refine x_iload_n C 2 dX9_timeFromTo_26 rfl ?_
      refine x_aload_n C 0 dX9_timeFromTo_27 rfl ?_
      refine x_iload C 3 dX9_timeFromTo_28 rfl ?_
      refine x_aload_n C 0 dX9_timeFromTo_30 rfl ?_
      refine x_getrow C hdm cl_X9 rfl ⟨rfl, rfl, rfl⟩ fl_X9_24 dX9_timeFromTo_31 (fun q1 => ?_)
      refine x_iconst C dX9_timeFromTo_34 ?_
      refine inb_2 hq (fun hi hq => ?_)
      refine x_iald C (okR_K hdm q1) (by rw [okR_ln q1]; exact hi) dX9_timeFromTo_35 ?_
      refine x_callVi (K := 10) (rm := rmv 6 136 0 0) (As := [iV (x4), iV (gA w (gP w 50 3) 3)]) (rest := [iV (x3)]) C hA hR0 mf_X9_timeForLetter lk_X9_165 rfl (isK_lit hdm rfl rfl) (by decide) ⟨rfl, rfl⟩ ⟨Nat.le_of_ble_eq_true rfl, Nat.le_of_ble_eq_true rfl⟩ rfl rfl (Nat.le_of_ble_eq_true rfl) hce dX9_timeFromTo_36 hq (fun _ _ h => c_X9_timeForLetter g.l g.G hdm  h) (fun r3 w2 _ hq => ?_)
      refine x_iadd C dX9_timeFromTo_39 ?_
      refine x_istore_n (lv' := [(3, iV (x3 + r3)), (0, .ref (d.ad (50))), (2, iV (x2)), (4, iV (x4))]) C dX9_timeFromTo_40 (by decide) rfl ?_
      refine x_iinc (lv' := [(4, iV (x4 + 1)), (3, iV (x3 + r3)), (0, .ref (d.ad (50))), (2, iV (x2))]) C 3 dX9_timeFromTo_41 rfl (by decide) rfl ?_
      refine x_goto (tgt := 20) C dX9_timeFromTo_44 (by decide) ?_
      refine XG.sub [2, 3, 1, 0] rfl ?_
      exact ih _ _ _ _ hq
set_option maxRecDepth 100000 in
set_option maxHeartbeats 4000000 in
theorem L_X9_timeFromTo {g : Cx} {d : Dl} (C : CX g cX9_timeFromTo 5 (some .int) RX9) (hdm : g.dm = 1) (hA : ∀ q : Nat, g.s.heap.size ≤ q → g.A q) (hR0 : g.R = rmv 7 160 0 0) (hce : d.ce ≤ g.R.cells ∧ d.so ≤ g.R.slots) {res : Int × Wd} (hR : rtI g d cX9_timeFromTo .int res) (x1 : Int) (x2 : Int) (w : Wd) (hq : p_X9_timeFromTo x1 x2 w = some res) : XG g d (hP g d w) [(0, .ref (d.ad (50))), (1, iV (x1)), (2, iV (x2))] [] 0 := by
  refine x_aload_n C 0 dX9_timeFromTo_0 rfl ?_
  refine x_aload_n C 0 dX9_timeFromTo_1 rfl ?_
  refine x_getrow C hdm cl_X9 rfl ⟨rfl, rfl, rfl⟩ fl_X9_24 dX9_timeFromTo_2 (fun q1 => ?_)
  refine x_iconst C dX9_timeFromTo_5 ?_
  refine inb_2 hq (fun hi hq => ?_)
  refine x_iald C (okR_K hdm q1) (by rw [okR_ln q1]; exact hi) dX9_timeFromTo_6 ?_
  refine x_put (K := 10) (k := 9) C (isK_lit hdm rfl rfl) (by decide) cl_X9 (by decide) ⟨rfl, rfl, rfl, rfl⟩ fl_X9_154 ⟨rfl, rfl⟩ dX9_timeFromTo_7 ?_
  refine x_aload_n C 0 dX9_timeFromTo_10 rfl ?_
  refine x_iconst C dX9_timeFromTo_11 ?_
  refine x_put (K := 10) (k := 10) C (isK_lit hdm rfl rfl) (by decide) cl_X9 (by decide) ⟨rfl, rfl, rfl, rfl⟩ fl_X9_157 ⟨rfl, rfl⟩ dX9_timeFromTo_12 ?_
  refine nmW hq (fun w2 ew2 hq => ?_)
  rw [← ew2]
  refine x_iconst C dX9_timeFromTo_15 ?_
  refine x_istore_n (lv' := [(3, iV (0)), (0, .ref (d.ad (50))), (1, iV (x1)), (2, iV (x2))]) C dX9_timeFromTo_16 (by decide) rfl ?_
  refine x_iload_n C 2 dX9_timeFromTo_17 rfl ?_
  refine x_istore (lv' := [(4, iV (x1)), (3, iV (0)), (0, .ref (d.ad (50))), (1, iV (x1)), (2, iV (x2))]) C dX9_timeFromTo_18 (by decide) rfl ?_
  refine XG.sub [2, 4, 1, 0] rfl ?_
  exact L_X9_timeFromTo_20 C hdm hA hR0 hce hR _ _ _ _ _ hq
set_option maxRecDepth 100000 in
set_option maxHeartbeats 4000000 in
theorem c_X9_timeFromTo (l : Launch) (G : Gd) {dm na : Nat} {ad : Nat → Nat} (hdm : dm = 1) {x1 : Int} {x2 : Int} {w w' : Wd} {r : Int}  (hq : p_X9_timeFromTo x1 x2 w = some (r, w')) : mI l yX9_timeFromTo cX9_timeFromTo 5 (some .int) (rmv 7 160 0 0) G dm na ad [.ref (ad (50)), iV (x1), iV (x2)] w r w' := by
  refine met_I [(0, .ref (ad (50))), (1, iV (x1)), (2, iV (x2))] (by decide) (Nat.le_of_ble_eq_true rfl) rfl .int rfl (fun g d C S hR => ?_)
  obtain ⟨rfl, hR0, rfl, rfl, rfl, hA⟩ := S
  exact L_X9_timeFromTo (d := (na, ad, 0, 0)) C hdm hA hR0 ⟨Nat.zero_le _, Nat.zero_le _⟩ hR  _ _ w hq
set_option maxRecDepth 100000 in
set_option maxHeartbeats 4000000 in
theorem L_X9_keepAside_2 {g : Cx} {d : Dl} (C : CX g cX9_keepAside 2 none RX9) (hdm : g.dm = 1) (hA : ∀ q : Nat, g.s.heap.size ≤ q → g.A q) (hR0 : g.R = rmv 0 0 0 0) (hce : d.ce ≤ g.R.cells ∧ d.so ≤ g.R.slots) {res : Wd} (hR : rtV g d cX9_keepAside res) : ∀ (n : Nat) (x1 : Int) (w : Wd), p_X9_keepAside_2 n x1 w = some res → XG g d (hP g d w) [(0, .ref (d.ad (50))), (1, iV (x1))] [] 2 := by
  intro n
  induction n with
  | zero => intro x1 w  hq; exact nomatch (show none = some _ from hq)
  | succ n ih =>
    intro x1 w  hq
    refine x_iload_n C 1 dX9_keepAside_2 rfl ?_
    refine x_sipush (v := 1099) C dX9_keepAside_3 (by decide +kernel) ?_
    refine x_icmp_ge (tgt := 27) C dX9_keepAside_6 (by decide) hq (fun hq => ?_) (fun hq => ?_)
    · exact hR _ _ _ hq dX9_keepAside_27
    · refine x_aload_n C 0 dX9_keepAside_9 rfl ?_
      refine x_getr (K := 10) (k := 11) (o2 := 55) C (isK_lit hdm rfl rfl) (by decide) cl_X9 (by decide) ⟨rfl, rfl, rfl⟩ fl_X9_33 rfl dX9_keepAside_10 ?_
      refine x_iload_n C 1 dX9_keepAside_13 rfl ?_
      refine x_aload_n C 0 dX9_keepAside_14 rfl ?_
      refine x_getr (K := 10) (k := 1) (o2 := 51) C (isK_lit hdm rfl rfl) (by decide) cl_X9 (by decide) ⟨rfl, rfl, rfl⟩ fl_X9_17 rfl dX9_keepAside_15 ?_
      refine x_iload_n C 1 dX9_keepAside_18 rfl ?_
      refine inb_2 hq (fun hi hq => ?_)
      refine x_iald C (isK_lit hdm rfl rfl) hi dX9_keepAside_19 ?_
      refine inb_2 hq (fun hi hq => ?_)
      refine x_iast C (isK_lit hdm rfl rfl) hi dX9_keepAside_20 ?_
      refine x_iinc (lv' := [(1, iV (x1 + 1)), (0, .ref (d.ad (50)))]) C 1 dX9_keepAside_21 rfl (by decide) rfl ?_
      refine x_goto (tgt := 2) C dX9_keepAside_24 (by decide) ?_
      refine XG.sub [1, 0] rfl ?_
      exact ih _ _ hq
set_option maxRecDepth 100000 in
set_option maxHeartbeats 4000000 in
theorem L_X9_keepAside {g : Cx} {d : Dl} (C : CX g cX9_keepAside 2 none RX9) (hdm : g.dm = 1) (hA : ∀ q : Nat, g.s.heap.size ≤ q → g.A q) (hR0 : g.R = rmv 0 0 0 0) (hce : d.ce ≤ g.R.cells ∧ d.so ≤ g.R.slots) {res : Wd} (hR : rtV g d cX9_keepAside res)  (w : Wd) (hq : p_X9_keepAside  w = some res) : XG g d (hP g d w) [(0, .ref (d.ad (50)))] [] 0 := by
  refine x_iconst C dX9_keepAside_0 ?_
  refine x_istore_n (lv' := [(1, iV (0)), (0, .ref (d.ad (50)))]) C dX9_keepAside_1 (by decide) rfl ?_
  refine XG.sub [1, 0] rfl ?_
  exact L_X9_keepAside_2 C hdm hA hR0 hce hR _ _ _ hq
set_option maxRecDepth 100000 in
set_option maxHeartbeats 4000000 in
theorem c_X9_keepAside (l : Launch) (G : Gd) {dm na : Nat} {ad : Nat → Nat} (hdm : dm = 1)  {w w' : Wd}   (hq : p_X9_keepAside  w = some w') : mV l yX9_keepAside cX9_keepAside 2 none (rmv 0 0 0 0) G dm na ad [.ref (ad (50))] w w' := by
  refine met_V [(0, .ref (ad (50)))] (by decide) (Nat.le_of_ble_eq_true rfl) rfl rfl (fun g d C S hR => ?_)
  obtain ⟨rfl, hR0, rfl, rfl, rfl, hA⟩ := S
  exact L_X9_keepAside (d := (na, ad, 0, 0)) C hdm hA hR0 ⟨Nat.zero_le _, Nat.zero_le _⟩ hR   w hq
set_option maxRecDepth 100000 in
set_option maxHeartbeats 4000000 in
theorem L_X9_layBack_2 {g : Cx} {d : Dl} (C : CX g cX9_layBack 3 (some .int) RX9) (hdm : g.dm = 1) (hA : ∀ q : Nat, g.s.heap.size ≤ q → g.A q) (hR0 : g.R = rmv 0 0 0 0) (hce : d.ce ≤ g.R.cells ∧ d.so ≤ g.R.slots) {res : Int × Wd} (hR : rtI g d cX9_layBack .int res) : ∀ (n : Nat) (x1 : Int) (x2 : Int) (w : Wd), p_X9_layBack_2 n x1 x2 w = some res → XG g d (hP g d w) [(0, .ref (d.ad (50))), (1, iV (x1)), (2, iV (x2))] [] 2 := by
  intro n
  induction n with
  | zero => intro x1 x2 w  hq; exact nomatch (show none = some _ from hq)
  | succ n ih =>
    intro x1 x2 w  hq
    refine x_iload_n C 2 dX9_layBack_2 rfl ?_
    refine x_sipush (v := 1099) C dX9_layBack_3 (by decide +kernel) ?_
    refine x_icmp_ge (tgt := 27) C dX9_layBack_6 (by decide) hq (fun hq => ?_) (fun hq => ?_)
    · refine x_iload_n C 1 dX9_layBack_27 rfl ?_
      exact hR _ _ _ _ hq rfl dX9_layBack_28
    · refine x_aload_n C 0 dX9_layBack_9 rfl ?_
      refine x_getr (K := 10) (k := 1) (o2 := 51) C (isK_lit hdm rfl rfl) (by decide) cl_X9 (by decide) ⟨rfl, rfl, rfl⟩ fl_X9_17 rfl dX9_layBack_10 ?_
      refine x_iload_n C 2 dX9_layBack_13 rfl ?_
      refine x_aload_n C 0 dX9_layBack_14 rfl ?_
      refine x_getr (K := 10) (k := 11) (o2 := 55) C (isK_lit hdm rfl rfl) (by decide) cl_X9 (by decide) ⟨rfl, rfl, rfl⟩ fl_X9_33 rfl dX9_layBack_15 ?_
      refine x_iload_n C 2 dX9_layBack_18 rfl ?_
      refine inb_2 hq (fun hi hq => ?_)
      refine x_iald C (isK_lit hdm rfl rfl) hi dX9_layBack_19 ?_
      refine inb_2 hq (fun hi hq => ?_)
      refine x_iast C (isK_lit hdm rfl rfl) hi dX9_layBack_20 ?_
      refine x_iinc (lv' := [(2, iV (x2 + 1)), (0, .ref (d.ad (50))), (1, iV (x1))]) C 2 dX9_layBack_21 rfl (by decide) rfl ?_
      refine x_goto (tgt := 2) C dX9_layBack_24 (by decide) ?_
      refine XG.sub [1, 2, 0] rfl ?_
      exact ih _ _ _ hq
set_option maxRecDepth 100000 in
set_option maxHeartbeats 4000000 in
theorem L_X9_layBack {g : Cx} {d : Dl} (C : CX g cX9_layBack 3 (some .int) RX9) (hdm : g.dm = 1) (hA : ∀ q : Nat, g.s.heap.size ≤ q → g.A q) (hR0 : g.R = rmv 0 0 0 0) (hce : d.ce ≤ g.R.cells ∧ d.so ≤ g.R.slots) {res : Int × Wd} (hR : rtI g d cX9_layBack .int res) (x1 : Int) (w : Wd) (hq : p_X9_layBack x1 w = some res) : XG g d (hP g d w) [(0, .ref (d.ad (50))), (1, iV (x1))] [] 0 := by
  refine x_iconst C dX9_layBack_0 ?_
  refine x_istore_n (lv' := [(2, iV (0)), (0, .ref (d.ad (50))), (1, iV (x1))]) C dX9_layBack_1 (by decide) rfl ?_
  refine XG.sub [1, 2, 0] rfl ?_
  exact L_X9_layBack_2 C hdm hA hR0 hce hR _ _ _ _ hq
set_option maxRecDepth 100000 in
set_option maxHeartbeats 4000000 in
theorem c_X9_layBack (l : Launch) (G : Gd) {dm na : Nat} {ad : Nat → Nat} (hdm : dm = 1) {x1 : Int} {w w' : Wd} {r : Int}  (hq : p_X9_layBack x1 w = some (r, w')) : mI l yX9_layBack cX9_layBack 3 (some .int) (rmv 0 0 0 0) G dm na ad [.ref (ad (50)), iV (x1)] w r w' := by
  refine met_I [(0, .ref (ad (50))), (1, iV (x1))] (by decide) (Nat.le_of_ble_eq_true rfl) rfl .int rfl (fun g d C S hR => ?_)
  obtain ⟨rfl, hR0, rfl, rfl, rfl, hA⟩ := S
  exact L_X9_layBack (d := (na, ad, 0, 0)) C hdm hA hR0 ⟨Nat.zero_le _, Nat.zero_le _⟩ hR  _ w hq
set_option maxRecDepth 100000 in
set_option maxHeartbeats 4000000 in
theorem L_X9_turn_91 {g : Cx} {d : Dl} (C : CX g cX9_turn 6 none RX9) (hdm : g.dm = 1) (hA : ∀ q : Nat, g.s.heap.size ≤ q → g.A q) (hR0 : g.R = rmv 1 20 0 0) (hce : d.ce ≤ g.R.cells ∧ d.so ≤ g.R.slots) {res : Wd} (hR : rtV g d cX9_turn res) {k2 : Int → Wd → Option (Wd)} {k12 : Int → Int → Wd → Option (Wd)} (hk2 : ∀ (x1 : Int) (w : Wd), k2 x1 w = some res → XG g d (hP g d w) [(0, .ref (d.ad (50))), (1, iV (x1))] [] 2) (hk12 : ∀ (x1 : Int) (x2 : Int) (w : Wd), k12 x1 x2 w = some res → XG g d (hP g d w) [(0, .ref (d.ad (50))), (1, iV (x1)), (2, iV (x2))] [] 12) (x1 : Int) (x2 : Int) (w : Wd) (hq : p_X9_turn_91 k2 k12 x1 x2 w = some res) : XG g d (hP g d w) [(0, .ref (d.ad (50))), (1, iV (x1)), (2, iV (x2))] [] 91 := by
  refine x_iinc (lv' := [(2, iV (x2 + 1)), (0, .ref (d.ad (50))), (1, iV (x1))]) C 2 dX9_turn_91 rfl (by decide) rfl ?_
  refine x_goto (tgt := 12) C dX9_turn_94 (by decide) ?_
  refine XG.sub [1, 2, 0] rfl ?_
  exact hk12 _ _ _ hq
set_option maxRecDepth 100000 in
set_option maxHeartbeats 4000000 in
theorem L_X9_turn_97 {g : Cx} {d : Dl} (C : CX g cX9_turn 6 none RX9) (hdm : g.dm = 1) (hA : ∀ q : Nat, g.s.heap.size ≤ q → g.A q) (hR0 : g.R = rmv 1 20 0 0) (hce : d.ce ≤ g.R.cells ∧ d.so ≤ g.R.slots) {res : Wd} (hR : rtV g d cX9_turn res) {k2 : Int → Wd → Option (Wd)} (hk2 : ∀ (x1 : Int) (w : Wd), k2 x1 w = some res → XG g d (hP g d w) [(0, .ref (d.ad (50))), (1, iV (x1))] [] 2) (x1 : Int) (w : Wd) (hq : p_X9_turn_97 k2 x1 w = some res) : XG g d (hP g d w) [(0, .ref (d.ad (50))), (1, iV (x1))] [] 97 := by
  refine x_iinc (lv' := [(1, iV (x1 + 1)), (0, .ref (d.ad (50)))]) C 1 dX9_turn_97 rfl (by decide) rfl ?_
  refine x_goto (tgt := 2) C dX9_turn_100 (by decide) ?_
  refine XG.sub [1, 0] rfl ?_
  exact hk2 _ _ hq
set_option maxRecDepth 100000 in
set_option maxHeartbeats 4000000 in
theorem L_X9_turn_12 {g : Cx} {d : Dl} (C : CX g cX9_turn 6 none RX9) (hdm : g.dm = 1) (hA : ∀ q : Nat, g.s.heap.size ≤ q → g.A q) (hR0 : g.R = rmv 1 20 0 0) (hce : d.ce ≤ g.R.cells ∧ d.so ≤ g.R.slots) {res : Wd} (hR : rtV g d cX9_turn res) {k2 : Int → Wd → Option (Wd)} (hk2 : ∀ (x1 : Int) (w : Wd), k2 x1 w = some res → XG g d (hP g d w) [(0, .ref (d.ad (50))), (1, iV (x1))] [] 2) : ∀ (n : Nat) (x1 : Int) (x2 : Int) (w : Wd), p_X9_turn_12 k2 n x1 x2 w = some res → XG g d (hP g d w) [(0, .ref (d.ad (50))), (1, iV (x1)), (2, iV (x2))] [] 12 := by
  intro n
  induction n with
  | zero => intro x1 x2 w  hq; exact nomatch (show none = some _ from hq)
  | succ n ih =>
    intro x1 x2 w  hq
    refine x_iload_n C 2 dX9_turn_12 rfl ?_
    refine x_aload_n C 0 dX9_turn_13 rfl ?_
    refine x_callVi (K := 10) (rm := rmv 0 0 0 0) (As := []) (rest := [iV (x2)]) C hA hR0 mf_X9_wide lk_X9_71 rfl (isK_lit hdm rfl rfl) (by decide) ⟨rfl, rfl⟩ ⟨Nat.le_of_ble_eq_true rfl, Nat.le_of_ble_eq_true rfl⟩ rfl rfl (Nat.le_of_ble_eq_true rfl) hce dX9_turn_14 hq (fun _ _ h => c_X9_wide g.l g.G hdm  h) (fun r2 w1 _ hq => ?_)
    refine x_icmp_ge (tgt := 97) C dX9_turn_17 (by decide) hq (fun hq => ?_) (fun hq => ?_)
    · refine XG.sub [0, 1] rfl ?_
      exact L_X9_turn_97 C hdm hA hR0 hce hR hk2 _ _ hq
    · refine x_bipush (v := 11) C dX9_turn_20 (by decide +kernel) ?_
      refine x_bipush (v := 24) C dX9_turn_22 (by decide +kernel) ?_
      refine x_aload_n C 0 dX9_turn_24 rfl ?_
      refine x_callVi (K := 10) (rm := rmv 0 0 0 0) (As := []) (rest := [iV (24), iV (11)]) C hA hR0 mf_X9_high lk_X9_79 rfl (isK_lit hdm rfl rfl) (by decide) ⟨rfl, rfl⟩ ⟨Nat.le_of_ble_eq_true rfl, Nat.le_of_ble_eq_true rfl⟩ rfl rfl (Nat.le_of_ble_eq_true rfl) hce dX9_turn_25 hq (fun _ _ h => c_X9_high g.l g.G hdm  h) (fun r4 w3 _ hq => ?_)
      refine x_iconst C dX9_turn_28 ?_
      refine x_isub C dX9_turn_29 ?_
      refine x_iload_n C 1 dX9_turn_30 rfl ?_
      refine x_isub C dX9_turn_31 ?_
      refine x_imul C dX9_turn_32 ?_
      refine x_iadd C dX9_turn_33 ?_
      refine x_aload_n C 0 dX9_turn_34 rfl ?_
      refine x_callVi (K := 10) (rm := rmv 0 0 0 0) (As := []) (rest := [iV (11 + (24 * ((r4 - 1) - x1)))]) C hA hR0 mf_X9_wide lk_X9_71 rfl (isK_lit hdm rfl rfl) (by decide) ⟨rfl, rfl⟩ ⟨Nat.le_of_ble_eq_true rfl, Nat.le_of_ble_eq_true rfl⟩ rfl rfl (Nat.le_of_ble_eq_true rfl) hce dX9_turn_35 hq (fun _ _ h => c_X9_wide g.l g.G hdm  h) (fun r6 w5 _ hq => ?_)
      refine x_iadd C dX9_turn_38 ?_
      refine x_iconst C dX9_turn_39 ?_
      refine x_isub C dX9_turn_40 ?_
      refine x_iload_n C 2 dX9_turn_41 rfl ?_
      refine x_isub C dX9_turn_42 ?_
      refine x_istore_n (lv' := [(3, iV ((((11 + (24 * ((r4 - 1) - x1))) + r6) - 1) - x2)), (0, .ref (d.ad (50))), (1, iV (x1)), (2, iV (x2))]) C dX9_turn_43 (by decide) rfl ?_
      refine x_bipush (v := 11) C dX9_turn_44 (by decide +kernel) ?_
      refine x_bipush (v := 24) C dX9_turn_46 (by decide +kernel) ?_
      refine x_iload_n C 2 dX9_turn_48 rfl ?_
      refine x_imul C dX9_turn_49 ?_
      refine x_iadd C dX9_turn_50 ?_
      refine x_iload_n C 3 dX9_turn_51 rfl ?_
      refine x_iadd C dX9_turn_52 ?_
      refine x_istore (lv' := [(4, iV ((11 + (24 * x1)) + x2)), (3, iV ((((11 + (24 * ((r4 - 1) - x1))) + r6) - 1) - x2)), (0, .ref (d.ad (50))), (1, iV (x1)), (2, iV (x2))]) C dX9_turn_53 (by decide) rfl ?_
      refine x_iload C 0 dX9_turn_55 rfl ?_
      refine x_iload_n C 1 dX9_turn_57 rfl ?_
      refine x_icmp_ge (tgt := 91) C dX9_turn_58 (by decide) hq (fun hq => ?_) (fun hq => ?_)
      · refine XG.sub [2, 3, 4] rfl ?_
        exact L_X9_turn_91 C hdm hA hR0 hce hR hk2 ih _ _ _ hq
      · refine x_aload_n C 2 dX9_turn_61 rfl ?_
        refine x_getrow C hdm cl_X9 rfl ⟨rfl, rfl, rfl⟩ fl_X9_24 dX9_turn_62 (fun q7 => ?_)
        refine x_iload C 0 dX9_turn_65 rfl ?_
        refine inb_2 hq (fun hi hq => ?_)
        refine x_iald C (okR_K hdm q7) (by rw [okR_ln q7]; exact hi) dX9_turn_67 ?_
        refine x_istore (lv' := [(5, iV (gA w5 (gP w5 50 3) ((11 + (24 * x1)) + x2))), (4, iV ((11 + (24 * x1)) + x2)), (3, iV ((((11 + (24 * ((r4 - 1) - x1))) + r6) - 1) - x2)), (0, .ref (d.ad (50))), (1, iV (x1)), (2, iV (x2))]) C dX9_turn_68 (by decide) rfl ?_
        refine x_aload_n C 3 dX9_turn_70 rfl ?_
        refine x_getrow C hdm cl_X9 rfl ⟨rfl, rfl, rfl⟩ fl_X9_24 dX9_turn_71 (fun q8 => ?_)
        refine x_iload C 1 dX9_turn_74 rfl ?_
        refine x_aload_n C 3 dX9_turn_76 rfl ?_
        refine x_getrow C hdm cl_X9 rfl ⟨rfl, rfl, rfl⟩ fl_X9_24 dX9_turn_77 (fun q9 => ?_)
        refine x_iload_n C 2 dX9_turn_80 rfl ?_
        refine inb_2 hq (fun hi hq => ?_)
        refine x_iald C (okR_K hdm q9) (by rw [okR_ln q9]; exact hi) dX9_turn_81 ?_
        refine inb_2 hq (fun hi hq => ?_)
        refine x_iast C (okR_K hdm q8) (by rw [okR_ln q8]; exact hi) dX9_turn_82 ?_
        refine x_aload_n C 3 dX9_turn_83 rfl ?_
        refine x_getrow C hdm cl_X9 rfl ⟨rfl, rfl, rfl⟩ fl_X9_24 dX9_turn_84 (fun q10 => ?_)
        refine x_iload_n C 2 dX9_turn_87 rfl ?_
        refine x_iload C 0 dX9_turn_88 rfl ?_
        refine inb_2 hq (fun hi hq => ?_)
        refine x_iast C (okR_K hdm q10) (by rw [okR_ln q10]; exact hi) dX9_turn_90 ?_
        refine XG.sub [3, 4, 5] rfl ?_
        exact L_X9_turn_91 C hdm hA hR0 hce hR hk2 ih _ _ _ hq
set_option maxRecDepth 100000 in
set_option maxHeartbeats 4000000 in
theorem L_X9_turn_2 {g : Cx} {d : Dl} (C : CX g cX9_turn 6 none RX9) (hdm : g.dm = 1) (hA : ∀ q : Nat, g.s.heap.size ≤ q → g.A q) (hR0 : g.R = rmv 1 20 0 0) (hce : d.ce ≤ g.R.cells ∧ d.so ≤ g.R.slots) {res : Wd} (hR : rtV g d cX9_turn res) : ∀ (n : Nat) (x1 : Int) (w : Wd), p_X9_turn_2 n x1 w = some res → XG g d (hP g d w) [(0, .ref (d.ad (50))), (1, iV (x1))] [] 2 := by
  intro n
  induction n with
  | zero => intro x1 w  hq; exact nomatch (show none = some _ from hq)
  | succ n ih =>
    intro x1 w  hq
    refine x_iload_n C 1 dX9_turn_2 rfl ?_
    refine x_aload_n C 0 dX9_turn_3 rfl ?_
    refine x_callVi (K := 10) (rm := rmv 0 0 0 0) (As := []) (rest := [iV (x1)]) C hA hR0 mf_X9_high lk_X9_79 rfl (isK_lit hdm rfl rfl) (by decide) ⟨rfl, rfl⟩ ⟨Nat.le_of_ble_eq_true rfl, Nat.le_of_ble_eq_true rfl⟩ rfl rfl (Nat.le_of_ble_eq_true rfl) hce dX9_turn_4 hq (fun _ _ h => c_X9_high g.l g.G hdm  h) (fun r2 w1 _ hq => ?_)
    refine x_icmp_ge (tgt := 103) C dX9_turn_7 (by decide) hq (fun hq => ?_) (fun hq => ?_)
    · exact hR _ _ _ hq dX9_turn_103
    · refine x_iconst C dX9_turn_10 ?_
      refine x_istore_n (lv' := [(2, iV (0)), (0, .ref (d.ad (50))), (1, iV (x1))]) C dX9_turn_11 (by decide) rfl ?_
      refine XG.sub [1, 2, 0] rfl ?_
      exact L_X9_turn_12 C hdm hA hR0 hce hR ih _ _ _ _ hq
set_option maxRecDepth 100000 in
set_option maxHeartbeats 4000000 in
theorem L_X9_turn {g : Cx} {d : Dl} (C : CX g cX9_turn 6 none RX9) (hdm : g.dm = 1) (hA : ∀ q : Nat, g.s.heap.size ≤ q → g.A q) (hR0 : g.R = rmv 1 20 0 0) (hce : d.ce ≤ g.R.cells ∧ d.so ≤ g.R.slots) {res : Wd} (hR : rtV g d cX9_turn res)  (w : Wd) (hq : p_X9_turn  w = some res) : XG g d (hP g d w) [(0, .ref (d.ad (50)))] [] 0 := by
  refine x_iconst C dX9_turn_0 ?_
  refine x_istore_n (lv' := [(1, iV (0)), (0, .ref (d.ad (50)))]) C dX9_turn_1 (by decide) rfl ?_
  refine XG.sub [1, 0] rfl ?_
  exact L_X9_turn_2 C hdm hA hR0 hce hR _ _ _ hq
set_option maxRecDepth 100000 in
set_option maxHeartbeats 4000000 in
theorem c_X9_turn (l : Launch) (G : Gd) {dm na : Nat} {ad : Nat → Nat} (hdm : dm = 1)  {w w' : Wd}   (hq : p_X9_turn  w = some w') : mV l yX9_turn cX9_turn 6 none (rmv 1 20 0 0) G dm na ad [.ref (ad (50))] w w' := by
  refine met_V [(0, .ref (ad (50)))] (by decide) (Nat.le_of_ble_eq_true rfl) rfl rfl (fun g d C S hR => ?_)
  obtain ⟨rfl, hR0, rfl, rfl, rfl, hA⟩ := S
  exact L_X9_turn (d := (na, ad, 0, 0)) C hdm hA hR0 ⟨Nat.zero_le _, Nat.zero_le _⟩ hR   w hq
set_option maxRecDepth 100000 in
set_option maxHeartbeats 4000000 in
theorem L_X9_takeWords_55 {g : Cx} {d : Dl} (C : CX g cX9_takeWords 4 none RX9) (hdm : g.dm = 1) (hA : ∀ q : Nat, g.s.heap.size ≤ q → g.A q) (hR0 : g.R = rmv 0 0 0 0) (hce : d.ce ≤ g.R.cells ∧ d.so ≤ g.R.slots) {res : Wd} (hR : rtV g d cX9_takeWords res) (x2 : Int) (w : Wd) (hq : p_X9_takeWords_55 x2 w = some res) : XG g d (hP g d w) [(0, .ref (d.ad (50))), (2, iV (x2))] [] 55 := by
  refine x_aload_n C 0 dX9_takeWords_55 rfl ?_
  refine x_getrow C hdm cl_X9 rfl ⟨rfl, rfl, rfl⟩ fl_X9_24 dX9_takeWords_56 (fun q1 => ?_)
  refine x_bipush (v := 10) C dX9_takeWords_59 (by decide +kernel) ?_
  refine x_dup2 C rfl rfl dX9_takeWords_61 ?_
  refine inb_2 hq (fun hi hq => ?_)
  refine x_iald C (okR_K hdm q1) (by rw [okR_ln q1]; exact hi) dX9_takeWords_62 ?_
  refine x_iload_n C 1 dX9_takeWords_63 rfl ?_
  refine x_isub C dX9_takeWords_64 ?_
  refine inb_2 hq (fun hi hq => ?_)
  refine x_iast C (okR_K hdm q1) (by rw [okR_ln q1]; exact hi) dX9_takeWords_65 ?_
  exact hR _ _ _ hq dX9_takeWords_66
set_option maxRecDepth 100000 in
set_option maxHeartbeats 4000000 in
theorem L_X9_takeWords_9 {g : Cx} {d : Dl} (C : CX g cX9_takeWords 4 none RX9) (hdm : g.dm = 1) (hA : ∀ q : Nat, g.s.heap.size ≤ q → g.A q) (hR0 : g.R = rmv 0 0 0 0) (hce : d.ce ≤ g.R.cells ∧ d.so ≤ g.R.slots) {res : Wd} (hR : rtV g d cX9_takeWords res) : ∀ (n : Nat) (x2 : Int) (x3 : Int) (w : Wd), p_X9_takeWords_9 n x2 x3 w = some res → XG g d (hP g d w) [(0, .ref (d.ad (50))), (2, iV (x2)), (3, iV (x3))] [] 9 := by
  intro n
  induction n with
  | zero => intro x2 x3 w  hq; exact nomatch (show none = some _ from hq)
  | succ n ih =>
    intro x2 x3 w  hq
    refine x_iload_n C 2 dX9_takeWords_9 rfl ?_
    refine x_bipush (v := 13) C dX9_takeWords_10 (by decide +kernel) ?_
    refine x_iload_n C 1 dX9_takeWords_12 rfl ?_
    refine x_imul C dX9_takeWords_13 ?_
    refine x_iadd C dX9_takeWords_14 ?_
    refine x_sipush (v := 319) C dX9_takeWords_15 (by decide +kernel) ?_
    refine x_bipush (v := 13) C dX9_takeWords_18 (by decide +kernel) ?_
    refine x_aload_n C 0 dX9_takeWords_20 rfl ?_
    refine x_getrow C hdm cl_X9 rfl ⟨rfl, rfl, rfl⟩ fl_X9_24 dX9_takeWords_21 (fun q1 => ?_)
    refine x_bipush (v := 10) C dX9_takeWords_24 (by decide +kernel) ?_
    refine inb_2 hq (fun hi hq => ?_)
    refine x_iald C (okR_K hdm q1) (by rw [okR_ln q1]; exact hi) dX9_takeWords_26 ?_
    refine x_imul C dX9_takeWords_27 ?_
    refine x_iadd C dX9_takeWords_28 ?_
    refine x_icmp_ge (tgt := 55) C dX9_takeWords_29 (by decide) hq (fun hq => ?_) (fun hq => ?_)
    · refine XG.sub [0, 1] rfl ?_
      exact L_X9_takeWords_55 C hdm hA hR0 hce hR _ _ hq
    · refine x_aload_n C 0 dX9_takeWords_32 rfl ?_
      refine x_getrow C hdm cl_X9 rfl ⟨rfl, rfl, rfl⟩ fl_X9_24 dX9_takeWords_33 (fun q2 => ?_)
      refine x_iload_n C 2 dX9_takeWords_36 rfl ?_
      refine x_aload_n C 0 dX9_takeWords_37 rfl ?_
      refine x_getrow C hdm cl_X9 rfl ⟨rfl, rfl, rfl⟩ fl_X9_24 dX9_takeWords_38 (fun q3 => ?_)
      refine x_iload_n C 2 dX9_takeWords_41 rfl ?_
      refine x_bipush (v := 13) C dX9_takeWords_42 (by decide +kernel) ?_
      refine x_iload_n C 1 dX9_takeWords_44 rfl ?_
      refine x_imul C dX9_takeWords_45 ?_
      refine x_iadd C dX9_takeWords_46 ?_
      refine inb_2 hq (fun hi hq => ?_)
      refine x_iald C (okR_K hdm q3) (by rw [okR_ln q3]; exact hi) dX9_takeWords_47 ?_
      refine inb_2 hq (fun hi hq => ?_)
      refine x_iast C (okR_K hdm q2) (by rw [okR_ln q2]; exact hi) dX9_takeWords_48 ?_
      refine x_iinc (lv' := [(3, iV (x3 + 1)), (0, .ref (d.ad (50))), (2, iV (x2))]) C 2 dX9_takeWords_49 rfl (by decide) rfl ?_
      refine x_goto (tgt := 9) C dX9_takeWords_52 (by decide) ?_
      refine XG.sub [1, 2, 0] rfl ?_
      exact ih _ _ _ hq
set_option maxRecDepth 100000 in
set_option maxHeartbeats 4000000 in
theorem L_X9_takeWords {g : Cx} {d : Dl} (C : CX g cX9_takeWords 4 none RX9) (hdm : g.dm = 1) (hA : ∀ q : Nat, g.s.heap.size ≤ q → g.A q) (hR0 : g.R = rmv 0 0 0 0) (hce : d.ce ≤ g.R.cells ∧ d.so ≤ g.R.slots) {res : Wd} (hR : rtV g d cX9_takeWords res) (x1 : Int) (x2 : Int) (w : Wd) (hq : p_X9_takeWords x1 x2 w = some res) : XG g d (hP g d w) [(0, .ref (d.ad (50))), (1, iV (x1)), (2, iV (x2))] [] 0 := by
  refine x_sipush (v := 319) C dX9_takeWords_0 (by decide +kernel) ?_
  refine x_bipush (v := 13) C dX9_takeWords_3 (by decide +kernel) ?_
  refine x_iload_n C 1 dX9_takeWords_5 rfl ?_
  refine x_imul C dX9_takeWords_6 ?_
  refine x_iadd C dX9_takeWords_7 ?_
  refine x_istore_n (lv' := [(3, iV (319 + (13 * x1))), (0, .ref (d.ad (50))), (1, iV (x1)), (2, iV (x2))]) C dX9_takeWords_8 (by decide) rfl ?_
  refine XG.sub [1, 3, 0] rfl ?_
  exact L_X9_takeWords_9 C hdm hA hR0 hce hR _ _ _ _ hq
set_option maxRecDepth 100000 in
set_option maxHeartbeats 4000000 in
theorem c_X9_takeWords (l : Launch) (G : Gd) {dm na : Nat} {ad : Nat → Nat} (hdm : dm = 1) {x1 : Int} {x2 : Int} {w w' : Wd}   (hq : p_X9_takeWords x1 x2 w = some w') : mV l yX9_takeWords cX9_takeWords 4 none (rmv 0 0 0 0) G dm na ad [.ref (ad (50)), iV (x1), iV (x2)] w w' := by
  refine met_V [(0, .ref (ad (50))), (1, iV (x1)), (2, iV (x2))] (by decide) (Nat.le_of_ble_eq_true rfl) rfl rfl (fun g d C S hR => ?_)
  obtain ⟨rfl, hR0, rfl, rfl, rfl, hA⟩ := S
  exact L_X9_takeWords (d := (na, ad, 0, 0)) C hdm hA hR0 ⟨Nat.zero_le _, Nat.zero_le _⟩ hR  _ _ w hq
set_option maxRecDepth 100000 in
set_option maxHeartbeats 4000000 in
theorem L_X9_takePart_61 {g : Cx} {d : Dl} (C : CX g cX9_takePart 3 none RX9) (hdm : g.dm = 1) (hA : ∀ q : Nat, g.s.heap.size ≤ q → g.A q) (hR0 : g.R = rmv 2 44 0 0) (hce : d.ce ≤ g.R.cells ∧ d.so ≤ g.R.slots) {res : Wd} (hR : rtV g d cX9_takePart res)  (w : Wd) (hq : p_X9_takePart_61 w = some res) : XG g d (hP g d w) [(0, .ref (d.ad (50)))] [] 61 := by
  refine x_aload_n C 0 dX9_takePart_61 rfl ?_
  refine x_getrow C hdm cl_X9 rfl ⟨rfl, rfl, rfl⟩ fl_X9_24 dX9_takePart_62 (fun q1 => ?_)
  refine x_bipush (v := 9) C dX9_takePart_65 (by decide +kernel) ?_
  refine x_dup2 C rfl rfl dX9_takePart_67 ?_
  refine inb_2 hq (fun hi hq => ?_)
  refine x_iald C (okR_K hdm q1) (by rw [okR_ln q1]; exact hi) dX9_takePart_68 ?_
  refine x_iconst C dX9_takePart_69 ?_
  refine x_isub C dX9_takePart_70 ?_
  refine inb_2 hq (fun hi hq => ?_)
  refine x_iast C (okR_K hdm q1) (by rw [okR_ln q1]; exact hi) dX9_takePart_71 ?_
  exact hR _ _ _ hq dX9_takePart_72
set_option maxRecDepth 100000 in
set_option maxHeartbeats 4000000 in
theorem L_X9_takePart_22 {g : Cx} {d : Dl} (C : CX g cX9_takePart 3 none RX9) (hdm : g.dm = 1) (hA : ∀ q : Nat, g.s.heap.size ≤ q → g.A q) (hR0 : g.R = rmv 2 44 0 0) (hce : d.ce ≤ g.R.cells ∧ d.so ≤ g.R.slots) {res : Wd} (hR : rtV g d cX9_takePart res) : ∀ (n : Nat) (x2 : Int) (w : Wd), p_X9_takePart_22 n x2 w = some res → XG g d (hP g d w) [(0, .ref (d.ad (50))), (2, iV (x2))] [] 22 := by
  intro n
  induction n with
  | zero => intro x2 w  hq; exact nomatch (show none = some _ from hq)
  | succ n ih =>
    intro x2 w  hq
    refine x_iload_n C 1 dX9_takePart_22 rfl ?_
    refine x_iconst C dX9_takePart_23 ?_
    refine x_iadd C dX9_takePart_24 ?_
    refine x_sipush (v := 299) C dX9_takePart_25 (by decide +kernel) ?_
    refine x_iconst C dX9_takePart_28 ?_
    refine x_aload_n C 0 dX9_takePart_29 rfl ?_
    refine x_getrow C hdm cl_X9 rfl ⟨rfl, rfl, rfl⟩ fl_X9_24 dX9_takePart_30 (fun q1 => ?_)
    refine x_bipush (v := 9) C dX9_takePart_33 (by decide +kernel) ?_
    refine inb_2 hq (fun hi hq => ?_)
    refine x_iald C (okR_K hdm q1) (by rw [okR_ln q1]; exact hi) dX9_takePart_35 ?_
    refine x_imul C dX9_takePart_36 ?_
    refine x_iadd C dX9_takePart_37 ?_
    refine x_icmp_ge (tgt := 61) C dX9_takePart_38 (by decide) hq (fun hq => ?_) (fun hq => ?_)
    · refine XG.sub [0] rfl ?_
      exact L_X9_takePart_61 C hdm hA hR0 hce hR _ hq
    · refine x_aload_n C 0 dX9_takePart_41 rfl ?_
      refine x_getrow C hdm cl_X9 rfl ⟨rfl, rfl, rfl⟩ fl_X9_24 dX9_takePart_42 (fun q2 => ?_)
      refine x_iload_n C 1 dX9_takePart_45 rfl ?_
      refine x_aload_n C 0 dX9_takePart_46 rfl ?_
      refine x_getrow C hdm cl_X9 rfl ⟨rfl, rfl, rfl⟩ fl_X9_24 dX9_takePart_47 (fun q3 => ?_)
      refine x_iload_n C 1 dX9_takePart_50 rfl ?_
      refine x_iconst C dX9_takePart_51 ?_
      refine x_iadd C dX9_takePart_52 ?_
      refine inb_2 hq (fun hi hq => ?_)
      refine x_iald C (okR_K hdm q3) (by rw [okR_ln q3]; exact hi) dX9_takePart_53 ?_
      refine inb_2 hq (fun hi hq => ?_)
      refine x_iast C (okR_K hdm q2) (by rw [okR_ln q2]; exact hi) dX9_takePart_54 ?_
      refine x_iinc (lv' := [(2, iV (x2 + 1)), (0, .ref (d.ad (50)))]) C 1 dX9_takePart_55 rfl (by decide) rfl ?_
      refine x_goto (tgt := 22) C dX9_takePart_58 (by decide) ?_
      refine XG.sub [1, 0] rfl ?_
      exact ih _ _ hq
set_option maxRecDepth 100000 in
set_option maxHeartbeats 4000000 in
theorem L_X9_takePart {g : Cx} {d : Dl} (C : CX g cX9_takePart 3 none RX9) (hdm : g.dm = 1) (hA : ∀ q : Nat, g.s.heap.size ≤ q → g.A q) (hR0 : g.R = rmv 2 44 0 0) (hce : d.ce ≤ g.R.cells ∧ d.so ≤ g.R.slots) {res : Wd} (hR : rtV g d cX9_takePart res) (x1 : Int) (w : Wd) (hq : p_X9_takePart x1 w = some res) : XG g d (hP g d w) [(0, .ref (d.ad (50))), (1, iV (x1))] [] 0 := by
  refine x_aload_n C 0 dX9_takePart_0 rfl ?_
  refine x_aload_n C 0 dX9_takePart_1 rfl ?_
  refine x_iload_n C 1 dX9_takePart_2 rfl ?_
  refine x_callVi (K := 10) (rm := rmv 1 21 0 0) (As := [iV (x1)]) (rest := [.ref (d.ad (50))]) C hA hR0 mf_X9_firstOf lk_X9_90 rfl (isK_lit hdm rfl rfl) (by decide) ⟨rfl, rfl⟩ ⟨Nat.le_of_ble_eq_true rfl, Nat.le_of_ble_eq_true rfl⟩ rfl rfl (Nat.le_of_ble_eq_true rfl) hce dX9_takePart_3 hq (fun _ _ h => c_X9_firstOf g.l g.G hdm  h) (fun r2 w1 _ hq => ?_)
  refine x_aload_n C 0 dX9_takePart_6 rfl ?_
  refine x_iload_n C 1 dX9_takePart_7 rfl ?_
  refine x_callVi (K := 10) (rm := rmv 0 0 0 0) (As := [iV (x1)]) (rest := [iV (r2), .ref (d.ad (50))]) C hA hR0 mf_X9_manyOf lk_X9_86 rfl (isK_lit hdm rfl rfl) (by decide) ⟨rfl, rfl⟩ ⟨Nat.le_of_ble_eq_true rfl, Nat.le_of_ble_eq_true rfl⟩ rfl rfl (Nat.le_of_ble_eq_true rfl) hce dX9_takePart_8 hq (fun _ _ h => c_X9_manyOf g.l g.G hdm  h) (fun r4 w3 _ hq => ?_)
  refine x_callVv (K := 10) (rm := rmv 0 0 0 0) (As := [iV (r2), iV (r4)]) (rest := []) C hA hR0 mf_X9_takeWords lk_X9_168 rfl (isK_lit hdm rfl rfl) (by decide) ⟨rfl, rfl⟩ ⟨Nat.le_of_ble_eq_true rfl, Nat.le_of_ble_eq_true rfl⟩ rfl rfl (Nat.le_of_ble_eq_true rfl) hce dX9_takePart_11 hq (fun _ h => c_X9_takeWords g.l g.G hdm  h) (fun w5 _ hq => ?_)
  refine x_sipush (v := 299) C dX9_takePart_14 (by decide +kernel) ?_
  refine x_iconst C dX9_takePart_17 ?_
  refine x_iload_n C 1 dX9_takePart_18 rfl ?_
  refine x_imul C dX9_takePart_19 ?_
  refine x_iadd C dX9_takePart_20 ?_
  refine x_istore_n (lv' := [(2, iV (299 + (2 * x1))), (0, .ref (d.ad (50))), (1, iV (x1))]) C dX9_takePart_21 (by decide) rfl ?_
  refine XG.sub [1, 0] rfl ?_
  exact L_X9_takePart_22 C hdm hA hR0 hce hR _ _ _ hq
set_option maxRecDepth 100000 in
set_option maxHeartbeats 4000000 in
theorem c_X9_takePart (l : Launch) (G : Gd) {dm na : Nat} {ad : Nat → Nat} (hdm : dm = 1) {x1 : Int} {w w' : Wd}   (hq : p_X9_takePart x1 w = some w') : mV l yX9_takePart cX9_takePart 3 none (rmv 2 44 0 0) G dm na ad [.ref (ad (50)), iV (x1)] w w' := by
  refine met_V [(0, .ref (ad (50))), (1, iV (x1))] (by decide) (Nat.le_of_ble_eq_true rfl) rfl rfl (fun g d C S hR => ?_)
  obtain ⟨rfl, hR0, rfl, rfl, rfl, hA⟩ := S
  exact L_X9_takePart (d := (na, ad, 0, 0)) C hdm hA hR0 ⟨Nat.zero_le _, Nat.zero_le _⟩ hR  _ w hq
set_option maxRecDepth 100000 in
set_option maxHeartbeats 4000000 in
theorem L_X9_moveNow_218 {g : Cx} {d : Dl} (C : CX g cX9_moveNow 9 none RX9) (hdm : g.dm = 1) (hA : ∀ q : Nat, g.s.heap.size ≤ q → g.A q) (hR0 : g.R = rmv 3 66 0 0) (hce : d.ce ≤ g.R.cells ∧ d.so ≤ g.R.slots) {res : Wd} (hR : rtV g d cX9_moveNow res) (x2 : Int) (x3 : Int) (x4 : Int) (w : Wd) (hq : p_X9_moveNow_218 x2 x3 x4 w = some res) : XG g d (hP g d w) [(0, .ref (d.ad (50))), (2, iV (x2)), (3, iV (x3)), (4, iV (x4))] [] 218 := by
  refine x_aload_n C 0 dX9_moveNow_218 rfl ?_
  refine x_getrow C hdm cl_X9 rfl ⟨rfl, rfl, rfl⟩ fl_X9_24 dX9_moveNow_219 (fun q1 => ?_)
  refine x_sipush (v := 299) C dX9_moveNow_222 (by decide +kernel) ?_
  refine x_iconst C dX9_moveNow_225 ?_
  refine x_iload_n C 1 dX9_moveNow_226 rfl ?_
  refine x_imul C dX9_moveNow_227 ?_
  refine x_iadd C dX9_moveNow_228 ?_
  refine x_iconst C dX9_moveNow_229 ?_
  refine x_iadd C dX9_moveNow_230 ?_
  refine x_iload_n C 2 dX9_moveNow_231 rfl ?_
  refine inb_2 hq (fun hi hq => ?_)
  refine x_iast C (okR_K hdm q1) (by rw [okR_ln q1]; exact hi) dX9_moveNow_232 ?_
  refine x_aload_n C 0 dX9_moveNow_233 rfl ?_
  refine x_getrow C hdm cl_X9 rfl ⟨rfl, rfl, rfl⟩ fl_X9_24 dX9_moveNow_234 (fun q2 => ?_)
  refine x_sipush (v := 299) C dX9_moveNow_237 (by decide +kernel) ?_
  refine x_iconst C dX9_moveNow_240 ?_
  refine x_iload_n C 1 dX9_moveNow_241 rfl ?_
  refine x_imul C dX9_moveNow_242 ?_
  refine x_iadd C dX9_moveNow_243 ?_
  refine x_iconst C dX9_moveNow_244 ?_
  refine x_iadd C dX9_moveNow_245 ?_
  refine x_iload C 3 dX9_moveNow_246 rfl ?_
  refine inb_2 hq (fun hi hq => ?_)
  refine x_iast C (okR_K hdm q2) (by rw [okR_ln q2]; exact hi) dX9_moveNow_248 ?_
  refine nmW hq (fun w3 ew3 hq => ?_)
  rw [← ew3]
  refine x_aload_n C 0 dX9_moveNow_249 rfl ?_
  refine x_getrow C hdm cl_X9 rfl ⟨rfl, rfl, rfl⟩ fl_X9_24 dX9_moveNow_250 (fun q4 => ?_)
  refine x_bipush (v := 9) C dX9_moveNow_253 (by decide +kernel) ?_
  refine x_dup2 C rfl rfl dX9_moveNow_255 ?_
  refine inb_2 hq (fun hi hq => ?_)
  refine x_iald C (okR_K hdm q4) (by rw [okR_ln q4]; exact hi) dX9_moveNow_256 ?_
  refine x_iconst C dX9_moveNow_257 ?_
  refine x_iadd C dX9_moveNow_258 ?_
  refine inb_2 hq (fun hi hq => ?_)
  refine x_iast C (okR_K hdm q4) (by rw [okR_ln q4]; exact hi) dX9_moveNow_259 ?_
  refine x_aload_n C 0 dX9_moveNow_260 rfl ?_
  refine x_getrow C hdm cl_X9 rfl ⟨rfl, rfl, rfl⟩ fl_X9_24 dX9_moveNow_261 (fun q5 => ?_)
  refine x_bipush (v := 10) C dX9_moveNow_264 (by decide +kernel) ?_
  refine x_dup2 C rfl rfl dX9_moveNow_266 ?_
  refine inb_2 hq (fun hi hq => ?_)
  refine x_iald C (okR_K hdm q5) (by rw [okR_ln q5]; exact hi) dX9_moveNow_267 ?_
  refine nmW hq (fun v6 ev6 hq => ?_)
  rw [← ev6]
  refine x_iload C 3 dX9_moveNow_268 rfl ?_
  refine x_iadd C dX9_moveNow_270 ?_
  refine inb_2 hq (fun hi hq => ?_)
  refine x_iast C (okR_K hdm q5) (by rw [okR_ln q5]; exact hi) dX9_moveNow_271 ?_
  refine nmW hq (fun w7 ew7 hq => ?_)
  rw [← ew7]
  exact hR _ _ _ hq dX9_moveNow_272
set_option maxRecDepth 100000 in
set_option maxHeartbeats 4000000 in
theorem L_X9_moveNow_184 {g : Cx} {d : Dl} (C : CX g cX9_moveNow 9 none RX9) (hdm : g.dm = 1) (hA : ∀ q : Nat, g.s.heap.size ≤ q → g.A q) (hR0 : g.R = rmv 3 66 0 0) (hce : d.ce ≤ g.R.cells ∧ d.so ≤ g.R.slots) {res : Wd} (hR : rtV g d cX9_moveNow res) : ∀ (n : Nat) (x2 : Int) (x3 : Int) (x4 : Int) (x8 : Int) (w : Wd), p_X9_moveNow_184 n x2 x3 x4 x8 w = some res → XG g d (hP g d w) [(0, .ref (d.ad (50))), (2, iV (x2)), (3, iV (x3)), (4, iV (x4)), (8, iV (x8))] [] 184 := by
  intro n
  induction n with
  | zero => intro x2 x3 x4 x8 w  hq; exact nomatch (show none = some _ from hq)
  | succ n ih =>
    intro x2 x3 x4 x8 w  hq
    refine x_iload C 4 dX9_moveNow_184 rfl ?_
    refine x_sipush (v := 299) C dX9_moveNow_186 (by decide +kernel) ?_
    refine x_iconst C dX9_moveNow_189 ?_
    refine x_iload_n C 1 dX9_moveNow_190 rfl ?_
    refine x_imul C dX9_moveNow_191 ?_
    refine x_iadd C dX9_moveNow_192 ?_
    refine x_icmp_lt (tgt := 218) C dX9_moveNow_193 (by decide) hq (fun hq => ?_) (fun hq => ?_)
    · refine XG.sub [0, 1, 2, 3] rfl ?_
      exact L_X9_moveNow_218 C hdm hA hR0 hce hR _ _ _ _ hq
    · refine x_aload_n C 0 dX9_moveNow_196 rfl ?_
      refine x_getrow C hdm cl_X9 rfl ⟨rfl, rfl, rfl⟩ fl_X9_24 dX9_moveNow_197 (fun q1 => ?_)
      refine x_iload C 4 dX9_moveNow_200 rfl ?_
      refine x_iconst C dX9_moveNow_202 ?_
      refine x_iadd C dX9_moveNow_203 ?_
      refine x_aload_n C 0 dX9_moveNow_204 rfl ?_
      refine x_getrow C hdm cl_X9 rfl ⟨rfl, rfl, rfl⟩ fl_X9_24 dX9_moveNow_205 (fun q2 => ?_)
      refine x_iload C 4 dX9_moveNow_208 rfl ?_
      refine inb_2 hq (fun hi hq => ?_)
      refine x_iald C (okR_K hdm q2) (by rw [okR_ln q2]; exact hi) dX9_moveNow_210 ?_
      refine inb_2 hq (fun hi hq => ?_)
      refine x_iast C (okR_K hdm q1) (by rw [okR_ln q1]; exact hi) dX9_moveNow_211 ?_
      refine x_iinc (lv' := [(8, iV (x8 + (-1))), (0, .ref (d.ad (50))), (2, iV (x2)), (3, iV (x3)), (4, iV (x4))]) C 4 dX9_moveNow_212 rfl (by decide) rfl ?_
      refine x_goto (tgt := 184) C dX9_moveNow_215 (by decide) ?_
      refine XG.sub [1, 2, 3, 4, 0] rfl ?_
      exact ih _ _ _ _ _ hq
set_option maxRecDepth 100000 in
set_option maxHeartbeats 4000000 in
theorem L_X9_moveNow_167 {g : Cx} {d : Dl} (C : CX g cX9_moveNow 9 none RX9) (hdm : g.dm = 1) (hA : ∀ q : Nat, g.s.heap.size ≤ q → g.A q) (hR0 : g.R = rmv 3 66 0 0) (hce : d.ce ≤ g.R.cells ∧ d.so ≤ g.R.slots) {res : Wd} (hR : rtV g d cX9_moveNow res) (x2 : Int) (x3 : Int) (x4 : Int) (w : Wd) (hq : p_X9_moveNow_167 x2 x3 x4 w = some res) : XG g d (hP g d w) [(0, .ref (d.ad (50))), (2, iV (x2)), (3, iV (x3)), (4, iV (x4))] [] 167 := by
  refine x_sipush (v := 299) C dX9_moveNow_167 (by decide +kernel) ?_
  refine x_iconst C dX9_moveNow_170 ?_
  refine x_aload_n C 0 dX9_moveNow_171 rfl ?_
  refine x_getrow C hdm cl_X9 rfl ⟨rfl, rfl, rfl⟩ fl_X9_24 dX9_moveNow_172 (fun q1 => ?_)
  refine x_bipush (v := 9) C dX9_moveNow_175 (by decide +kernel) ?_
  refine inb_2 hq (fun hi hq => ?_)
  refine x_iald C (okR_K hdm q1) (by rw [okR_ln q1]; exact hi) dX9_moveNow_177 ?_
  refine x_imul C dX9_moveNow_178 ?_
  refine x_iadd C dX9_moveNow_179 ?_
  refine x_iconst C dX9_moveNow_180 ?_
  refine x_isub C dX9_moveNow_181 ?_
  refine x_istore (lv' := [(8, iV ((299 + (2 * (gA w (gP w 50 3) 9))) - 1)), (0, .ref (d.ad (50))), (2, iV (x2)), (3, iV (x3)), (4, iV (x4))]) C dX9_moveNow_182 (by decide) rfl ?_
  refine XG.sub [1, 2, 3, 4, 0] rfl ?_
  exact L_X9_moveNow_184 C hdm hA hR0 hce hR _ _ _ _ _ _ hq
set_option maxRecDepth 100000 in
set_option maxHeartbeats 4000000 in
theorem L_X9_moveNow_137 {g : Cx} {d : Dl} (C : CX g cX9_moveNow 9 none RX9) (hdm : g.dm = 1) (hA : ∀ q : Nat, g.s.heap.size ≤ q → g.A q) (hR0 : g.R = rmv 3 66 0 0) (hce : d.ce ≤ g.R.cells ∧ d.so ≤ g.R.slots) {res : Wd} (hR : rtV g d cX9_moveNow res) : ∀ (n : Nat) (x2 : Int) (x3 : Int) (x4 : Int) (x5 : Int) (x7 : Int) (x8 : Int) (w : Wd), p_X9_moveNow_137 n x2 x3 x4 x5 x7 x8 w = some res → XG g d (hP g d w) [(0, .ref (d.ad (50))), (2, iV (x2)), (3, iV (x3)), (4, iV (x4)), (5, iV (x5)), (7, iV (x7)), (8, iV (x8))] [] 137 := by
  intro n
  induction n with
  | zero => intro x2 x3 x4 x5 x7 x8 w  hq; exact nomatch (show none = some _ from hq)
  | succ n ih =>
    intro x2 x3 x4 x5 x7 x8 w  hq
    refine x_iload C 6 dX9_moveNow_137 rfl ?_
    refine x_iload C 4 dX9_moveNow_139 rfl ?_
    refine x_icmp_ge (tgt := 167) C dX9_moveNow_141 (by decide) hq (fun hq => ?_) (fun hq => ?_)
    · refine XG.sub [0, 1, 2, 3] rfl ?_
      exact L_X9_moveNow_167 C hdm hA hR0 hce hR _ _ _ _ hq
    · refine x_aload_n C 0 dX9_moveNow_144 rfl ?_
      refine x_getrow C hdm cl_X9 rfl ⟨rfl, rfl, rfl⟩ fl_X9_24 dX9_moveNow_145 (fun q1 => ?_)
      refine x_iload C 5 dX9_moveNow_148 rfl ?_
      refine x_iload C 6 dX9_moveNow_150 rfl ?_
      refine x_iadd C dX9_moveNow_152 ?_
      refine x_aload_n C 0 dX9_moveNow_153 rfl ?_
      refine x_getr (K := 10) (k := 12) (o2 := 56) C (isK_lit hdm rfl rfl) (by decide) cl_X9 (by decide) ⟨rfl, rfl, rfl⟩ fl_X9_36 rfl dX9_moveNow_154 ?_
      refine x_iload C 6 dX9_moveNow_157 rfl ?_
      refine inb_2 hq (fun hi hq => ?_)
      refine x_iald C (isK_lit hdm rfl rfl) hi dX9_moveNow_159 ?_
      refine inb_2 hq (fun hi hq => ?_)
      refine x_iast C (okR_K hdm q1) (by rw [okR_ln q1]; exact hi) dX9_moveNow_160 ?_
      refine x_iinc (lv' := [(8, iV (x8 + 1)), (0, .ref (d.ad (50))), (2, iV (x2)), (3, iV (x3)), (4, iV (x4)), (5, iV (x5)), (7, iV (x7))]) C 6 dX9_moveNow_161 rfl (by decide) rfl ?_
      refine x_goto (tgt := 137) C dX9_moveNow_164 (by decide) ?_
      refine XG.sub [1, 2, 3, 4, 5, 6, 0] rfl ?_
      exact ih _ _ _ _ _ _ _ hq
set_option maxRecDepth 100000 in
set_option maxHeartbeats 4000000 in
theorem L_X9_moveNow_134 {g : Cx} {d : Dl} (C : CX g cX9_moveNow 9 none RX9) (hdm : g.dm = 1) (hA : ∀ q : Nat, g.s.heap.size ≤ q → g.A q) (hR0 : g.R = rmv 3 66 0 0) (hce : d.ce ≤ g.R.cells ∧ d.so ≤ g.R.slots) {res : Wd} (hR : rtV g d cX9_moveNow res) (x2 : Int) (x3 : Int) (x4 : Int) (x5 : Int) (x7 : Int) (w : Wd) (hq : p_X9_moveNow_134 x2 x3 x4 x5 x7 w = some res) : XG g d (hP g d w) [(0, .ref (d.ad (50))), (2, iV (x2)), (3, iV (x3)), (4, iV (x4)), (5, iV (x5)), (7, iV (x7))] [] 134 := by
  refine x_iconst C dX9_moveNow_134 ?_
  refine x_istore (lv' := [(8, iV (0)), (0, .ref (d.ad (50))), (2, iV (x2)), (3, iV (x3)), (4, iV (x4)), (5, iV (x5)), (7, iV (x7))]) C dX9_moveNow_135 (by decide) rfl ?_
  refine XG.sub [1, 2, 3, 4, 5, 6, 0] rfl ?_
  exact L_X9_moveNow_137 C hdm hA hR0 hce hR _ _ _ _ _ _ _ _ hq
set_option maxRecDepth 100000 in
set_option maxHeartbeats 4000000 in
theorem L_X9_moveNow_104 {g : Cx} {d : Dl} (C : CX g cX9_moveNow 9 none RX9) (hdm : g.dm = 1) (hA : ∀ q : Nat, g.s.heap.size ≤ q → g.A q) (hR0 : g.R = rmv 3 66 0 0) (hce : d.ce ≤ g.R.cells ∧ d.so ≤ g.R.slots) {res : Wd} (hR : rtV g d cX9_moveNow res) : ∀ (n : Nat) (x2 : Int) (x3 : Int) (x4 : Int) (x5 : Int) (x7 : Int) (x8 : Int) (w : Wd), p_X9_moveNow_104 n x2 x3 x4 x5 x7 x8 w = some res → XG g d (hP g d w) [(0, .ref (d.ad (50))), (2, iV (x2)), (3, iV (x3)), (4, iV (x4)), (5, iV (x5)), (7, iV (x7)), (8, iV (x8))] [] 104 := by
  intro n
  induction n with
  | zero => intro x2 x3 x4 x5 x7 x8 w  hq; exact nomatch (show none = some _ from hq)
  | succ n ih =>
    intro x2 x3 x4 x5 x7 x8 w  hq
    refine x_iload C 6 dX9_moveNow_104 rfl ?_
    refine x_iload C 5 dX9_moveNow_106 rfl ?_
    refine x_icmp_lt (tgt := 134) C dX9_moveNow_108 (by decide) hq (fun hq => ?_) (fun hq => ?_)
    · refine XG.sub [0, 1, 2, 3, 4, 5] rfl ?_
      exact L_X9_moveNow_134 C hdm hA hR0 hce hR _ _ _ _ _ _ hq
    · refine x_aload_n C 0 dX9_moveNow_111 rfl ?_
      refine x_getrow C hdm cl_X9 rfl ⟨rfl, rfl, rfl⟩ fl_X9_24 dX9_moveNow_112 (fun q1 => ?_)
      refine x_iload C 6 dX9_moveNow_115 rfl ?_
      refine x_iload C 4 dX9_moveNow_117 rfl ?_
      refine x_iadd C dX9_moveNow_119 ?_
      refine x_aload_n C 0 dX9_moveNow_120 rfl ?_
      refine x_getrow C hdm cl_X9 rfl ⟨rfl, rfl, rfl⟩ fl_X9_24 dX9_moveNow_121 (fun q2 => ?_)
      refine x_iload C 6 dX9_moveNow_124 rfl ?_
      refine inb_2 hq (fun hi hq => ?_)
      refine x_iald C (okR_K hdm q2) (by rw [okR_ln q2]; exact hi) dX9_moveNow_126 ?_
      refine inb_2 hq (fun hi hq => ?_)
      refine x_iast C (okR_K hdm q1) (by rw [okR_ln q1]; exact hi) dX9_moveNow_127 ?_
      refine x_iinc (lv' := [(8, iV (x8 + (-1))), (0, .ref (d.ad (50))), (2, iV (x2)), (3, iV (x3)), (4, iV (x4)), (5, iV (x5)), (7, iV (x7))]) C 6 dX9_moveNow_128 rfl (by decide) rfl ?_
      refine x_goto (tgt := 104) C dX9_moveNow_131 (by decide) ?_
      refine XG.sub [1, 2, 3, 4, 5, 6, 0] rfl ?_
      exact ih _ _ _ _ _ _ _ hq
set_option maxRecDepth 100000 in
set_option maxHeartbeats 4000000 in
theorem L_X9_moveNow_67 {g : Cx} {d : Dl} (C : CX g cX9_moveNow 9 none RX9) (hdm : g.dm = 1) (hA : ∀ q : Nat, g.s.heap.size ≤ q → g.A q) (hR0 : g.R = rmv 3 66 0 0) (hce : d.ce ≤ g.R.cells ∧ d.so ≤ g.R.slots) {res : Wd} (hR : rtV g d cX9_moveNow res) (x1 : Int) (x2 : Int) (x3 : Int) (x4 : Int) (x5 : Int) (w : Wd) (hq : p_X9_moveNow_67 x1 x2 x3 x4 x5 w = some res) : XG g d (hP g d w) [(0, .ref (d.ad (50))), (1, iV (x1)), (2, iV (x2)), (3, iV (x3)), (4, iV (x4)), (5, iV (x5))] [] 67 := by
  refine x_aload_n C 0 dX9_moveNow_67 rfl ?_
  refine x_iload_n C 1 dX9_moveNow_68 rfl ?_
  refine x_callVv (K := 10) (rm := rmv 2 44 0 0) (As := [iV (x1)]) (rest := []) C hA hR0 mf_X9_takePart lk_X9_171 rfl (isK_lit hdm rfl rfl) (by decide) ⟨rfl, rfl⟩ ⟨Nat.le_of_ble_eq_true rfl, Nat.le_of_ble_eq_true rfl⟩ rfl rfl (Nat.le_of_ble_eq_true rfl) hce dX9_moveNow_69 hq (fun _ h => c_X9_takePart g.l g.G hdm  h) (fun w1 _ hq => ?_)
  refine x_sipush (v := 319) C dX9_moveNow_72 (by decide +kernel) ?_
  refine x_bipush (v := 13) C dX9_moveNow_75 (by decide +kernel) ?_
  refine x_aload_n C 0 dX9_moveNow_77 rfl ?_
  refine x_iload_n C 2 dX9_moveNow_78 rfl ?_
  refine x_callVi (K := 10) (rm := rmv 1 21 0 0) (As := [iV (x2)]) (rest := [iV (13), iV (319)]) C hA hR0 mf_X9_firstOf lk_X9_90 rfl (isK_lit hdm rfl rfl) (by decide) ⟨rfl, rfl⟩ ⟨Nat.le_of_ble_eq_true rfl, Nat.le_of_ble_eq_true rfl⟩ rfl rfl (Nat.le_of_ble_eq_true rfl) hce dX9_moveNow_79 hq (fun _ _ h => c_X9_firstOf g.l g.G hdm  h) (fun r3 w2 _ hq => ?_)
  refine x_imul C dX9_moveNow_82 ?_
  refine x_iadd C dX9_moveNow_83 ?_
  refine x_istore (lv' := [(7, iV (319 + (13 * r3))), (0, .ref (d.ad (50))), (1, iV (x1)), (2, iV (x2)), (3, iV (x3)), (4, iV (x4)), (5, iV (x5))]) C dX9_moveNow_84 (by decide) rfl ?_
  refine x_sipush (v := 319) C dX9_moveNow_86 (by decide +kernel) ?_
  refine x_bipush (v := 13) C dX9_moveNow_89 (by decide +kernel) ?_
  refine x_aload_n C 1 dX9_moveNow_91 rfl ?_
  refine x_getrow C hdm cl_X9 rfl ⟨rfl, rfl, rfl⟩ fl_X9_24 dX9_moveNow_92 (fun q4 => ?_)
  refine x_bipush (v := 10) C dX9_moveNow_95 (by decide +kernel) ?_
  refine inb_2 hq (fun hi hq => ?_)
  refine x_iald C (okR_K hdm q4) (by rw [okR_ln q4]; exact hi) dX9_moveNow_97 ?_
  refine x_imul C dX9_moveNow_98 ?_
  refine x_iadd C dX9_moveNow_99 ?_
  refine x_iconst C dX9_moveNow_100 ?_
  refine x_isub C dX9_moveNow_101 ?_
  refine x_istore (lv' := [(8, iV ((319 + (13 * (gA w2 (gP w2 50 3) 10))) - 1)), (7, iV (319 + (13 * r3))), (0, .ref (d.ad (50))), (1, iV (x1)), (2, iV (x2)), (3, iV (x3)), (4, iV (x4)), (5, iV (x5))]) C dX9_moveNow_102 (by decide) rfl ?_
  refine XG.sub [2, 4, 5, 6, 7, 1, 0] rfl ?_
  exact L_X9_moveNow_104 C hdm hA hR0 hce hR _ _ _ _ _ _ _ _ hq
set_option maxRecDepth 100000 in
set_option maxHeartbeats 4000000 in
theorem L_X9_moveNow_37 {g : Cx} {d : Dl} (C : CX g cX9_moveNow 9 none RX9) (hdm : g.dm = 1) (hA : ∀ q : Nat, g.s.heap.size ≤ q → g.A q) (hR0 : g.R = rmv 3 66 0 0) (hce : d.ce ≤ g.R.cells ∧ d.so ≤ g.R.slots) {res : Wd} (hR : rtV g d cX9_moveNow res) : ∀ (n : Nat) (x1 : Int) (x2 : Int) (x3 : Int) (x4 : Int) (x5 : Int) (x6 : Int) (x7 : Int) (w : Wd), p_X9_moveNow_37 n x1 x2 x3 x4 x5 x6 x7 w = some res → XG g d (hP g d w) [(0, .ref (d.ad (50))), (1, iV (x1)), (2, iV (x2)), (3, iV (x3)), (4, iV (x4)), (5, iV (x5)), (6, iV (x6)), (7, iV (x7))] [] 37 := by
  intro n
  induction n with
  | zero => intro x1 x2 x3 x4 x5 x6 x7 w  hq; exact nomatch (show none = some _ from hq)
  | succ n ih =>
    intro x1 x2 x3 x4 x5 x6 x7 w  hq
    refine x_iload C 7 dX9_moveNow_37 rfl ?_
    refine x_iload C 5 dX9_moveNow_39 rfl ?_
    refine x_icmp_ge (tgt := 67) C dX9_moveNow_41 (by decide) hq (fun hq => ?_) (fun hq => ?_)
    · refine XG.sub [0, 1, 2, 3, 4, 5] rfl ?_
      exact L_X9_moveNow_67 C hdm hA hR0 hce hR _ _ _ _ _ _ hq
    · refine x_aload_n C 0 dX9_moveNow_44 rfl ?_
      refine x_getr (K := 10) (k := 12) (o2 := 56) C (isK_lit hdm rfl rfl) (by decide) cl_X9 (by decide) ⟨rfl, rfl, rfl⟩ fl_X9_36 rfl dX9_moveNow_45 ?_
      refine x_iload C 7 dX9_moveNow_48 rfl ?_
      refine x_aload_n C 0 dX9_moveNow_50 rfl ?_
      refine x_getrow C hdm cl_X9 rfl ⟨rfl, rfl, rfl⟩ fl_X9_24 dX9_moveNow_51 (fun q1 => ?_)
      refine x_iload C 6 dX9_moveNow_54 rfl ?_
      refine x_iload C 7 dX9_moveNow_56 rfl ?_
      refine x_iadd C dX9_moveNow_58 ?_
      refine inb_2 hq (fun hi hq => ?_)
      refine x_iald C (okR_K hdm q1) (by rw [okR_ln q1]; exact hi) dX9_moveNow_59 ?_
      refine inb_2 hq (fun hi hq => ?_)
      refine x_iast C (isK_lit hdm rfl rfl) hi dX9_moveNow_60 ?_
      refine x_iinc (lv' := [(7, iV (x7 + 1)), (0, .ref (d.ad (50))), (1, iV (x1)), (2, iV (x2)), (3, iV (x3)), (4, iV (x4)), (5, iV (x5)), (6, iV (x6))]) C 7 dX9_moveNow_61 rfl (by decide) rfl ?_
      refine x_goto (tgt := 37) C dX9_moveNow_64 (by decide) ?_
      refine XG.sub [1, 2, 3, 4, 5, 6, 7, 0] rfl ?_
      exact ih _ _ _ _ _ _ _ _ hq
set_option maxRecDepth 100000 in
set_option maxHeartbeats 4000000 in
theorem L_X9_moveNow {g : Cx} {d : Dl} (C : CX g cX9_moveNow 9 none RX9) (hdm : g.dm = 1) (hA : ∀ q : Nat, g.s.heap.size ≤ q → g.A q) (hR0 : g.R = rmv 3 66 0 0) (hce : d.ce ≤ g.R.cells ∧ d.so ≤ g.R.slots) {res : Wd} (hR : rtV g d cX9_moveNow res) (x1 : Int) (x2 : Int) (w : Wd) (hq : p_X9_moveNow x1 x2 w = some res) : XG g d (hP g d w) [(0, .ref (d.ad (50))), (1, iV (x1)), (2, iV (x2))] [] 0 := by
  refine x_aload_n C 0 dX9_moveNow_0 rfl ?_
  refine x_iload_n C 1 dX9_moveNow_1 rfl ?_
  refine x_callVi (K := 10) (rm := rmv 0 0 0 0) (As := [iV (x1)]) (rest := []) C hA hR0 mf_X9_kindOf lk_X9_123 rfl (isK_lit hdm rfl rfl) (by decide) ⟨rfl, rfl⟩ ⟨Nat.le_of_ble_eq_true rfl, Nat.le_of_ble_eq_true rfl⟩ rfl rfl (Nat.le_of_ble_eq_true rfl) hce dX9_moveNow_2 hq (fun _ _ h => c_X9_kindOf g.l g.G hdm  h) (fun r2 w1 _ hq => ?_)
  refine x_istore_n (lv' := [(3, iV (r2)), (0, .ref (d.ad (50))), (1, iV (x1)), (2, iV (x2))]) C dX9_moveNow_5 (by decide) rfl ?_
  refine x_aload_n C 1 dX9_moveNow_6 rfl ?_
  refine x_iload_n C 2 dX9_moveNow_7 rfl ?_
  refine x_callVi (K := 10) (rm := rmv 0 0 0 0) (As := [iV (x1)]) (rest := []) C hA hR0 mf_X9_manyOf lk_X9_86 rfl (isK_lit hdm rfl rfl) (by decide) ⟨rfl, rfl⟩ ⟨Nat.le_of_ble_eq_true rfl, Nat.le_of_ble_eq_true rfl⟩ rfl rfl (Nat.le_of_ble_eq_true rfl) hce dX9_moveNow_8 hq (fun _ _ h => c_X9_manyOf g.l g.G hdm  h) (fun r4 w3 _ hq => ?_)
  refine x_istore (lv' := [(4, iV (r4)), (3, iV (r2)), (0, .ref (d.ad (50))), (1, iV (x1)), (2, iV (x2))]) C dX9_moveNow_11 (by decide) rfl ?_
  refine x_bipush (v := 13) C dX9_moveNow_13 (by decide +kernel) ?_
  refine x_iload C 0 dX9_moveNow_15 rfl ?_
  refine x_imul C dX9_moveNow_17 ?_
  refine x_istore (lv' := [(5, iV (13 * r4)), (4, iV (r4)), (3, iV (r2)), (0, .ref (d.ad (50))), (1, iV (x1)), (2, iV (x2))]) C dX9_moveNow_18 (by decide) rfl ?_
  refine x_sipush (v := 319) C dX9_moveNow_20 (by decide +kernel) ?_
  refine x_bipush (v := 13) C dX9_moveNow_23 (by decide +kernel) ?_
  refine x_aload_n C 3 dX9_moveNow_25 rfl ?_
  refine x_iload_n C 4 dX9_moveNow_26 rfl ?_
  refine x_callVi (K := 10) (rm := rmv 1 21 0 0) (As := [iV (x1)]) (rest := [iV (13), iV (319)]) C hA hR0 mf_X9_firstOf lk_X9_90 rfl (isK_lit hdm rfl rfl) (by decide) ⟨rfl, rfl⟩ ⟨Nat.le_of_ble_eq_true rfl, Nat.le_of_ble_eq_true rfl⟩ rfl rfl (Nat.le_of_ble_eq_true rfl) hce dX9_moveNow_27 hq (fun _ _ h => c_X9_firstOf g.l g.G hdm  h) (fun r6 w5 _ hq => ?_)
  refine x_imul C dX9_moveNow_30 ?_
  refine x_iadd C dX9_moveNow_31 ?_
  refine x_istore (lv' := [(6, iV (319 + (13 * r6))), (5, iV (13 * r4)), (4, iV (r4)), (3, iV (r2)), (0, .ref (d.ad (50))), (1, iV (x1)), (2, iV (x2))]) C dX9_moveNow_32 (by decide) rfl ?_
  refine x_iconst C dX9_moveNow_34 ?_
  refine x_istore (lv' := [(7, iV (0)), (6, iV (319 + (13 * r6))), (5, iV (13 * r4)), (4, iV (r4)), (3, iV (r2)), (0, .ref (d.ad (50))), (1, iV (x1)), (2, iV (x2))]) C dX9_moveNow_35 (by decide) rfl ?_
  refine XG.sub [5, 6, 7, 4, 3, 2, 1, 0] rfl ?_
  exact L_X9_moveNow_37 C hdm hA hR0 hce hR _ _ _ _ _ _ _ _ _ hq
set_option maxRecDepth 100000 in
set_option maxHeartbeats 4000000 in
theorem c_X9_moveNow (l : Launch) (G : Gd) {dm na : Nat} {ad : Nat → Nat} (hdm : dm = 1) {x1 : Int} {x2 : Int} {w w' : Wd}   (hq : p_X9_moveNow x1 x2 w = some w') : mV l yX9_moveNow cX9_moveNow 9 none (rmv 3 66 0 0) G dm na ad [.ref (ad (50)), iV (x1), iV (x2)] w w' := by
  refine met_V [(0, .ref (ad (50))), (1, iV (x1)), (2, iV (x2))] (by decide) (Nat.le_of_ble_eq_true rfl) rfl rfl (fun g d C S hR => ?_)
  obtain ⟨rfl, hR0, rfl, rfl, rfl, hA⟩ := S
  exact L_X9_moveNow (d := (na, ad, 0, 0)) C hdm hA hR0 ⟨Nat.zero_le _, Nat.zero_le _⟩ hR  _ _ w hq
set_option maxRecDepth 100000 in
set_option maxHeartbeats 4000000 in
theorem L_X9_cut_102 {g : Cx} {d : Dl} (C : CX g cX9_cut 7 none RX9) (hdm : g.dm = 1) (hA : ∀ q : Nat, g.s.heap.size ≤ q → g.A q) (hR0 : g.R = rmv 1 23 0 0) (hce : d.ce ≤ g.R.cells ∧ d.so ≤ g.R.slots) {res : Wd} (hR : rtV g d cX9_cut res) {k2 : Int → Int → Int → Wd → Option (Wd)} {k13 : Int → Int → Int → Int → Wd → Option (Wd)} (hk2 : ∀ (x1 : Int) (x2 : Int) (x3 : Int) (w : Wd), k2 x1 x2 x3 w = some res → XG g d (hP g d w) [(0, .ref (d.ad (50))), (1, iV (x1)), (2, iV (x2)), (3, iV (x3))] [] 2) (hk13 : ∀ (x1 : Int) (x2 : Int) (x3 : Int) (x4 : Int) (w : Wd), k13 x1 x2 x3 x4 w = some res → XG g d (hP g d w) [(0, .ref (d.ad (50))), (1, iV (x1)), (2, iV (x2)), (3, iV (x3)), (4, iV (x4))] [] 13) (x1 : Int) (x2 : Int) (x3 : Int) (x4 : Int) (s0 : Int) (s1 : Int) (s2 : Int) (w : Wd) (hq : p_X9_cut_102 k2 k13 x1 x2 x3 x4 s0 s1 s2 w = some res) : XG g d (hP g d w) [(0, .ref (d.ad (50))), (1, iV (x1)), (2, iV (x2)), (3, iV (x3)), (4, iV (x4))] [iV (s0), iV (s1), iV (s2), .ref (d.ad (50))] 102 := by
  refine x_callVv (K := 10) (rm := rmv 0 0 0 0) (As := [iV (s2), iV (s1), iV (s0)]) (rest := []) C hA hR0 mf_X9_putFlaw lk_X9_175 rfl (isK_lit hdm rfl rfl) (by decide) ⟨rfl, rfl⟩ ⟨Nat.le_of_ble_eq_true rfl, Nat.le_of_ble_eq_true rfl⟩ rfl rfl (Nat.le_of_ble_eq_true rfl) hce dX9_cut_102 hq (fun _ h => c_X9_putFlaw g.l g.G hdm  h) (fun w1 _ hq => ?_)
  refine x_iinc (lv' := [(4, iV (x4 + 1)), (0, .ref (d.ad (50))), (1, iV (x1)), (2, iV (x2)), (3, iV (x3))]) C 4 dX9_cut_105 rfl (by decide) rfl ?_
  refine x_goto (tgt := 13) C dX9_cut_108 (by decide) ?_
  refine XG.sub [1, 2, 3, 4, 0] rfl ?_
  exact hk13 _ _ _ _ _ hq
set_option maxRecDepth 100000 in
set_option maxHeartbeats 4000000 in
theorem L_X9_cut_71 {g : Cx} {d : Dl} (C : CX g cX9_cut 7 none RX9) (hdm : g.dm = 1) (hA : ∀ q : Nat, g.s.heap.size ≤ q → g.A q) (hR0 : g.R = rmv 1 23 0 0) (hce : d.ce ≤ g.R.cells ∧ d.so ≤ g.R.slots) {res : Wd} (hR : rtV g d cX9_cut res) {k2 : Int → Int → Int → Wd → Option (Wd)} {k13 : Int → Int → Int → Int → Wd → Option (Wd)} (hk2 : ∀ (x1 : Int) (x2 : Int) (x3 : Int) (w : Wd), k2 x1 x2 x3 w = some res → XG g d (hP g d w) [(0, .ref (d.ad (50))), (1, iV (x1)), (2, iV (x2)), (3, iV (x3))] [] 2) (hk13 : ∀ (x1 : Int) (x2 : Int) (x3 : Int) (x4 : Int) (w : Wd), k13 x1 x2 x3 x4 w = some res → XG g d (hP g d w) [(0, .ref (d.ad (50))), (1, iV (x1)), (2, iV (x2)), (3, iV (x3)), (4, iV (x4))] [] 13) (x1 : Int) (x2 : Int) (x3 : Int) (x4 : Int) (x5 : Int) (s0 : Int) (w : Wd) (hq : p_X9_cut_71 k2 k13 x1 x2 x3 x4 x5 s0 w = some res) : XG g d (hP g d w) [(0, .ref (d.ad (50))), (1, iV (x1)), (2, iV (x2)), (3, iV (x3)), (4, iV (x4)), (5, iV (x5))] [iV (s0)] 71 := by
  refine x_istore (lv' := [(6, iV (s0)), (0, .ref (d.ad (50))), (1, iV (x1)), (2, iV (x2)), (3, iV (x3)), (4, iV (x4)), (5, iV (x5))]) C dX9_cut_71 (by decide) rfl ?_
  refine x_aload_n C 1 dX9_cut_73 rfl ?_
  refine x_iload C 5 dX9_cut_74 rfl ?_
  refine x_iload_n C 4 dX9_cut_76 rfl ?_
  refine x_iload C 0 dX9_cut_77 rfl ?_
  refine x_if_eq (tgt := 101) C dX9_cut_79 (by decide) hq (fun hq => ?_) (fun hq => ?_)
  · refine x_iconst C dX9_cut_101 ?_
    refine XG.sub [1, 2, 3, 4, 5] rfl ?_
    exact L_X9_cut_102 C hdm hA hR0 hce hR hk2 hk13 _ _ _ _ _ _ _ _ hq
  · refine x_aload_n C 1 dX9_cut_82 rfl ?_
    refine x_getrow C hdm cl_X9 rfl ⟨rfl, rfl, rfl⟩ fl_X9_24 dX9_cut_83 (fun q1 => ?_)
    refine x_bipush (v := 11) C dX9_cut_86 (by decide +kernel) ?_
    refine x_bipush (v := 24) C dX9_cut_88 (by decide +kernel) ?_
    refine x_iload C 6 dX9_cut_90 rfl ?_
    refine x_imul C dX9_cut_92 ?_
    refine x_iadd C dX9_cut_93 ?_
    refine x_iload C 5 dX9_cut_94 rfl ?_
    refine x_iadd C dX9_cut_96 ?_
    refine inb_2 hq (fun hi hq => ?_)
    refine x_iald C (okR_K hdm q1) (by rw [okR_ln q1]; exact hi) dX9_cut_97 ?_
    refine x_goto (tgt := 102) C dX9_cut_98 (by decide) ?_
    refine XG.sub [1, 2, 3, 4, 5] rfl ?_
    exact L_X9_cut_102 C hdm hA hR0 hce hR hk2 hk13 _ _ _ _ _ _ _ _ hq
set_option maxRecDepth 100000 in
set_option maxHeartbeats 4000000 in
theorem L_X9_cut_33 {g : Cx} {d : Dl} (C : CX g cX9_cut 7 none RX9) (hdm : g.dm = 1) (hA : ∀ q : Nat, g.s.heap.size ≤ q → g.A q) (hR0 : g.R = rmv 1 23 0 0) (hce : d.ce ≤ g.R.cells ∧ d.so ≤ g.R.slots) {res : Wd} (hR : rtV g d cX9_cut res) {k2 : Int → Int → Int → Wd → Option (Wd)} {k13 : Int → Int → Int → Int → Wd → Option (Wd)} (hk2 : ∀ (x1 : Int) (x2 : Int) (x3 : Int) (w : Wd), k2 x1 x2 x3 w = some res → XG g d (hP g d w) [(0, .ref (d.ad (50))), (1, iV (x1)), (2, iV (x2)), (3, iV (x3))] [] 2) (hk13 : ∀ (x1 : Int) (x2 : Int) (x3 : Int) (x4 : Int) (w : Wd), k13 x1 x2 x3 x4 w = some res → XG g d (hP g d w) [(0, .ref (d.ad (50))), (1, iV (x1)), (2, iV (x2)), (3, iV (x3)), (4, iV (x4))] [] 13) (x1 : Int) (x2 : Int) (x3 : Int) (x4 : Int) (s0 : Int) (w : Wd) (hq : p_X9_cut_33 k2 k13 x1 x2 x3 x4 s0 w = some res) : XG g d (hP g d w) [(0, .ref (d.ad (50))), (1, iV (x1)), (2, iV (x2)), (3, iV (x3)), (4, iV (x4))] [iV (s0)] 33 := by
  refine x_istore (lv' := [(5, iV (s0)), (0, .ref (d.ad (50))), (1, iV (x1)), (2, iV (x2)), (3, iV (x3)), (4, iV (x4))]) C dX9_cut_33 (by decide) rfl ?_
  refine x_iload_n C 3 dX9_cut_35 rfl ?_
  refine x_if_eq (tgt := 56) C dX9_cut_36 (by decide) hq (fun hq => ?_) (fun hq => ?_)
  · refine x_iload_n C 4 dX9_cut_56 rfl ?_
    refine x_aload_n C 1 dX9_cut_57 rfl ?_
    refine x_callVi (K := 10) (rm := rmv 0 0 0 0) (As := []) (rest := [iV (x3)]) C hA hR0 mf_X9_high lk_X9_79 rfl (isK_lit hdm rfl rfl) (by decide) ⟨rfl, rfl⟩ ⟨Nat.le_of_ble_eq_true rfl, Nat.le_of_ble_eq_true rfl⟩ rfl rfl (Nat.le_of_ble_eq_true rfl) hce dX9_cut_58 hq (fun _ _ h => c_X9_high g.l g.G hdm  h) (fun r2 w1 _ hq => ?_)
    refine x_iload_n C 2 dX9_cut_61 rfl ?_
    refine x_isub C dX9_cut_62 ?_
    refine x_icmp_ge (tgt := 70) C dX9_cut_63 (by decide) hq (fun hq => ?_) (fun hq => ?_)
    · refine x_iconst C dX9_cut_70 ?_
      refine XG.sub [1, 2, 3, 4, 5, 0] rfl ?_
      exact L_X9_cut_71 C hdm hA hR0 hce hR hk2 hk13 _ _ _ _ _ _ _ hq
    · refine x_iconst C dX9_cut_66 ?_
      refine x_goto (tgt := 71) C dX9_cut_67 (by decide) ?_
      refine XG.sub [1, 2, 3, 4, 5, 0] rfl ?_
      exact L_X9_cut_71 C hdm hA hR0 hce hR hk2 hk13 _ _ _ _ _ _ _ hq
  · refine x_iload C 0 dX9_cut_39 rfl ?_
    refine x_aload_n C 1 dX9_cut_41 rfl ?_
    refine x_callVi (K := 10) (rm := rmv 0 0 0 0) (As := []) (rest := [iV (s0)]) C hA hR0 mf_X9_high lk_X9_79 rfl (isK_lit hdm rfl rfl) (by decide) ⟨rfl, rfl⟩ ⟨Nat.le_of_ble_eq_true rfl, Nat.le_of_ble_eq_true rfl⟩ rfl rfl (Nat.le_of_ble_eq_true rfl) hce dX9_cut_42 hq (fun _ _ h => c_X9_high g.l g.G hdm  h) (fun r4 w3 _ hq => ?_)
    refine x_icmp_ge (tgt := 52) C dX9_cut_45 (by decide) hq (fun hq => ?_) (fun hq => ?_)
    · refine x_iconst C dX9_cut_52 ?_
      refine x_goto (tgt := 71) C dX9_cut_53 (by decide) ?_
      refine XG.sub [1, 2, 3, 4, 5, 0] rfl ?_
      exact L_X9_cut_71 C hdm hA hR0 hce hR hk2 hk13 _ _ _ _ _ _ _ hq
    · refine x_iconst C dX9_cut_48 ?_
      refine x_goto (tgt := 71) C dX9_cut_49 (by decide) ?_
      refine XG.sub [1, 2, 3, 4, 5, 0] rfl ?_
      exact L_X9_cut_71 C hdm hA hR0 hce hR hk2 hk13 _ _ _ _ _ _ _ hq
set_option maxRecDepth 100000 in
set_option maxHeartbeats 4000000 in
theorem L_X9_cut_111 {g : Cx} {d : Dl} (C : CX g cX9_cut 7 none RX9) (hdm : g.dm = 1) (hA : ∀ q : Nat, g.s.heap.size ≤ q → g.A q) (hR0 : g.R = rmv 1 23 0 0) (hce : d.ce ≤ g.R.cells ∧ d.so ≤ g.R.slots) {res : Wd} (hR : rtV g d cX9_cut res) {k2 : Int → Int → Int → Wd → Option (Wd)} (hk2 : ∀ (x1 : Int) (x2 : Int) (x3 : Int) (w : Wd), k2 x1 x2 x3 w = some res → XG g d (hP g d w) [(0, .ref (d.ad (50))), (1, iV (x1)), (2, iV (x2)), (3, iV (x3))] [] 2) (x1 : Int) (x2 : Int) (x3 : Int) (w : Wd) (hq : p_X9_cut_111 k2 x1 x2 x3 w = some res) : XG g d (hP g d w) [(0, .ref (d.ad (50))), (1, iV (x1)), (2, iV (x2)), (3, iV (x3))] [] 111 := by
  refine x_iinc (lv' := [(3, iV (x3 + 1)), (0, .ref (d.ad (50))), (1, iV (x1)), (2, iV (x2))]) C 3 dX9_cut_111 rfl (by decide) rfl ?_
  refine x_goto (tgt := 2) C dX9_cut_114 (by decide) ?_
  refine XG.sub [1, 2, 3, 0] rfl ?_
  exact hk2 _ _ _ _ hq
set_option maxRecDepth 100000 in
set_option maxHeartbeats 4000000 in
theorem L_X9_cut_13 {g : Cx} {d : Dl} (C : CX g cX9_cut 7 none RX9) (hdm : g.dm = 1) (hA : ∀ q : Nat, g.s.heap.size ≤ q → g.A q) (hR0 : g.R = rmv 1 23 0 0) (hce : d.ce ≤ g.R.cells ∧ d.so ≤ g.R.slots) {res : Wd} (hR : rtV g d cX9_cut res) {k2 : Int → Int → Int → Wd → Option (Wd)} (hk2 : ∀ (x1 : Int) (x2 : Int) (x3 : Int) (w : Wd), k2 x1 x2 x3 w = some res → XG g d (hP g d w) [(0, .ref (d.ad (50))), (1, iV (x1)), (2, iV (x2)), (3, iV (x3))] [] 2) : ∀ (n : Nat) (x1 : Int) (x2 : Int) (x3 : Int) (x4 : Int) (w : Wd), p_X9_cut_13 k2 n x1 x2 x3 x4 w = some res → XG g d (hP g d w) [(0, .ref (d.ad (50))), (1, iV (x1)), (2, iV (x2)), (3, iV (x3)), (4, iV (x4))] [] 13 := by
  intro n
  induction n with
  | zero => intro x1 x2 x3 x4 w  hq; exact nomatch (show none = some _ from hq)
  | succ n ih =>
    intro x1 x2 x3 x4 w  hq
    refine x_iload C 4 dX9_cut_13 rfl ?_
    refine x_aload_n C 0 dX9_cut_15 rfl ?_
    refine x_callVi (K := 10) (rm := rmv 0 0 0 0) (As := []) (rest := [iV (x4)]) C hA hR0 mf_X9_wide lk_X9_71 rfl (isK_lit hdm rfl rfl) (by decide) ⟨rfl, rfl⟩ ⟨Nat.le_of_ble_eq_true rfl, Nat.le_of_ble_eq_true rfl⟩ rfl rfl (Nat.le_of_ble_eq_true rfl) hce dX9_cut_16 hq (fun _ _ h => c_X9_wide g.l g.G hdm  h) (fun r2 w1 _ hq => ?_)
    refine x_icmp_ge (tgt := 111) C dX9_cut_19 (by decide) hq (fun hq => ?_) (fun hq => ?_)
    · refine XG.sub [0, 1, 2, 3] rfl ?_
      exact L_X9_cut_111 C hdm hA hR0 hce hR hk2 _ _ _ _ hq
    · refine x_iload_n C 2 dX9_cut_22 rfl ?_
      refine x_if_eq (tgt := 32) C dX9_cut_23 (by decide) hq (fun hq => ?_) (fun hq => ?_)
      · refine x_iload_n C 3 dX9_cut_32 rfl ?_
        exact L_X9_cut_33 C hdm hA hR0 hce hR hk2 ih _ _ _ _ _ _ hq
      · refine x_iload_n C 3 dX9_cut_26 rfl ?_
        refine x_iload_n C 1 dX9_cut_27 rfl ?_
        refine x_iadd C dX9_cut_28 ?_
        refine x_goto (tgt := 33) C dX9_cut_29 (by decide) ?_
        exact L_X9_cut_33 C hdm hA hR0 hce hR hk2 ih _ _ _ _ _ _ hq
set_option maxRecDepth 100000 in
set_option maxHeartbeats 4000000 in
theorem L_X9_cut_117 {g : Cx} {d : Dl} (C : CX g cX9_cut 7 none RX9) (hdm : g.dm = 1) (hA : ∀ q : Nat, g.s.heap.size ≤ q → g.A q) (hR0 : g.R = rmv 1 23 0 0) (hce : d.ce ≤ g.R.cells ∧ d.so ≤ g.R.slots) {res : Wd} (hR : rtV g d cX9_cut res) (x1 : Int) (w : Wd) (hq : p_X9_cut_117 x1 w = some res) : XG g d (hP g d w) [(0, .ref (d.ad (50))), (1, iV (x1))] [] 117 := by
  refine x_aload_n C 0 dX9_cut_117 rfl ?_
  refine x_getrow C hdm cl_X9 rfl ⟨rfl, rfl, rfl⟩ fl_X9_24 dX9_cut_118 (fun q1 => ?_)
  refine x_iconst C dX9_cut_121 ?_
  refine x_dup2 C rfl rfl dX9_cut_122 ?_
  refine inb_2 hq (fun hi hq => ?_)
  refine x_iald C (okR_K hdm q1) (by rw [okR_ln q1]; exact hi) dX9_cut_123 ?_
  refine x_iload_n C 1 dX9_cut_124 rfl ?_
  refine x_isub C dX9_cut_125 ?_
  refine inb_2 hq (fun hi hq => ?_)
  refine x_iast C (okR_K hdm q1) (by rw [okR_ln q1]; exact hi) dX9_cut_126 ?_
  exact hR _ _ _ hq dX9_cut_127
set_option maxRecDepth 100000 in
set_option maxHeartbeats 4000000 in
theorem L_X9_cut_2 {g : Cx} {d : Dl} (C : CX g cX9_cut 7 none RX9) (hdm : g.dm = 1) (hA : ∀ q : Nat, g.s.heap.size ≤ q → g.A q) (hR0 : g.R = rmv 1 23 0 0) (hce : d.ce ≤ g.R.cells ∧ d.so ≤ g.R.slots) {res : Wd} (hR : rtV g d cX9_cut res) : ∀ (n : Nat) (x1 : Int) (x2 : Int) (x3 : Int) (w : Wd), p_X9_cut_2 n x1 x2 x3 w = some res → XG g d (hP g d w) [(0, .ref (d.ad (50))), (1, iV (x1)), (2, iV (x2)), (3, iV (x3))] [] 2 := by
  intro n
  induction n with
  | zero => intro x1 x2 x3 w  hq; exact nomatch (show none = some _ from hq)
  | succ n ih =>
    intro x1 x2 x3 w  hq
    refine x_iload_n C 3 dX9_cut_2 rfl ?_
    refine x_aload_n C 0 dX9_cut_3 rfl ?_
    refine x_callVi (K := 10) (rm := rmv 0 0 0 0) (As := []) (rest := [iV (x3)]) C hA hR0 mf_X9_high lk_X9_79 rfl (isK_lit hdm rfl rfl) (by decide) ⟨rfl, rfl⟩ ⟨Nat.le_of_ble_eq_true rfl, Nat.le_of_ble_eq_true rfl⟩ rfl rfl (Nat.le_of_ble_eq_true rfl) hce dX9_cut_4 hq (fun _ _ h => c_X9_high g.l g.G hdm  h) (fun r2 w1 _ hq => ?_)
    refine x_icmp_ge (tgt := 117) C dX9_cut_7 (by decide) hq (fun hq => ?_) (fun hq => ?_)
    · refine XG.sub [0, 1] rfl ?_
      exact L_X9_cut_117 C hdm hA hR0 hce hR _ _ hq
    · refine x_iconst C dX9_cut_10 ?_
      refine x_istore (lv' := [(4, iV (0)), (0, .ref (d.ad (50))), (1, iV (x1)), (2, iV (x2)), (3, iV (x3))]) C dX9_cut_11 (by decide) rfl ?_
      refine XG.sub [1, 2, 3, 4, 0] rfl ?_
      exact L_X9_cut_13 C hdm hA hR0 hce hR ih _ _ _ _ _ _ hq
set_option maxRecDepth 100000 in
set_option maxHeartbeats 4000000 in
theorem L_X9_cut {g : Cx} {d : Dl} (C : CX g cX9_cut 7 none RX9) (hdm : g.dm = 1) (hA : ∀ q : Nat, g.s.heap.size ≤ q → g.A q) (hR0 : g.R = rmv 1 23 0 0) (hce : d.ce ≤ g.R.cells ∧ d.so ≤ g.R.slots) {res : Wd} (hR : rtV g d cX9_cut res) (x1 : Int) (x2 : Int) (w : Wd) (hq : p_X9_cut x1 x2 w = some res) : XG g d (hP g d w) [(0, .ref (d.ad (50))), (1, iV (x1)), (2, iV (x2))] [] 0 := by
  refine x_iconst C dX9_cut_0 ?_
  refine x_istore_n (lv' := [(3, iV (0)), (0, .ref (d.ad (50))), (1, iV (x1)), (2, iV (x2))]) C dX9_cut_1 (by decide) rfl ?_
  refine XG.sub [1, 2, 3, 0] rfl ?_
  exact L_X9_cut_2 C hdm hA hR0 hce hR _ _ _ _ _ hq
set_option maxRecDepth 100000 in
set_option maxHeartbeats 4000000 in
theorem c_X9_cut (l : Launch) (G : Gd) {dm na : Nat} {ad : Nat → Nat} (hdm : dm = 1) {x1 : Int} {x2 : Int} {w w' : Wd}   (hq : p_X9_cut x1 x2 w = some w') : mV l yX9_cut cX9_cut 7 none (rmv 1 23 0 0) G dm na ad [.ref (ad (50)), iV (x1), iV (x2)] w w' := by
  refine met_V [(0, .ref (ad (50))), (1, iV (x1)), (2, iV (x2))] (by decide) (Nat.le_of_ble_eq_true rfl) rfl rfl (fun g d C S hR => ?_)
  obtain ⟨rfl, hR0, rfl, rfl, rfl, hA⟩ := S
  exact L_X9_cut (d := (na, ad, 0, 0)) C hdm hA hR0 ⟨Nat.zero_le _, Nat.zero_le _⟩ hR  _ _ w hq
set_option maxRecDepth 100000 in
set_option maxHeartbeats 4000000 in
theorem L_X9_keepCarved_112 {g : Cx} {d : Dl} (C : CX g cX9_keepCarved 4 none RX9) (hdm : g.dm = 1) (hA : ∀ q : Nat, g.s.heap.size ≤ q → g.A q) (hR0 : g.R = rmv 9 213 0 0) (hce : d.ce ≤ g.R.cells ∧ d.so ≤ g.R.slots) {res : Wd} (hR : rtV g d cX9_keepCarved res) {k40 : Int → Wd → Option (Wd)} (hk40 : ∀ (x2 : Int) (w : Wd), k40 x2 w = some res → XG g d (hP g d w) [(0, .ref (d.ad (50))), (2, iV (x2))] [] 40) (x2 : Int) (w : Wd) (hq : p_X9_keepCarved_112 k40 x2 w = some res) : XG g d (hP g d w) [(0, .ref (d.ad (50))), (2, iV (x2))] [] 112 := by
  refine x_iinc (lv' := [(2, iV (x2 + 1)), (0, .ref (d.ad (50)))]) C 1 dX9_keepCarved_112 rfl (by decide) rfl ?_
  refine x_goto (tgt := 40) C dX9_keepCarved_115 (by decide) ?_
  refine XG.sub [1, 0] rfl ?_
  exact hk40 _ _ hq
set_option maxRecDepth 100000 in
set_option maxHeartbeats 4000000 in
theorem L_X9_keepCarved_74 {g : Cx} {d : Dl} (C : CX g cX9_keepCarved 4 none RX9) (hdm : g.dm = 1) (hA : ∀ q : Nat, g.s.heap.size ≤ q → g.A q) (hR0 : g.R = rmv 9 213 0 0) (hce : d.ce ≤ g.R.cells ∧ d.so ≤ g.R.slots) {res : Wd} (hR : rtV g d cX9_keepCarved res) {k40 : Int → Wd → Option (Wd)} (hk40 : ∀ (x2 : Int) (w : Wd), k40 x2 w = some res → XG g d (hP g d w) [(0, .ref (d.ad (50))), (2, iV (x2))] [] 40) : ∀ (n : Nat) (x2 : Int) (x3 : Int) (w : Wd), p_X9_keepCarved_74 k40 n x2 x3 w = some res → XG g d (hP g d w) [(0, .ref (d.ad (50))), (2, iV (x2)), (3, iV (x3))] [] 74 := by
  intro n
  induction n with
  | zero => intro x2 x3 w  hq; exact nomatch (show none = some _ from hq)
  | succ n ih =>
    intro x2 x3 w  hq
    refine x_iload_n C 2 dX9_keepCarved_74 rfl ?_
    refine x_bipush (v := 13) C dX9_keepCarved_75 (by decide +kernel) ?_
    refine x_icmp_ge (tgt := 112) C dX9_keepCarved_77 (by decide) hq (fun hq => ?_) (fun hq => ?_)
    · refine XG.sub [0, 1] rfl ?_
      exact L_X9_keepCarved_112 C hdm hA hR0 hce hR hk40 _ _ hq
    · refine x_aload_n C 0 dX9_keepCarved_80 rfl ?_
      refine x_getr (K := 10) (k := 15) (o2 := 59) C (isK_lit hdm rfl rfl) (by decide) cl_X9 (by decide) ⟨rfl, rfl, rfl⟩ fl_X9_45 rfl dX9_keepCarved_81 ?_
      refine x_bipush (v := 13) C dX9_keepCarved_84 (by decide +kernel) ?_
      refine x_iload_n C 1 dX9_keepCarved_86 rfl ?_
      refine x_imul C dX9_keepCarved_87 ?_
      refine x_iload_n C 2 dX9_keepCarved_88 rfl ?_
      refine x_iadd C dX9_keepCarved_89 ?_
      refine x_aload_n C 0 dX9_keepCarved_90 rfl ?_
      refine x_getrow C hdm cl_X9 rfl ⟨rfl, rfl, rfl⟩ fl_X9_24 dX9_keepCarved_91 (fun q1 => ?_)
      refine x_sipush (v := 319) C dX9_keepCarved_94 (by decide +kernel) ?_
      refine x_bipush (v := 13) C dX9_keepCarved_97 (by decide +kernel) ?_
      refine x_iload_n C 1 dX9_keepCarved_99 rfl ?_
      refine x_imul C dX9_keepCarved_100 ?_
      refine x_iadd C dX9_keepCarved_101 ?_
      refine x_iload_n C 2 dX9_keepCarved_102 rfl ?_
      refine x_iadd C dX9_keepCarved_103 ?_
      refine inb_2 hq (fun hi hq => ?_)
      refine x_iald C (okR_K hdm q1) (by rw [okR_ln q1]; exact hi) dX9_keepCarved_104 ?_
      refine inb_2 hq (fun hi hq => ?_)
      refine x_iast C (isK_lit hdm rfl rfl) hi dX9_keepCarved_105 ?_
      refine x_iinc (lv' := [(3, iV (x3 + 1)), (0, .ref (d.ad (50))), (2, iV (x2))]) C 2 dX9_keepCarved_106 rfl (by decide) rfl ?_
      refine x_goto (tgt := 74) C dX9_keepCarved_109 (by decide) ?_
      refine XG.sub [1, 2, 0] rfl ?_
      exact ih _ _ _ hq
set_option maxRecDepth 100000 in
set_option maxHeartbeats 4000000 in
theorem L_X9_keepCarved_40 {g : Cx} {d : Dl} (C : CX g cX9_keepCarved 4 none RX9) (hdm : g.dm = 1) (hA : ∀ q : Nat, g.s.heap.size ≤ q → g.A q) (hR0 : g.R = rmv 9 213 0 0) (hce : d.ce ≤ g.R.cells ∧ d.so ≤ g.R.slots) {res : Wd} (hR : rtV g d cX9_keepCarved res) : ∀ (n : Nat) (x2 : Int) (w : Wd), p_X9_keepCarved_40 n x2 w = some res → XG g d (hP g d w) [(0, .ref (d.ad (50))), (2, iV (x2))] [] 40 := by
  intro n
  induction n with
  | zero => intro x2 w  hq; exact nomatch (show none = some _ from hq)
  | succ n ih =>
    intro x2 w  hq
    refine x_iload_n C 1 dX9_keepCarved_40 rfl ?_
    refine x_aload_n C 0 dX9_keepCarved_41 rfl ?_
    refine x_get (K := 10) (k := 16) C (isK_lit hdm rfl rfl) (by decide) cl_X9 (by decide) ⟨rfl, rfl, rfl⟩ fl_X9_182 dX9_keepCarved_42 ?_
    refine x_icmp_ge (tgt := 118) C dX9_keepCarved_45 (by decide) hq (fun hq => ?_) (fun hq => ?_)
    · exact hR _ _ _ hq dX9_keepCarved_118
    · refine x_aload_n C 0 dX9_keepCarved_48 rfl ?_
      refine x_getr (K := 10) (k := 13) (o2 := 57) C (isK_lit hdm rfl rfl) (by decide) cl_X9 (by decide) ⟨rfl, rfl, rfl⟩ fl_X9_39 rfl dX9_keepCarved_49 ?_
      refine x_iload_n C 1 dX9_keepCarved_52 rfl ?_
      refine x_aload_n C 0 dX9_keepCarved_53 rfl ?_
      refine x_getr (K := 10) (k := 4) (o2 := 53) C (isK_lit hdm rfl rfl) (by decide) cl_X9 (by decide) ⟨rfl, rfl, rfl⟩ fl_X9_27 rfl dX9_keepCarved_54 ?_
      refine x_iload_n C 1 dX9_keepCarved_57 rfl ?_
      refine inb_2 hq (fun hi hq => ?_)
      refine x_iald C (isK_lit hdm rfl rfl) hi dX9_keepCarved_58 ?_
      refine inb_2 hq (fun hi hq => ?_)
      refine x_iast C (isK_lit hdm rfl rfl) hi dX9_keepCarved_59 ?_
      refine x_aload_n C 0 dX9_keepCarved_60 rfl ?_
      refine x_getr (K := 10) (k := 14) (o2 := 58) C (isK_lit hdm rfl rfl) (by decide) cl_X9 (by decide) ⟨rfl, rfl, rfl⟩ fl_X9_42 rfl dX9_keepCarved_61 ?_
      refine x_iload_n C 1 dX9_keepCarved_64 rfl ?_
      refine x_aload_n C 0 dX9_keepCarved_65 rfl ?_
      refine x_getr (K := 10) (k := 5) (o2 := 54) C (isK_lit hdm rfl rfl) (by decide) cl_X9 (by decide) ⟨rfl, rfl, rfl⟩ fl_X9_30 rfl dX9_keepCarved_66 ?_
      refine x_iload_n C 1 dX9_keepCarved_69 rfl ?_
      refine inb_2 hq (fun hi hq => ?_)
      refine x_iald C (isK_lit hdm rfl rfl) hi dX9_keepCarved_70 ?_
      refine inb_2 hq (fun hi hq => ?_)
      refine x_iast C (isK_lit hdm rfl rfl) hi dX9_keepCarved_71 ?_
      refine nmW hq (fun w1 ew1 hq => ?_)
      rw [← ew1]
      refine x_iconst C dX9_keepCarved_72 ?_
      refine x_istore_n (lv' := [(3, iV (0)), (0, .ref (d.ad (50))), (2, iV (x2))]) C dX9_keepCarved_73 (by decide) rfl ?_
      refine XG.sub [1, 2, 0] rfl ?_
      exact L_X9_keepCarved_74 C hdm hA hR0 hce hR ih _ _ _ _ hq
set_option maxRecDepth 100000 in
set_option maxHeartbeats 4000000 in
theorem L_X9_keepCarved_35 {g : Cx} {d : Dl} (C : CX g cX9_keepCarved 4 none RX9) (hdm : g.dm = 1) (hA : ∀ q : Nat, g.s.heap.size ≤ q → g.A q) (hR0 : g.R = rmv 9 213 0 0) (hce : d.ce ≤ g.R.cells ∧ d.so ≤ g.R.slots) {res : Wd} (hR : rtV g d cX9_keepCarved res) (s0 : Int) (w : Wd) (hq : p_X9_keepCarved_35 s0 w = some res) : XG g d (hP g d w) [(0, .ref (d.ad (50)))] [iV (s0), .ref (d.ad (50))] 35 := by
  refine x_put (K := 10) (k := 16) C (isK_lit hdm rfl rfl) (by decide) cl_X9 (by decide) ⟨rfl, rfl, rfl, rfl⟩ fl_X9_182 ⟨rfl, rfl⟩ dX9_keepCarved_35 ?_
  refine x_iconst C dX9_keepCarved_38 ?_
  refine x_istore_n (lv' := [(2, iV (0)), (0, .ref (d.ad (50)))]) C dX9_keepCarved_39 (by decide) rfl ?_
  refine XG.sub [1, 0] rfl ?_
  exact L_X9_keepCarved_40 C hdm hA hR0 hce hR _ _ _ hq
set_option maxRecDepth 100000 in
set_option maxHeartbeats 4000000 in
theorem L_X9_keepCarved {g : Cx} {d : Dl} (C : CX g cX9_keepCarved 4 none RX9) (hdm : g.dm = 1) (hA : ∀ q : Nat, g.s.heap.size ≤ q → g.A q) (hR0 : g.R = rmv 9 213 0 0) (hce : d.ce ≤ g.R.cells ∧ d.so ≤ g.R.slots) {res : Wd} (hR : rtV g d cX9_keepCarved res)  (w : Wd) (hq : p_X9_keepCarved  w = some res) : XG g d (hP g d w) [(0, .ref (d.ad (50)))] [] 0 := by
  refine x_aload_n C 0 dX9_keepCarved_0 rfl ?_
  refine x_callVi (K := 10) (rm := rmv 8 192 0 0) (As := []) (rest := []) C hA hR0 mf_X9_lay lk_X9_179 rfl (isK_lit hdm rfl rfl) (by decide) ⟨rfl, rfl⟩ ⟨Nat.le_of_ble_eq_true rfl, Nat.le_of_ble_eq_true rfl⟩ rfl rfl (Nat.le_of_ble_eq_true rfl) hce dX9_keepCarved_1 hq (fun _ _ h => c_X9_lay g.l g.G hdm  h) (fun r2 w1 _ hq => ?_)
  refine x_istore_n (lv' := [(1, iV (r2)), (0, .ref (d.ad (50)))]) C dX9_keepCarved_4 (by decide) rfl ?_
  refine x_aload_n C 1 dX9_keepCarved_5 rfl ?_
  refine x_aload_n C 1 dX9_keepCarved_6 rfl ?_
  refine x_getrow C hdm cl_X9 rfl ⟨rfl, rfl, rfl⟩ fl_X9_24 dX9_keepCarved_7 (fun q3 => ?_)
  refine x_bipush (v := 8) C dX9_keepCarved_10 (by decide +kernel) ?_
  refine inb_2 hq (fun hi hq => ?_)
  refine x_iald C (okR_K hdm q3) (by rw [okR_ln q3]; exact hi) dX9_keepCarved_12 ?_
  refine x_if_ne (tgt := 20) C dX9_keepCarved_13 (by decide) hq (fun hq => ?_) (fun hq => ?_)
  · refine x_aload_n C 1 dX9_keepCarved_20 rfl ?_
    refine x_aload_n C 1 dX9_keepCarved_21 rfl ?_
    refine x_getrow C hdm cl_X9 rfl ⟨rfl, rfl, rfl⟩ fl_X9_24 dX9_keepCarved_22 (fun q4 => ?_)
    refine x_bipush (v := 8) C dX9_keepCarved_25 (by decide +kernel) ?_
    refine inb_2 hq (fun hi hq => ?_)
    refine x_iald C (okR_K hdm q4) (by rw [okR_ln q4]; exact hi) dX9_keepCarved_27 ?_
    refine x_iconst C dX9_keepCarved_28 ?_
    refine x_isub C dX9_keepCarved_29 ?_
    refine x_callVi (K := 10) (rm := rmv 2 44 0 0) (As := [iV ((gA w1 (gP w1 50 3) 8) - 1)]) (rest := [.ref (d.ad (50))]) C hA hR0 mf_X9_wordOfLetter lk_X9_148 rfl (isK_lit hdm rfl rfl) (by decide) ⟨rfl, rfl⟩ ⟨Nat.le_of_ble_eq_true rfl, Nat.le_of_ble_eq_true rfl⟩ rfl rfl (Nat.le_of_ble_eq_true rfl) hce dX9_keepCarved_30 hq (fun _ _ h => c_X9_wordOfLetter g.l g.G hdm  h) (fun r6 w5 _ hq => ?_)
    refine x_iconst C dX9_keepCarved_33 ?_
    refine x_iadd C dX9_keepCarved_34 ?_
    refine XG.sub [1] rfl ?_
    exact L_X9_keepCarved_35 C hdm hA hR0 hce hR _ _ hq
  · refine x_iconst C dX9_keepCarved_16 ?_
    refine x_goto (tgt := 35) C dX9_keepCarved_17 (by decide) ?_
    refine XG.sub [1] rfl ?_
    exact L_X9_keepCarved_35 C hdm hA hR0 hce hR _ _ hq
set_option maxRecDepth 100000 in
set_option maxHeartbeats 4000000 in
theorem c_X9_keepCarved (l : Launch) (G : Gd) {dm na : Nat} {ad : Nat → Nat} (hdm : dm = 1)  {w w' : Wd}   (hq : p_X9_keepCarved  w = some w') : mV l yX9_keepCarved cX9_keepCarved 4 none (rmv 9 213 0 0) G dm na ad [.ref (ad (50))] w w' := by
  refine met_V [(0, .ref (ad (50)))] (by decide) (Nat.le_of_ble_eq_true rfl) rfl rfl (fun g d C S hR => ?_)
  obtain ⟨rfl, hR0, rfl, rfl, rfl, hA⟩ := S
  exact L_X9_keepCarved (d := (na, ad, 0, 0)) C hdm hA hR0 ⟨Nat.zero_le _, Nat.zero_le _⟩ hR   w hq
set_option maxRecDepth 100000 in
set_option maxHeartbeats 4000000 in
theorem L_X9_isAsKept_95 {g : Cx} {d : Dl} (C : CX g cX9_isAsKept 4 (some .boolean) RX9) (hdm : g.dm = 1) (hA : ∀ q : Nat, g.s.heap.size ≤ q → g.A q) (hR0 : g.R = rmv 1 22 0 0) (hce : d.ce ≤ g.R.cells ∧ d.so ≤ g.R.slots) {res : Int × Wd} (hR : rtI g d cX9_isAsKept .boolean res) {k55 : Int → Int → Int → Wd → Option (Int × Wd)} (hk55 : ∀ (x1 : Int) (x2 : Int) (x3 : Int) (w : Wd), k55 x1 x2 x3 w = some res → XG g d (hP g d w) [(0, .ref (d.ad (50))), (1, iV (x1)), (2, iV (x2)), (3, iV (x3))] [] 55) (x1 : Int) (x3 : Int) (s0 : Int) (w : Wd) (hq : p_X9_isAsKept_95 k55 x1 x3 s0 w = some res) : XG g d (hP g d w) [(0, .ref (d.ad (50))), (1, iV (x1)), (3, iV (x3))] [iV (s0)] 95 := by
  refine x_istore_n (lv' := [(2, iV (s0)), (0, .ref (d.ad (50))), (1, iV (x1)), (3, iV (x3))]) C dX9_isAsKept_95 (by decide) rfl ?_
  refine x_iinc (lv' := [(3, iV (x3 + 1)), (2, iV (s0)), (0, .ref (d.ad (50))), (1, iV (x1))]) C 3 dX9_isAsKept_96 rfl (by decide) rfl ?_
  refine x_goto (tgt := 55) C dX9_isAsKept_99 (by decide) ?_
  refine XG.sub [2, 3, 1, 0] rfl ?_
  exact hk55 _ _ _ _ hq
set_option maxRecDepth 100000 in
set_option maxHeartbeats 4000000 in
theorem L_X9_isAsKept_55 {g : Cx} {d : Dl} (C : CX g cX9_isAsKept 4 (some .boolean) RX9) (hdm : g.dm = 1) (hA : ∀ q : Nat, g.s.heap.size ≤ q → g.A q) (hR0 : g.R = rmv 1 22 0 0) (hce : d.ce ≤ g.R.cells ∧ d.so ≤ g.R.slots) {res : Int × Wd} (hR : rtI g d cX9_isAsKept .boolean res) : ∀ (n : Nat) (x1 : Int) (x2 : Int) (x3 : Int) (w : Wd), p_X9_isAsKept_55 n x1 x2 x3 w = some res → XG g d (hP g d w) [(0, .ref (d.ad (50))), (1, iV (x1)), (2, iV (x2)), (3, iV (x3))] [] 55 := by
  intro n
  induction n with
  | zero => intro x1 x2 x3 w  hq; exact nomatch (show none = some _ from hq)
  | succ n ih =>
    intro x1 x2 x3 w  hq
    refine x_iload_n C 3 dX9_isAsKept_55 rfl ?_
    refine x_aload_n C 0 dX9_isAsKept_56 rfl ?_
    refine x_iload_n C 1 dX9_isAsKept_57 rfl ?_
    refine x_callVi (K := 10) (rm := rmv 0 0 0 0) (As := [iV (x1)]) (rest := [iV (x3)]) C hA hR0 mf_X9_bytesOf lk_X9_106 rfl (isK_lit hdm rfl rfl) (by decide) ⟨rfl, rfl⟩ ⟨Nat.le_of_ble_eq_true rfl, Nat.le_of_ble_eq_true rfl⟩ rfl rfl (Nat.le_of_ble_eq_true rfl) hce dX9_isAsKept_58 hq (fun _ _ h => c_X9_bytesOf g.l g.G hdm  h) (fun r2 w1 _ hq => ?_)
    refine x_icmp_ge (tgt := 102) C dX9_isAsKept_61 (by decide) hq (fun hq => ?_) (fun hq => ?_)
    · refine x_iload_n C 2 dX9_isAsKept_102 rfl ?_
      exact hR _ _ _ _ (zr_2 hq) (zr_1 hq) dX9_isAsKept_103
    · refine x_iload_n C 2 dX9_isAsKept_64 rfl ?_
      refine x_if_eq (tgt := 102) C dX9_isAsKept_65 (by decide) hq (fun hq => ?_) (fun hq => ?_)
      · refine x_iload_n C 2 dX9_isAsKept_102 rfl ?_
        exact hR _ _ _ _ (zr_2 hq) (zr_1 hq) dX9_isAsKept_103
      · refine x_aload_n C 0 dX9_isAsKept_68 rfl ?_
        refine x_iload_n C 1 dX9_isAsKept_69 rfl ?_
        refine x_iload_n C 3 dX9_isAsKept_70 rfl ?_
        refine x_callVi (K := 10) (rm := rmv 0 0 0 0) (As := [iV (x1), iV (x3)]) (rest := []) C hA hR0 mf_X9_byteOf lk_X9_132 rfl (isK_lit hdm rfl rfl) (by decide) ⟨rfl, rfl⟩ ⟨Nat.le_of_ble_eq_true rfl, Nat.le_of_ble_eq_true rfl⟩ rfl rfl (Nat.le_of_ble_eq_true rfl) hce dX9_isAsKept_71 hq (fun _ _ h => c_X9_byteOf g.l g.G hdm  h) (fun r4 w3 _ hq => ?_)
        refine x_aload_n C 0 dX9_isAsKept_74 rfl ?_
        refine x_getr (K := 10) (k := 15) (o2 := 59) C (isK_lit hdm rfl rfl) (by decide) cl_X9 (by decide) ⟨rfl, rfl, rfl⟩ fl_X9_45 rfl dX9_isAsKept_75 ?_
        refine x_bipush (v := 13) C dX9_isAsKept_78 (by decide +kernel) ?_
        refine x_iload_n C 1 dX9_isAsKept_80 rfl ?_
        refine x_imul C dX9_isAsKept_81 ?_
        refine x_iconst C dX9_isAsKept_82 ?_
        refine x_iadd C dX9_isAsKept_83 ?_
        refine x_iload_n C 3 dX9_isAsKept_84 rfl ?_
        refine x_iadd C dX9_isAsKept_85 ?_
        refine inb_2 hq (fun hi hq => ?_)
        refine x_iald C (isK_lit hdm rfl rfl) hi dX9_isAsKept_86 ?_
        refine x_icmp_ne (tgt := 94) C dX9_isAsKept_87 (by decide) hq (fun hq => ?_) (fun hq => ?_)
        · refine x_iconst C dX9_isAsKept_94 ?_
          refine XG.sub [0, 1, 3] rfl ?_
          exact L_X9_isAsKept_95 C hdm hA hR0 hce hR ih _ _ _ _ hq
        · refine x_iconst C dX9_isAsKept_90 ?_
          refine x_goto (tgt := 95) C dX9_isAsKept_91 (by decide) ?_
          refine XG.sub [0, 1, 3] rfl ?_
          exact L_X9_isAsKept_95 C hdm hA hR0 hce hR ih _ _ _ _ hq
set_option maxRecDepth 100000 in
set_option maxHeartbeats 4000000 in
theorem L_X9_isAsKept_52 {g : Cx} {d : Dl} (C : CX g cX9_isAsKept 4 (some .boolean) RX9) (hdm : g.dm = 1) (hA : ∀ q : Nat, g.s.heap.size ≤ q → g.A q) (hR0 : g.R = rmv 1 22 0 0) (hce : d.ce ≤ g.R.cells ∧ d.so ≤ g.R.slots) {res : Int × Wd} (hR : rtI g d cX9_isAsKept .boolean res) (x1 : Int) (s0 : Int) (w : Wd) (hq : p_X9_isAsKept_52 x1 s0 w = some res) : XG g d (hP g d w) [(0, .ref (d.ad (50))), (1, iV (x1))] [iV (s0)] 52 := by
  refine x_istore_n (lv' := [(2, iV (s0)), (0, .ref (d.ad (50))), (1, iV (x1))]) C dX9_isAsKept_52 (by decide) rfl ?_
  refine x_iconst C dX9_isAsKept_53 ?_
  refine x_istore_n (lv' := [(3, iV (0)), (2, iV (s0)), (0, .ref (d.ad (50))), (1, iV (x1))]) C dX9_isAsKept_54 (by decide) rfl ?_
  refine XG.sub [2, 3, 1, 0] rfl ?_
  exact L_X9_isAsKept_55 C hdm hA hR0 hce hR _ _ _ _ _ hq
set_option maxRecDepth 100000 in
set_option maxHeartbeats 4000000 in
theorem L_X9_isAsKept_51 {g : Cx} {d : Dl} (C : CX g cX9_isAsKept 4 (some .boolean) RX9) (hdm : g.dm = 1) (hA : ∀ q : Nat, g.s.heap.size ≤ q → g.A q) (hR0 : g.R = rmv 1 22 0 0) (hce : d.ce ≤ g.R.cells ∧ d.so ≤ g.R.slots) {res : Int × Wd} (hR : rtI g d cX9_isAsKept .boolean res) (x1 : Int) (w : Wd) (hq : p_X9_isAsKept_51 x1 w = some res) : XG g d (hP g d w) [(0, .ref (d.ad (50))), (1, iV (x1))] [] 51 := by
  refine x_iconst C dX9_isAsKept_51 ?_
  exact L_X9_isAsKept_52 C hdm hA hR0 hce hR _ _ _ hq
set_option maxRecDepth 100000 in
set_option maxHeartbeats 4000000 in
theorem L_X9_isAsKept {g : Cx} {d : Dl} (C : CX g cX9_isAsKept 4 (some .boolean) RX9) (hdm : g.dm = 1) (hA : ∀ q : Nat, g.s.heap.size ≤ q → g.A q) (hR0 : g.R = rmv 1 22 0 0) (hce : d.ce ≤ g.R.cells ∧ d.so ≤ g.R.slots) {res : Int × Wd} (hR : rtI g d cX9_isAsKept .boolean res) (x1 : Int) (w : Wd) (hq : p_X9_isAsKept x1 w = some res) : XG g d (hP g d w) [(0, .ref (d.ad (50))), (1, iV (x1))] [] 0 := by
  refine x_aload_n C 0 dX9_isAsKept_0 rfl ?_
  refine x_getr (K := 10) (k := 4) (o2 := 53) C (isK_lit hdm rfl rfl) (by decide) cl_X9 (by decide) ⟨rfl, rfl, rfl⟩ fl_X9_27 rfl dX9_isAsKept_1 ?_
  refine x_iload_n C 1 dX9_isAsKept_4 rfl ?_
  refine inb_2 hq (fun hi hq => ?_)
  refine x_iald C (isK_lit hdm rfl rfl) hi dX9_isAsKept_5 ?_
  refine x_aload_n C 0 dX9_isAsKept_6 rfl ?_
  refine x_getr (K := 10) (k := 13) (o2 := 57) C (isK_lit hdm rfl rfl) (by decide) cl_X9 (by decide) ⟨rfl, rfl, rfl⟩ fl_X9_39 rfl dX9_isAsKept_7 ?_
  refine x_iload_n C 1 dX9_isAsKept_10 rfl ?_
  refine inb_2 hq (fun hi hq => ?_)
  refine x_iald C (isK_lit hdm rfl rfl) hi dX9_isAsKept_11 ?_
  refine x_icmp_ne (tgt := 51) C dX9_isAsKept_12 (by decide) hq (fun hq => ?_) (fun hq => ?_)
  · exact L_X9_isAsKept_51 C hdm hA hR0 hce hR _ _ hq
  · refine x_aload_n C 0 dX9_isAsKept_15 rfl ?_
    refine x_getr (K := 10) (k := 5) (o2 := 54) C (isK_lit hdm rfl rfl) (by decide) cl_X9 (by decide) ⟨rfl, rfl, rfl⟩ fl_X9_30 rfl dX9_isAsKept_16 ?_
    refine x_iload_n C 1 dX9_isAsKept_19 rfl ?_
    refine inb_2 hq (fun hi hq => ?_)
    refine x_iald C (isK_lit hdm rfl rfl) hi dX9_isAsKept_20 ?_
    refine x_aload_n C 0 dX9_isAsKept_21 rfl ?_
    refine x_getr (K := 10) (k := 14) (o2 := 58) C (isK_lit hdm rfl rfl) (by decide) cl_X9 (by decide) ⟨rfl, rfl, rfl⟩ fl_X9_42 rfl dX9_isAsKept_22 ?_
    refine x_iload_n C 1 dX9_isAsKept_25 rfl ?_
    refine inb_2 hq (fun hi hq => ?_)
    refine x_iald C (isK_lit hdm rfl rfl) hi dX9_isAsKept_26 ?_
    refine x_icmp_ne (tgt := 51) C dX9_isAsKept_27 (by decide) hq (fun hq => ?_) (fun hq => ?_)
    · exact L_X9_isAsKept_51 C hdm hA hR0 hce hR _ _ hq
    · refine x_aload_n C 0 dX9_isAsKept_30 rfl ?_
      refine x_iload_n C 1 dX9_isAsKept_31 rfl ?_
      refine x_callVi (K := 10) (rm := rmv 0 0 0 0) (As := [iV (x1)]) (rest := []) C hA hR0 mf_X9_bytesOf lk_X9_106 rfl (isK_lit hdm rfl rfl) (by decide) ⟨rfl, rfl⟩ ⟨Nat.le_of_ble_eq_true rfl, Nat.le_of_ble_eq_true rfl⟩ rfl rfl (Nat.le_of_ble_eq_true rfl) hce dX9_isAsKept_32 hq (fun _ _ h => c_X9_bytesOf g.l g.G hdm  h) (fun r2 w1 _ hq => ?_)
      refine x_aload_n C 0 dX9_isAsKept_35 rfl ?_
      refine x_getr (K := 10) (k := 15) (o2 := 59) C (isK_lit hdm rfl rfl) (by decide) cl_X9 (by decide) ⟨rfl, rfl, rfl⟩ fl_X9_45 rfl dX9_isAsKept_36 ?_
      refine x_bipush (v := 13) C dX9_isAsKept_39 (by decide +kernel) ?_
      refine x_iload_n C 1 dX9_isAsKept_41 rfl ?_
      refine x_imul C dX9_isAsKept_42 ?_
      refine inb_2 hq (fun hi hq => ?_)
      refine x_iald C (isK_lit hdm rfl rfl) hi dX9_isAsKept_43 ?_
      refine x_icmp_ne (tgt := 51) C dX9_isAsKept_44 (by decide) hq (fun hq => ?_) (fun hq => ?_)
      · exact L_X9_isAsKept_51 C hdm hA hR0 hce hR _ _ hq
      · refine x_iconst C dX9_isAsKept_47 ?_
        refine x_goto (tgt := 52) C dX9_isAsKept_48 (by decide) ?_
        exact L_X9_isAsKept_52 C hdm hA hR0 hce hR _ _ _ hq
set_option maxRecDepth 100000 in
set_option maxHeartbeats 4000000 in
theorem c_X9_isAsKept (l : Launch) (G : Gd) {dm na : Nat} {ad : Nat → Nat} (hdm : dm = 1) {x1 : Int} {w w' : Wd} {r : Int}  (hq : p_X9_isAsKept x1 w = some (r, w')) : mI l yX9_isAsKept cX9_isAsKept 4 (some .boolean) (rmv 1 22 0 0) G dm na ad [.ref (ad (50)), iV (x1)] w r w' := by
  refine met_I [(0, .ref (ad (50))), (1, iV (x1))] (by decide) (Nat.le_of_ble_eq_true rfl) rfl .boolean rfl (fun g d C S hR => ?_)
  obtain ⟨rfl, hR0, rfl, rfl, rfl, hA⟩ := S
  exact L_X9_isAsKept (d := (na, ad, 0, 0)) C hdm hA hR0 ⟨Nat.zero_le _, Nat.zero_le _⟩ hR  _ w hq
set_option maxRecDepth 100000 in
set_option maxHeartbeats 4000000 in
theorem L_X9_allStay_19 {g : Cx} {d : Dl} (C : CX g cX9_allStay 3 (some .boolean) RX9) (hdm : g.dm = 1) (hA : ∀ q : Nat, g.s.heap.size ≤ q → g.A q) (hR0 : g.R = rmv 9 213 0 0) (hce : d.ce ≤ g.R.cells ∧ d.so ≤ g.R.slots) {res : Int × Wd} (hR : rtI g d cX9_allStay .boolean res) : ∀ (n : Nat) (x1 : Int) (x2 : Int) (w : Wd), p_X9_allStay_19 n x1 x2 w = some res → XG g d (hP g d w) [(0, .ref (d.ad (50))), (1, iV (x1)), (2, iV (x2))] [] 19 := by
  intro n
  induction n with
  | zero => intro x1 x2 w  hq; exact nomatch (show none = some _ from hq)
  | succ n ih =>
    intro x1 x2 w  hq
    refine x_iload_n C 2 dX9_allStay_19 rfl ?_
    refine x_aload_n C 0 dX9_allStay_20 rfl ?_
    refine x_get (K := 10) (k := 16) C (isK_lit hdm rfl rfl) (by decide) cl_X9 (by decide) ⟨rfl, rfl, rfl⟩ fl_X9_182 dX9_allStay_21 ?_
    refine x_icmp_ge (tgt := 43) C dX9_allStay_24 (by decide) hq (fun hq => ?_) (fun hq => ?_)
    · refine x_iload_n C 1 dX9_allStay_43 rfl ?_
      exact hR _ _ _ _ (zr_2 hq) (zr_1 hq) dX9_allStay_44
    · refine x_iload_n C 1 dX9_allStay_27 rfl ?_
      refine x_if_eq (tgt := 43) C dX9_allStay_28 (by decide) hq (fun hq => ?_) (fun hq => ?_)
      · refine x_iload_n C 1 dX9_allStay_43 rfl ?_
        exact hR _ _ _ _ (zr_2 hq) (zr_1 hq) dX9_allStay_44
      · refine x_aload_n C 0 dX9_allStay_31 rfl ?_
        refine x_iload_n C 2 dX9_allStay_32 rfl ?_
        refine x_callVi (K := 10) (rm := rmv 1 22 0 0) (As := [iV (x2)]) (rest := []) C hA hR0 mf_X9_isAsKept lk_X9_185 rfl (isK_lit hdm rfl rfl) (by decide) ⟨rfl, rfl⟩ ⟨Nat.le_of_ble_eq_true rfl, Nat.le_of_ble_eq_true rfl⟩ rfl rfl (Nat.le_of_ble_eq_true rfl) hce dX9_allStay_33 hq (fun _ _ h => c_X9_isAsKept g.l g.G hdm  h) (fun r2 w1 _ hq => ?_)
        refine x_istore_n (lv' := [(1, iV (r2)), (0, .ref (d.ad (50))), (2, iV (x2))]) C dX9_allStay_36 (by decide) rfl ?_
        refine x_iinc (lv' := [(2, iV (x2 + 1)), (1, iV (r2)), (0, .ref (d.ad (50)))]) C 2 dX9_allStay_37 rfl (by decide) rfl ?_
        refine x_goto (tgt := 19) C dX9_allStay_40 (by decide) ?_
        refine XG.sub [2, 1, 0] rfl ?_
        exact ih _ _ _ hq
set_option maxRecDepth 100000 in
set_option maxHeartbeats 4000000 in
theorem L_X9_allStay_16 {g : Cx} {d : Dl} (C : CX g cX9_allStay 3 (some .boolean) RX9) (hdm : g.dm = 1) (hA : ∀ q : Nat, g.s.heap.size ≤ q → g.A q) (hR0 : g.R = rmv 9 213 0 0) (hce : d.ce ≤ g.R.cells ∧ d.so ≤ g.R.slots) {res : Int × Wd} (hR : rtI g d cX9_allStay .boolean res) (s0 : Int) (w : Wd) (hq : p_X9_allStay_16 s0 w = some res) : XG g d (hP g d w) [(0, .ref (d.ad (50)))] [iV (s0)] 16 := by
  refine x_istore_n (lv' := [(1, iV (s0)), (0, .ref (d.ad (50)))]) C dX9_allStay_16 (by decide) rfl ?_
  refine x_iconst C dX9_allStay_17 ?_
  refine x_istore_n (lv' := [(2, iV (0)), (1, iV (s0)), (0, .ref (d.ad (50)))]) C dX9_allStay_18 (by decide) rfl ?_
  refine XG.sub [2, 1, 0] rfl ?_
  exact L_X9_allStay_19 C hdm hA hR0 hce hR _ _ _ _ hq
set_option maxRecDepth 100000 in
set_option maxHeartbeats 4000000 in
theorem L_X9_allStay {g : Cx} {d : Dl} (C : CX g cX9_allStay 3 (some .boolean) RX9) (hdm : g.dm = 1) (hA : ∀ q : Nat, g.s.heap.size ≤ q → g.A q) (hR0 : g.R = rmv 9 213 0 0) (hce : d.ce ≤ g.R.cells ∧ d.so ≤ g.R.slots) {res : Int × Wd} (hR : rtI g d cX9_allStay .boolean res)  (w : Wd) (hq : p_X9_allStay  w = some res) : XG g d (hP g d w) [(0, .ref (d.ad (50)))] [] 0 := by
  refine x_aload_n C 0 dX9_allStay_0 rfl ?_
  refine x_callVi (K := 10) (rm := rmv 8 192 0 0) (As := []) (rest := []) C hA hR0 mf_X9_lay lk_X9_179 rfl (isK_lit hdm rfl rfl) (by decide) ⟨rfl, rfl⟩ ⟨Nat.le_of_ble_eq_true rfl, Nat.le_of_ble_eq_true rfl⟩ rfl rfl (Nat.le_of_ble_eq_true rfl) hce dX9_allStay_1 hq (fun _ _ h => c_X9_lay g.l g.G hdm  h) (fun r2 w1 _ hq => ?_)
  refine x_aload_n C 0 dX9_allStay_4 rfl ?_
  refine x_get (K := 10) (k := 16) C (isK_lit hdm rfl rfl) (by decide) cl_X9 (by decide) ⟨rfl, rfl, rfl⟩ fl_X9_182 dX9_allStay_5 ?_
  refine x_icmp_lt (tgt := 15) C dX9_allStay_8 (by decide) hq (fun hq => ?_) (fun hq => ?_)
  · refine x_iconst C dX9_allStay_15 ?_
    exact L_X9_allStay_16 C hdm hA hR0 hce hR _ _ hq
  · refine x_iconst C dX9_allStay_11 ?_
    refine x_goto (tgt := 16) C dX9_allStay_12 (by decide) ?_
    exact L_X9_allStay_16 C hdm hA hR0 hce hR _ _ hq
set_option maxRecDepth 100000 in
set_option maxHeartbeats 4000000 in
theorem c_X9_allStay (l : Launch) (G : Gd) {dm na : Nat} {ad : Nat → Nat} (hdm : dm = 1)  {w w' : Wd} {r : Int}  (hq : p_X9_allStay  w = some (r, w')) : mI l yX9_allStay cX9_allStay 3 (some .boolean) (rmv 9 213 0 0) G dm na ad [.ref (ad (50))] w r w' := by
  refine met_I [(0, .ref (ad (50)))] (by decide) (Nat.le_of_ble_eq_true rfl) rfl .boolean rfl (fun g d C S hR => ?_)
  obtain ⟨rfl, hR0, rfl, rfl, rfl, hA⟩ := S
  exact L_X9_allStay (d := (na, ad, 0, 0)) C hdm hA hR0 ⟨Nat.zero_le _, Nat.zero_le _⟩ hR   w hq
set_option maxRecDepth 100000 in
set_option maxHeartbeats 4000000 in
theorem L_X9_appendFour_3 {g : Cx} {d : Dl} (C : CX g cX9_appendFour 3 none RX9) (hdm : g.dm = 1) (hA : ∀ q : Nat, g.s.heap.size ≤ q → g.A q) (hR0 : g.R = rmv 0 0 0 0) (hce : d.ce ≤ g.R.cells ∧ d.so ≤ g.R.slots) {res : Wd} (hR : rtV g d cX9_appendFour res) : ∀ (n : Nat) (x1 : Int) (x2 : Int) (w : Wd), p_X9_appendFour_3 n x1 x2 w = some res → XG g d (hP g d w) [(0, .ref (d.ad (50))), (1, iV (x1)), (2, iV (x2))] [] 3 := by
  intro n
  induction n with
  | zero => intro x1 x2 w  hq; exact nomatch (show none = some _ from hq)
  | succ n ih =>
    intro x1 x2 w  hq
    refine x_iload_n C 2 dX9_appendFour_3 rfl ?_
    refine x_if_lt (tgt := 36) C dX9_appendFour_4 (by decide) hq (fun hq => ?_) (fun hq => ?_)
    · exact hR _ _ _ hq dX9_appendFour_36
    · refine x_aload_n C 0 dX9_appendFour_7 rfl ?_
      refine x_getr (K := 10) (k := 17) (o2 := 60) C (isK_lit hdm rfl rfl) (by decide) cl_X9 (by decide) ⟨rfl, rfl, rfl⟩ fl_X9_48 rfl dX9_appendFour_8 ?_
      refine x_aload_n C 0 dX9_appendFour_11 rfl ?_
      refine x_get (K := 10) (k := 18) C (isK_lit hdm rfl rfl) (by decide) cl_X9 (by decide) ⟨rfl, rfl, rfl⟩ fl_X9_188 dX9_appendFour_12 ?_
      refine x_iload_n C 1 dX9_appendFour_15 rfl ?_
      refine x_iload_n C 2 dX9_appendFour_16 rfl ?_
      refine x_ishr C dX9_appendFour_17 ?_
      refine x_i2b C dX9_appendFour_18 ?_
      refine inb_2 hq (fun hi hq => ?_)
      refine x_bast C (isK_lit hdm rfl rfl) hi dX9_appendFour_19 ?_
      refine x_aload_n C 0 dX9_appendFour_20 rfl ?_
      refine x_dup C rfl dX9_appendFour_21 ?_
      refine x_get (K := 10) (k := 18) C (isK_lit hdm rfl rfl) (by decide) cl_X9 (by decide) ⟨rfl, rfl, rfl⟩ fl_X9_188 dX9_appendFour_22 ?_
      refine x_iconst C dX9_appendFour_25 ?_
      refine x_iadd C dX9_appendFour_26 ?_
      refine x_put (K := 10) (k := 18) C (isK_lit hdm rfl rfl) (by decide) cl_X9 (by decide) ⟨rfl, rfl, rfl, rfl⟩ fl_X9_188 ⟨rfl, rfl⟩ dX9_appendFour_27 ?_
      refine nmW hq (fun w1 ew1 hq => ?_)
      rw [← ew1]
      refine x_iinc (lv' := [(2, iV (x2 + (-8))), (0, .ref (d.ad (50))), (1, iV (x1))]) C 2 dX9_appendFour_30 rfl (by decide) rfl ?_
      refine x_goto (tgt := 3) C dX9_appendFour_33 (by decide) ?_
      refine XG.sub [1, 2, 0] rfl ?_
      exact ih _ _ _ hq
set_option maxRecDepth 100000 in
set_option maxHeartbeats 4000000 in
theorem L_X9_appendFour {g : Cx} {d : Dl} (C : CX g cX9_appendFour 3 none RX9) (hdm : g.dm = 1) (hA : ∀ q : Nat, g.s.heap.size ≤ q → g.A q) (hR0 : g.R = rmv 0 0 0 0) (hce : d.ce ≤ g.R.cells ∧ d.so ≤ g.R.slots) {res : Wd} (hR : rtV g d cX9_appendFour res) (x1 : Int) (w : Wd) (hq : p_X9_appendFour x1 w = some res) : XG g d (hP g d w) [(0, .ref (d.ad (50))), (1, iV (x1))] [] 0 := by
  refine x_bipush (v := 24) C dX9_appendFour_0 (by decide +kernel) ?_
  refine x_istore_n (lv' := [(2, iV (24)), (0, .ref (d.ad (50))), (1, iV (x1))]) C dX9_appendFour_2 (by decide) rfl ?_
  refine XG.sub [1, 2, 0] rfl ?_
  exact L_X9_appendFour_3 C hdm hA hR0 hce hR _ _ _ _ hq
set_option maxRecDepth 100000 in
set_option maxHeartbeats 4000000 in
theorem c_X9_appendFour (l : Launch) (G : Gd) {dm na : Nat} {ad : Nat → Nat} (hdm : dm = 1) {x1 : Int} {w w' : Wd}   (hq : p_X9_appendFour x1 w = some w') : mV l yX9_appendFour cX9_appendFour 3 none (rmv 0 0 0 0) G dm na ad [.ref (ad (50)), iV (x1)] w w' := by
  refine met_V [(0, .ref (ad (50))), (1, iV (x1))] (by decide) (Nat.le_of_ble_eq_true rfl) rfl rfl (fun g d C S hR => ?_)
  obtain ⟨rfl, hR0, rfl, rfl, rfl, hA⟩ := S
  exact L_X9_appendFour (d := (na, ad, 0, 0)) C hdm hA hR0 ⟨Nat.zero_le _, Nat.zero_le _⟩ hR  _ w hq
set_option maxRecDepth 100000 in
set_option maxHeartbeats 4000000 in
theorem L_X9_append_19 {g : Cx} {d : Dl} (C : CX g cX9_append 6 (some .int) RX9) (hdm : g.dm = 1) (hA : ∀ q : Nat, g.s.heap.size ≤ q → g.A q) (hR0 : g.R = rmv 2 44 0 0) (hce : d.ce ≤ g.R.cells ∧ d.so ≤ g.R.slots) {res : Int × Wd} (hR : rtI g d cX9_append .int res) (x1 : Int) (x2 : Int) (x3 : Int) (x4 : Int) (x5 : Int) (s0 : Int) (w : Wd) (hq : p_X9_append_19 x1 x2 x3 x4 x5 s0 w = some res) : XG g d (hP g d w) [(0, .ref (d.ad (50))), (1, iV (x1)), (2, iV (x2)), (3, iV (x3)), (4, iV (x4)), (5, iV (x5))] [iV (s0), .ref (d.ad (50))] 19 := by
  refine x_callVi (K := 10) (rm := rmv 1 23 0 0) (As := [iV (s0)]) (rest := []) C hA hR0 mf_X9_passes lk_X9_191 rfl (isK_lit hdm rfl rfl) (by decide) ⟨rfl, rfl⟩ ⟨Nat.le_of_ble_eq_true rfl, Nat.le_of_ble_eq_true rfl⟩ rfl rfl (Nat.le_of_ble_eq_true rfl) hce dX9_append_19 hq (fun _ _ h => c_X9_passes g.l g.G hdm  h) (fun r2 w1 _ hq => ?_)
  refine x_if_ne (tgt := 27) C dX9_append_22 (by decide) hq (fun hq => ?_) (fun hq => ?_)
  · refine x_aload_n C 0 dX9_append_27 rfl ?_
    refine x_iload_n C 1 dX9_append_28 rfl ?_
    refine x_callVv (K := 10) (rm := rmv 0 0 0 0) (As := [iV (x1)]) (rest := []) C hA hR0 mf_X9_appendFour lk_X9_195 rfl (isK_lit hdm rfl rfl) (by decide) ⟨rfl, rfl⟩ ⟨Nat.le_of_ble_eq_true rfl, Nat.le_of_ble_eq_true rfl⟩ rfl rfl (Nat.le_of_ble_eq_true rfl) hce dX9_append_29 hq (fun _ h => c_X9_appendFour g.l g.G hdm  h) (fun w3 _ hq => ?_)
    refine x_aload_n C 0 dX9_append_32 rfl ?_
    refine x_iload_n C 2 dX9_append_33 rfl ?_
    refine x_callVv (K := 10) (rm := rmv 0 0 0 0) (As := [iV (x2)]) (rest := []) C hA hR0 mf_X9_appendFour lk_X9_195 rfl (isK_lit hdm rfl rfl) (by decide) ⟨rfl, rfl⟩ ⟨Nat.le_of_ble_eq_true rfl, Nat.le_of_ble_eq_true rfl⟩ rfl rfl (Nat.le_of_ble_eq_true rfl) hce dX9_append_34 hq (fun _ h => c_X9_appendFour g.l g.G hdm  h) (fun w4 _ hq => ?_)
    refine x_aload_n C 0 dX9_append_37 rfl ?_
    refine x_iload_n C 3 dX9_append_38 rfl ?_
    refine x_callVv (K := 10) (rm := rmv 0 0 0 0) (As := [iV (x3)]) (rest := []) C hA hR0 mf_X9_appendFour lk_X9_195 rfl (isK_lit hdm rfl rfl) (by decide) ⟨rfl, rfl⟩ ⟨Nat.le_of_ble_eq_true rfl, Nat.le_of_ble_eq_true rfl⟩ rfl rfl (Nat.le_of_ble_eq_true rfl) hce dX9_append_39 hq (fun _ h => c_X9_appendFour g.l g.G hdm  h) (fun w5 _ hq => ?_)
    refine x_aload_n C 0 dX9_append_42 rfl ?_
    refine x_iload C 4 dX9_append_43 rfl ?_
    refine x_callVv (K := 10) (rm := rmv 0 0 0 0) (As := [iV (x4)]) (rest := []) C hA hR0 mf_X9_appendFour lk_X9_195 rfl (isK_lit hdm rfl rfl) (by decide) ⟨rfl, rfl⟩ ⟨Nat.le_of_ble_eq_true rfl, Nat.le_of_ble_eq_true rfl⟩ rfl rfl (Nat.le_of_ble_eq_true rfl) hce dX9_append_45 hq (fun _ h => c_X9_appendFour g.l g.G hdm  h) (fun w6 _ hq => ?_)
    refine x_aload_n C 0 dX9_append_48 rfl ?_
    refine x_iload C 5 dX9_append_49 rfl ?_
    refine x_callVv (K := 10) (rm := rmv 0 0 0 0) (As := [iV (x5)]) (rest := []) C hA hR0 mf_X9_appendFour lk_X9_195 rfl (isK_lit hdm rfl rfl) (by decide) ⟨rfl, rfl⟩ ⟨Nat.le_of_ble_eq_true rfl, Nat.le_of_ble_eq_true rfl⟩ rfl rfl (Nat.le_of_ble_eq_true rfl) hce dX9_append_51 hq (fun _ h => c_X9_appendFour g.l g.G hdm  h) (fun w7 _ hq => ?_)
    refine x_aload_n C 0 dX9_append_54 rfl ?_
    refine x_get (K := 10) (k := 18) C (isK_lit hdm rfl rfl) (by decide) cl_X9 (by decide) ⟨rfl, rfl, rfl⟩ fl_X9_188 dX9_append_55 ?_
    exact hR _ _ _ _ hq rfl dX9_append_58
  · refine x_iconst C dX9_append_25 ?_
    exact hR _ _ _ _ hq rfl dX9_append_26
set_option maxRecDepth 100000 in
set_option maxHeartbeats 4000000 in
theorem L_X9_append {g : Cx} {d : Dl} (C : CX g cX9_append 6 (some .int) RX9) (hdm : g.dm = 1) (hA : ∀ q : Nat, g.s.heap.size ≤ q → g.A q) (hR0 : g.R = rmv 2 44 0 0) (hce : d.ce ≤ g.R.cells ∧ d.so ≤ g.R.slots) {res : Int × Wd} (hR : rtI g d cX9_append .int res) (x1 : Int) (x2 : Int) (x3 : Int) (x4 : Int) (x5 : Int) (w : Wd) (hq : p_X9_append x1 x2 x3 x4 x5 w = some res) : XG g d (hP g d w) [(0, .ref (d.ad (50))), (1, iV (x1)), (2, iV (x2)), (3, iV (x3)), (4, iV (x4)), (5, iV (x5))] [] 0 := by
  refine x_aload_n C 0 dX9_append_0 rfl ?_
  refine x_aload_n C 0 dX9_append_1 rfl ?_
  refine x_get (K := 10) (k := 18) C (isK_lit hdm rfl rfl) (by decide) cl_X9 (by decide) ⟨rfl, rfl, rfl⟩ fl_X9_188 dX9_append_2 ?_
  refine x_bipush (v := 20) C dX9_append_5 (by decide +kernel) ?_
  refine x_iadd C dX9_append_7 ?_
  refine x_sipush (v := 500) C dX9_append_8 (by decide +kernel) ?_
  refine x_icmp_gt (tgt := 18) C dX9_append_11 (by decide) hq (fun hq => ?_) (fun hq => ?_)
  · refine x_iconst C dX9_append_18 ?_
    exact L_X9_append_19 C hdm hA hR0 hce hR _ _ _ _ _ _ _ hq
  · refine x_iconst C dX9_append_14 ?_
    refine x_goto (tgt := 19) C dX9_append_15 (by decide) ?_
    exact L_X9_append_19 C hdm hA hR0 hce hR _ _ _ _ _ _ _ hq
set_option maxRecDepth 100000 in
set_option maxHeartbeats 4000000 in
theorem c_X9_append (l : Launch) (G : Gd) {dm na : Nat} {ad : Nat → Nat} (hdm : dm = 1) {x1 : Int} {x2 : Int} {x3 : Int} {x4 : Int} {x5 : Int} {w w' : Wd} {r : Int}  (hq : p_X9_append x1 x2 x3 x4 x5 w = some (r, w')) : mI l yX9_append cX9_append 6 (some .int) (rmv 2 44 0 0) G dm na ad [.ref (ad (50)), iV (x1), iV (x2), iV (x3), iV (x4), iV (x5)] w r w' := by
  refine met_I [(0, .ref (ad (50))), (1, iV (x1)), (2, iV (x2)), (3, iV (x3)), (4, iV (x4)), (5, iV (x5))] (by decide) (Nat.le_of_ble_eq_true rfl) rfl .int rfl (fun g d C S hR => ?_)
  obtain ⟨rfl, hR0, rfl, rfl, rfl, hA⟩ := S
  exact L_X9_append (d := (na, ad, 0, 0)) C hdm hA hR0 ⟨Nat.zero_le _, Nat.zero_le _⟩ hR  _ _ _ _ _ w hq
set_option maxRecDepth 100000 in
set_option maxHeartbeats 4000000 in
theorem L_X9_truncate {g : Cx} {d : Dl} (C : CX g cX9_truncate 2 none RX9) (hdm : g.dm = 1) (hA : ∀ q : Nat, g.s.heap.size ≤ q → g.A q) (hR0 : g.R = rmv 2 44 0 0) (hce : d.ce ≤ g.R.cells ∧ d.so ≤ g.R.slots) {res : Wd} (hR : rtV g d cX9_truncate res) (x1 : Int) (w : Wd) (hq : p_X9_truncate x1 w = some res) : XG g d (hP g d w) [(0, .ref (d.ad (50))), (1, iV (x1))] [] 0 := by
  refine x_aload_n C 0 dX9_truncate_0 rfl ?_
  refine x_iload_n C 1 dX9_truncate_1 rfl ?_
  refine x_i2l C dX9_truncate_2 ?_
  refine x_lconst C dX9_truncate_3 ?_
  refine x_aload_n C 0 dX9_truncate_4 rfl ?_
  refine x_get (K := 10) (k := 18) C (isK_lit hdm rfl rfl) (by decide) cl_X9 (by decide) ⟨rfl, rfl, rfl⟩ fl_X9_188 dX9_truncate_5 ?_
  refine x_i2l C dX9_truncate_8 ?_
  refine x_callSi (rm := rmv 0 0 0 0) (As := [jV (w32 x1), jV (0), jV (w32 (gF w 50 18))]) (rest := [.ref (d.ad (50))]) C hA hR0 mf_X9_in lk_X9_75 ⟨rfl, rfl⟩ ⟨Nat.le_of_ble_eq_true rfl, Nat.le_of_ble_eq_true rfl⟩ rfl rfl (Nat.le_of_ble_eq_true rfl) hce dX9_truncate_9 hq (fun _ _ h => c_X9_in g.l g.G hdm  h) (fun r2 w1 _ hq => ?_)
  refine x_callVi (K := 10) (rm := rmv 1 23 0 0) (As := [iV (r2)]) (rest := []) C hA hR0 mf_X9_passes lk_X9_191 rfl (isK_lit hdm rfl rfl) (by decide) ⟨rfl, rfl⟩ ⟨Nat.le_of_ble_eq_true rfl, Nat.le_of_ble_eq_true rfl⟩ rfl rfl (Nat.le_of_ble_eq_true rfl) hce dX9_truncate_12 hq (fun _ _ h => c_X9_passes g.l g.G hdm  h) (fun r4 w3 _ hq => ?_)
  refine x_if_eq (tgt := 23) C dX9_truncate_15 (by decide) hq (fun hq => ?_) (fun hq => ?_)
  · exact hR _ _ _ hq dX9_truncate_23
  · refine x_aload_n C 0 dX9_truncate_18 rfl ?_
    refine x_iload_n C 1 dX9_truncate_19 rfl ?_
    refine x_put (K := 10) (k := 18) C (isK_lit hdm rfl rfl) (by decide) cl_X9 (by decide) ⟨rfl, rfl, rfl, rfl⟩ fl_X9_188 ⟨rfl, rfl⟩ dX9_truncate_20 ?_
    exact hR _ _ _ hq dX9_truncate_23
set_option maxRecDepth 100000 in
set_option maxHeartbeats 4000000 in
theorem c_X9_truncate (l : Launch) (G : Gd) {dm na : Nat} {ad : Nat → Nat} (hdm : dm = 1) {x1 : Int} {w w' : Wd}   (hq : p_X9_truncate x1 w = some w') : mV l yX9_truncate cX9_truncate 2 none (rmv 2 44 0 0) G dm na ad [.ref (ad (50)), iV (x1)] w w' := by
  refine met_V [(0, .ref (ad (50))), (1, iV (x1))] (by decide) (Nat.le_of_ble_eq_true rfl) rfl rfl (fun g d C S hR => ?_)
  obtain ⟨rfl, hR0, rfl, rfl, rfl, hA⟩ := S
  exact L_X9_truncate (d := (na, ad, 0, 0)) C hdm hA hR0 ⟨Nat.zero_le _, Nat.zero_le _⟩ hR  _ w hq
set_option maxRecDepth 100000 in
set_option maxHeartbeats 4000000 in
theorem L_X9_good {g : Cx} {d : Dl} (C : CX g cX9_good 1 (some .boolean) RX9) (hdm : g.dm = 1) (hA : ∀ q : Nat, g.s.heap.size ≤ q → g.A q) (hR0 : g.R = rmv 0 0 0 0) (hce : d.ce ≤ g.R.cells ∧ d.so ≤ g.R.slots) {res : Int × Wd} (hR : rtI g d cX9_good .boolean res)  (w : Wd) (hq : p_X9_good  w = some res) : XG g d (hP g d w) [(0, .ref (d.ad (50)))] [] 0 := by
  refine x_aload_n C 0 dX9_good_0 rfl ?_
  refine x_get (K := 10) (k := 24) C (isK_lit hdm rfl rfl) (by decide) cl_X9 (by decide) ⟨rfl, rfl, rfl⟩ fl_X9_198 dX9_good_1 ?_
  refine x_if_ne (tgt := 11) C dX9_good_4 (by decide) hq (fun hq => ?_) (fun hq => ?_)
  · refine x_iconst C dX9_good_11 ?_
    exact hR _ _ _ _ hq (by decide +kernel) dX9_good_12
  · refine x_iconst C dX9_good_7 ?_
    refine x_goto (tgt := 12) C dX9_good_8 (by decide) ?_
    exact hR _ _ _ _ hq (by decide +kernel) dX9_good_12
set_option maxRecDepth 100000 in
set_option maxHeartbeats 4000000 in
theorem c_X9_good (l : Launch) (G : Gd) {dm na : Nat} {ad : Nat → Nat} (hdm : dm = 1)  {w w' : Wd} {r : Int}  (hq : p_X9_good  w = some (r, w')) : mI l yX9_good cX9_good 1 (some .boolean) (rmv 0 0 0 0) G dm na ad [.ref (ad (50))] w r w' := by
  refine met_I [(0, .ref (ad (50)))] (by decide) (Nat.le_of_ble_eq_true rfl) rfl .boolean rfl (fun g d C S hR => ?_)
  obtain ⟨rfl, hR0, rfl, rfl, rfl, hA⟩ := S
  exact L_X9_good (d := (na, ad, 0, 0)) C hdm hA hR0 ⟨Nat.zero_le _, Nat.zero_le _⟩ hR   w hq
set_option maxRecDepth 100000 in
set_option maxHeartbeats 4000000 in
theorem L_X9_errs {g : Cx} {d : Dl} (C : CX g cX9_errs 2 none RX9) (hdm : g.dm = 1) (hA : ∀ q : Nat, g.s.heap.size ≤ q → g.A q) (hR0 : g.R = rmv 1 20 0 0) (hce : d.ce ≤ g.R.cells ∧ d.so ≤ g.R.slots) {res : Wd} (hR : rtV g d cX9_errs res) (x1 : Int) (w : Wd) (hq : p_X9_errs x1 w = some res) : XG g d (hP g d w) [(0, .ref (d.ad (50))), (1, iV (x1))] [] 0 := by
  refine x_aload_n C 0 dX9_errs_0 rfl ?_
  refine x_callVi (K := 10) (rm := rmv 0 0 0 0) (As := []) (rest := []) C hA hR0 mf_X9_good lk_X9_201 rfl (isK_lit hdm rfl rfl) (by decide) ⟨rfl, rfl⟩ ⟨Nat.le_of_ble_eq_true rfl, Nat.le_of_ble_eq_true rfl⟩ rfl rfl (Nat.le_of_ble_eq_true rfl) hce dX9_errs_1 hq (fun _ _ h => c_X9_good g.l g.G hdm  h) (fun r2 w1 _ hq => ?_)
  refine x_if_ne (tgt := 8) C dX9_errs_4 (by decide) hq (fun hq => ?_) (fun hq => ?_)
  · refine x_aload_n C 0 dX9_errs_8 rfl ?_
    refine x_iload_n C 1 dX9_errs_9 rfl ?_
    refine x_put (K := 10) (k := 24) C (isK_lit hdm rfl rfl) (by decide) cl_X9 (by decide) ⟨rfl, rfl, rfl, rfl⟩ fl_X9_198 ⟨rfl, rfl⟩ dX9_errs_10 ?_
    refine x_aload_n C 0 dX9_errs_13 rfl ?_
    refine x_aload_n C 0 dX9_errs_14 rfl ?_
    refine x_get (K := 10) (k := 21) C (isK_lit hdm rfl rfl) (by decide) cl_X9 (by decide) ⟨rfl, rfl, rfl⟩ fl_X9_205 dX9_errs_15 ?_
    refine x_put (K := 10) (k := 25) C (isK_lit hdm rfl rfl) (by decide) cl_X9 (by decide) ⟨rfl, rfl, rfl, rfl⟩ fl_X9_52 ⟨rfl, rfl⟩ dX9_errs_18 ?_
    refine nmW hq (fun w3 ew3 hq => ?_)
    rw [← ew3]
    exact hR _ _ _ hq dX9_errs_21
  · exact hR _ _ _ hq dX9_errs_7
set_option maxRecDepth 100000 in
set_option maxHeartbeats 4000000 in
theorem c_X9_errs (l : Launch) (G : Gd) {dm na : Nat} {ad : Nat → Nat} (hdm : dm = 1) {x1 : Int} {w w' : Wd}   (hq : p_X9_errs x1 w = some w') : mV l yX9_errs cX9_errs 2 none (rmv 1 20 0 0) G dm na ad [.ref (ad (50)), iV (x1)] w w' := by
  refine met_V [(0, .ref (ad (50))), (1, iV (x1))] (by decide) (Nat.le_of_ble_eq_true rfl) rfl rfl (fun g d C S hR => ?_)
  obtain ⟨rfl, hR0, rfl, rfl, rfl, hA⟩ := S
  exact L_X9_errs (d := (na, ad, 0, 0)) C hdm hA hR0 ⟨Nat.zero_le _, Nat.zero_le _⟩ hR  _ w hq
set_option maxRecDepth 100000 in
set_option maxHeartbeats 4000000 in
theorem L_X9_byteAt {g : Cx} {d : Dl} (C : CX g cX9_byteAt 2 (some .int) RX9) (hdm : g.dm = 1) (hA : ∀ q : Nat, g.s.heap.size ≤ q → g.A q) (hR0 : g.R = rmv 0 0 0 0) (hce : d.ce ≤ g.R.cells ∧ d.so ≤ g.R.slots) {res : Int × Wd} (hR : rtI g d cX9_byteAt .int res) (x1 : Int) (w : Wd) (hq : p_X9_byteAt x1 w = some res) : XG g d (hP g d w) [(0, .ref (d.ad (50))), (1, iV (x1))] [] 0 := by
  refine x_iload_n C 1 dX9_byteAt_0 rfl ?_
  refine x_aload_n C 0 dX9_byteAt_1 rfl ?_
  refine x_get (K := 10) (k := 19) C (isK_lit hdm rfl rfl) (by decide) cl_X9 (by decide) ⟨rfl, rfl, rfl⟩ fl_X9_208 dX9_byteAt_2 ?_
  refine x_icmp_ge (tgt := 21) C dX9_byteAt_5 (by decide) hq (fun hq => ?_) (fun hq => ?_)
  · refine x_iconst C dX9_byteAt_21 ?_
    exact hR _ _ _ _ hq rfl dX9_byteAt_22
  · refine x_aload_n C 0 dX9_byteAt_8 rfl ?_
    refine x_getr (K := 10) (k := 17) (o2 := 60) C (isK_lit hdm rfl rfl) (by decide) cl_X9 (by decide) ⟨rfl, rfl, rfl⟩ fl_X9_48 rfl dX9_byteAt_9 ?_
    refine x_iload_n C 1 dX9_byteAt_12 rfl ?_
    refine inb_2 hq (fun hi hq => ?_)
    refine x_bald C (isK_lit hdm rfl rfl) hi dX9_byteAt_13 ?_
    refine x_sipush (v := 255) C dX9_byteAt_14 (by decide +kernel) ?_
    refine x_iand C dX9_byteAt_17 ?_
    refine x_goto (tgt := 22) C dX9_byteAt_18 (by decide) ?_
    exact hR _ _ _ _ hq rfl dX9_byteAt_22
set_option maxRecDepth 100000 in
set_option maxHeartbeats 4000000 in
theorem c_X9_byteAt (l : Launch) (G : Gd) {dm na : Nat} {ad : Nat → Nat} (hdm : dm = 1) {x1 : Int} {w w' : Wd} {r : Int}  (hq : p_X9_byteAt x1 w = some (r, w')) : mI l yX9_byteAt cX9_byteAt 2 (some .int) (rmv 0 0 0 0) G dm na ad [.ref (ad (50)), iV (x1)] w r w' := by
  refine met_I [(0, .ref (ad (50))), (1, iV (x1))] (by decide) (Nat.le_of_ble_eq_true rfl) rfl .int rfl (fun g d C S hR => ?_)
  obtain ⟨rfl, hR0, rfl, rfl, rfl, hA⟩ := S
  exact L_X9_byteAt (d := (na, ad, 0, 0)) C hdm hA hR0 ⟨Nat.zero_le _, Nat.zero_le _⟩ hR  _ w hq
set_option maxRecDepth 100000 in
set_option maxHeartbeats 4000000 in
theorem L_X9_scan_26 {g : Cx} {d : Dl} (C : CX g cX9_scan 2 none RX9) (hdm : g.dm = 1) (hA : ∀ q : Nat, g.s.heap.size ≤ q → g.A q) (hR0 : g.R = rmv 1 25 0 0) (hce : d.ce ≤ g.R.cells ∧ d.so ≤ g.R.slots) {res : Wd} (hR : rtV g d cX9_scan res) {k0 : Wd → Option (Wd)} (hk0 : ∀  (w : Wd), k0  w = some res → XG g d (hP g d w) [(0, .ref (d.ad (50)))] [] 0)  (w : Wd) (hq : p_X9_scan_26 k0 w = some res) : XG g d (hP g d w) [(0, .ref (d.ad (50)))] [] 26 := by
  refine x_aload_n C 0 dX9_scan_26 rfl ?_
  refine x_dup C rfl dX9_scan_27 ?_
  refine x_get (K := 10) (k := 20) C (isK_lit hdm rfl rfl) (by decide) cl_X9 (by decide) ⟨rfl, rfl, rfl⟩ fl_X9_211 dX9_scan_28 ?_
  refine x_iconst C dX9_scan_31 ?_
  refine x_iadd C dX9_scan_32 ?_
  refine x_put (K := 10) (k := 20) C (isK_lit hdm rfl rfl) (by decide) cl_X9 (by decide) ⟨rfl, rfl, rfl, rfl⟩ fl_X9_211 ⟨rfl, rfl⟩ dX9_scan_33 ?_
  refine x_goto (tgt := 0) C dX9_scan_36 (by decide) ?_
  exact hk0 _ hq
set_option maxRecDepth 100000 in
set_option maxHeartbeats 4000000 in
theorem L_X9_scan_117 {g : Cx} {d : Dl} (C : CX g cX9_scan 2 none RX9) (hdm : g.dm = 1) (hA : ∀ q : Nat, g.s.heap.size ≤ q → g.A q) (hR0 : g.R = rmv 1 25 0 0) (hce : d.ce ≤ g.R.cells ∧ d.so ≤ g.R.slots) {res : Wd} (hR : rtV g d cX9_scan res)  (w : Wd) (hq : p_X9_scan_117 w = some res) : XG g d (hP g d w) [(0, .ref (d.ad (50)))] [] 117 := by
  refine x_aload_n C 0 dX9_scan_117 rfl ?_
  refine x_iconst C dX9_scan_118 ?_
  refine x_put (K := 10) (k := 22) C (isK_lit hdm rfl rfl) (by decide) cl_X9 (by decide) ⟨rfl, rfl, rfl, rfl⟩ fl_X9_217 ⟨rfl, rfl⟩ dX9_scan_119 ?_
  refine x_goto (tgt := 235) C dX9_scan_122 (by decide) ?_
  exact hR _ _ _ hq dX9_scan_235
set_option maxRecDepth 100000 in
set_option maxHeartbeats 4000000 in
theorem L_X9_scan_83 {g : Cx} {d : Dl} (C : CX g cX9_scan 2 none RX9) (hdm : g.dm = 1) (hA : ∀ q : Nat, g.s.heap.size ≤ q → g.A q) (hR0 : g.R = rmv 1 25 0 0) (hce : d.ce ≤ g.R.cells ∧ d.so ≤ g.R.slots) {res : Wd} (hR : rtV g d cX9_scan res) : ∀ (n : Nat)  (w : Wd), p_X9_scan_83 n w = some res → XG g d (hP g d w) [(0, .ref (d.ad (50)))] [] 83 := by
  intro n
  induction n with
  | zero => intro w  hq; exact nomatch (show none = some _ from hq)
  | succ n ih =>
    intro w  hq
    refine x_aload_n C 0 dX9_scan_83 rfl ?_
    refine x_aload_n C 0 dX9_scan_84 rfl ?_
    refine x_get (K := 10) (k := 20) C (isK_lit hdm rfl rfl) (by decide) cl_X9 (by decide) ⟨rfl, rfl, rfl⟩ fl_X9_211 dX9_scan_85 ?_
    refine x_callVi (K := 10) (rm := rmv 0 0 0 0) (As := [iV (gF w 50 20)]) (rest := []) C hA hR0 mf_X9_byteAt lk_X9_214 rfl (isK_lit hdm rfl rfl) (by decide) ⟨rfl, rfl⟩ ⟨Nat.le_of_ble_eq_true rfl, Nat.le_of_ble_eq_true rfl⟩ rfl rfl (Nat.le_of_ble_eq_true rfl) hce dX9_scan_88 hq (fun _ _ h => c_X9_byteAt g.l g.G hdm  h) (fun r2 w1 _ hq => ?_)
    refine x_i2l C dX9_scan_91 ?_
    refine x_ldc2 (v := 97) C rfl kl_X9_220 dX9_scan_92 ?_
    refine x_ldc2 (v := 122) C rfl kl_X9_222 dX9_scan_95 ?_
    refine x_callSi (rm := rmv 0 0 0 0) (As := [jV (w32 r2), jV (97), jV (122)]) (rest := []) C hA hR0 mf_X9_in lk_X9_75 ⟨rfl, rfl⟩ ⟨Nat.le_of_ble_eq_true rfl, Nat.le_of_ble_eq_true rfl⟩ rfl rfl (Nat.le_of_ble_eq_true rfl) hce dX9_scan_98 hq (fun _ _ h => c_X9_in g.l g.G hdm  h) (fun r4 w3 _ hq => ?_)
    refine x_if_eq (tgt := 117) C dX9_scan_101 (by decide) hq (fun hq => ?_) (fun hq => ?_)
    · exact L_X9_scan_117 C hdm hA hR0 hce hR _ hq
    · refine x_aload_n C 0 dX9_scan_104 rfl ?_
      refine x_dup C rfl dX9_scan_105 ?_
      refine x_get (K := 10) (k := 20) C (isK_lit hdm rfl rfl) (by decide) cl_X9 (by decide) ⟨rfl, rfl, rfl⟩ fl_X9_211 dX9_scan_106 ?_
      refine x_iconst C dX9_scan_109 ?_
      refine x_iadd C dX9_scan_110 ?_
      refine x_put (K := 10) (k := 20) C (isK_lit hdm rfl rfl) (by decide) cl_X9 (by decide) ⟨rfl, rfl, rfl, rfl⟩ fl_X9_211 ⟨rfl, rfl⟩ dX9_scan_111 ?_
      refine x_goto (tgt := 83) C dX9_scan_114 (by decide) ?_
      exact ih _ hq
set_option maxRecDepth 100000 in
set_option maxHeartbeats 4000000 in
theorem L_X9_scan_207 {g : Cx} {d : Dl} (C : CX g cX9_scan 2 none RX9) (hdm : g.dm = 1) (hA : ∀ q : Nat, g.s.heap.size ≤ q → g.A q) (hR0 : g.R = rmv 1 25 0 0) (hce : d.ce ≤ g.R.cells ∧ d.so ≤ g.R.slots) {res : Wd} (hR : rtV g d cX9_scan res)  (w : Wd) (hq : p_X9_scan_207 w = some res) : XG g d (hP g d w) [(0, .ref (d.ad (50)))] [] 207 := by
  refine x_aload_n C 0 dX9_scan_207 rfl ?_
  refine x_iconst C dX9_scan_208 ?_
  refine x_put (K := 10) (k := 22) C (isK_lit hdm rfl rfl) (by decide) cl_X9 (by decide) ⟨rfl, rfl, rfl, rfl⟩ fl_X9_217 ⟨rfl, rfl⟩ dX9_scan_209 ?_
  refine x_goto (tgt := 235) C dX9_scan_212 (by decide) ?_
  exact hR _ _ _ hq dX9_scan_235
set_option maxRecDepth 100000 in
set_option maxHeartbeats 4000000 in
theorem L_X9_scan_144 {g : Cx} {d : Dl} (C : CX g cX9_scan 2 none RX9) (hdm : g.dm = 1) (hA : ∀ q : Nat, g.s.heap.size ≤ q → g.A q) (hR0 : g.R = rmv 1 25 0 0) (hce : d.ce ≤ g.R.cells ∧ d.so ≤ g.R.slots) {res : Wd} (hR : rtV g d cX9_scan res) : ∀ (n : Nat)  (w : Wd), p_X9_scan_144 n w = some res → XG g d (hP g d w) [(0, .ref (d.ad (50)))] [] 144 := by
  intro n
  induction n with
  | zero => intro w  hq; exact nomatch (show none = some _ from hq)
  | succ n ih =>
    intro w  hq
    refine x_aload_n C 0 dX9_scan_144 rfl ?_
    refine x_aload_n C 0 dX9_scan_145 rfl ?_
    refine x_get (K := 10) (k := 20) C (isK_lit hdm rfl rfl) (by decide) cl_X9 (by decide) ⟨rfl, rfl, rfl⟩ fl_X9_211 dX9_scan_146 ?_
    refine x_callVi (K := 10) (rm := rmv 0 0 0 0) (As := [iV (gF w 50 20)]) (rest := []) C hA hR0 mf_X9_byteAt lk_X9_214 rfl (isK_lit hdm rfl rfl) (by decide) ⟨rfl, rfl⟩ ⟨Nat.le_of_ble_eq_true rfl, Nat.le_of_ble_eq_true rfl⟩ rfl rfl (Nat.le_of_ble_eq_true rfl) hce dX9_scan_149 hq (fun _ _ h => c_X9_byteAt g.l g.G hdm  h) (fun r2 w1 _ hq => ?_)
    refine x_i2l C dX9_scan_152 ?_
    refine x_ldc2 (v := 48) C rfl kl_X9_224 dX9_scan_153 ?_
    refine x_ldc2 (v := 57) C rfl kl_X9_226 dX9_scan_156 ?_
    refine x_callSi (rm := rmv 0 0 0 0) (As := [jV (w32 r2), jV (48), jV (57)]) (rest := []) C hA hR0 mf_X9_in lk_X9_75 ⟨rfl, rfl⟩ ⟨Nat.le_of_ble_eq_true rfl, Nat.le_of_ble_eq_true rfl⟩ rfl rfl (Nat.le_of_ble_eq_true rfl) hce dX9_scan_159 hq (fun _ _ h => c_X9_in g.l g.G hdm  h) (fun r4 w3 _ hq => ?_)
    refine x_if_eq (tgt := 207) C dX9_scan_162 (by decide) hq (fun hq => ?_) (fun hq => ?_)
    · exact L_X9_scan_207 C hdm hA hR0 hce hR _ hq
    · refine x_aload_n C 0 dX9_scan_165 rfl ?_
      refine x_sipush (v := 9999) C dX9_scan_166 (by decide +kernel) ?_
      refine x_bipush (v := 10) C dX9_scan_169 (by decide +kernel) ?_
      refine x_aload_n C 0 dX9_scan_171 rfl ?_
      refine x_get (K := 10) (k := 23) C (isK_lit hdm rfl rfl) (by decide) cl_X9 (by decide) ⟨rfl, rfl, rfl⟩ fl_X9_228 dX9_scan_172 ?_
      refine x_imul C dX9_scan_175 ?_
      refine x_aload_n C 0 dX9_scan_176 rfl ?_
      refine x_aload_n C 0 dX9_scan_177 rfl ?_
      refine x_get (K := 10) (k := 20) C (isK_lit hdm rfl rfl) (by decide) cl_X9 (by decide) ⟨rfl, rfl, rfl⟩ fl_X9_211 dX9_scan_178 ?_
      refine x_callVi (K := 10) (rm := rmv 0 0 0 0) (As := [iV (gF w3 50 20)]) (rest := [iV (10 * (gF w3 50 23)), iV (9999), .ref (d.ad (50))]) C hA hR0 mf_X9_byteAt lk_X9_214 rfl (isK_lit hdm rfl rfl) (by decide) ⟨rfl, rfl⟩ ⟨Nat.le_of_ble_eq_true rfl, Nat.le_of_ble_eq_true rfl⟩ rfl rfl (Nat.le_of_ble_eq_true rfl) hce dX9_scan_181 hq (fun _ _ h => c_X9_byteAt g.l g.G hdm  h) (fun r6 w5 _ hq => ?_)
      refine x_iadd C dX9_scan_184 ?_
      refine x_bipush (v := 48) C dX9_scan_185 (by decide +kernel) ?_
      refine x_isub C dX9_scan_187 ?_
      refine x_min C hR0 lk_X9_231 jm_min_s jm_i jm_min_c ⟨Nat.le_of_ble_eq_true rfl, Nat.le_of_ble_eq_true rfl⟩ hce dX9_scan_188 ?_
      refine x_put (K := 10) (k := 23) C (isK_lit hdm rfl rfl) (by decide) cl_X9 (by decide) ⟨rfl, rfl, rfl, rfl⟩ fl_X9_228 ⟨rfl, rfl⟩ dX9_scan_191 ?_
      refine x_aload_n C 0 dX9_scan_194 rfl ?_
      refine x_dup C rfl dX9_scan_195 ?_
      refine x_get (K := 10) (k := 20) C (isK_lit hdm rfl rfl) (by decide) cl_X9 (by decide) ⟨rfl, rfl, rfl⟩ fl_X9_211 dX9_scan_196 ?_
      refine x_iconst C dX9_scan_199 ?_
      refine x_iadd C dX9_scan_200 ?_
      refine x_put (K := 10) (k := 20) C (isK_lit hdm rfl rfl) (by decide) cl_X9 (by decide) ⟨rfl, rfl, rfl, rfl⟩ fl_X9_211 ⟨rfl, rfl⟩ dX9_scan_201 ?_
      refine nmW hq (fun w7 ew7 hq => ?_)
      rw [← ew7]
      refine x_goto (tgt := 144) C dX9_scan_204 (by decide) ?_
      exact ih _ hq
set_option maxRecDepth 100000 in
set_option maxHeartbeats 4000000 in
theorem L_X9_scan_39 {g : Cx} {d : Dl} (C : CX g cX9_scan 2 none RX9) (hdm : g.dm = 1) (hA : ∀ q : Nat, g.s.heap.size ≤ q → g.A q) (hR0 : g.R = rmv 1 25 0 0) (hce : d.ce ≤ g.R.cells ∧ d.so ≤ g.R.slots) {res : Wd} (hR : rtV g d cX9_scan res)  (w : Wd) (hq : p_X9_scan_39 w = some res) : XG g d (hP g d w) [(0, .ref (d.ad (50)))] [] 39 := by
  refine x_aload_n C 0 dX9_scan_39 rfl ?_
  refine x_aload_n C 0 dX9_scan_40 rfl ?_
  refine x_get (K := 10) (k := 20) C (isK_lit hdm rfl rfl) (by decide) cl_X9 (by decide) ⟨rfl, rfl, rfl⟩ fl_X9_211 dX9_scan_41 ?_
  refine x_put (K := 10) (k := 21) C (isK_lit hdm rfl rfl) (by decide) cl_X9 (by decide) ⟨rfl, rfl, rfl, rfl⟩ fl_X9_205 ⟨rfl, rfl⟩ dX9_scan_44 ?_
  refine x_aload_n C 0 dX9_scan_47 rfl ?_
  refine x_aload_n C 0 dX9_scan_48 rfl ?_
  refine x_get (K := 10) (k := 20) C (isK_lit hdm rfl rfl) (by decide) cl_X9 (by decide) ⟨rfl, rfl, rfl⟩ fl_X9_211 dX9_scan_49 ?_
  refine x_callVi (K := 10) (rm := rmv 0 0 0 0) (As := [iV (gF (sF w 50 21 (gF w 50 20)) 50 20)]) (rest := []) C hA hR0 mf_X9_byteAt lk_X9_214 rfl (isK_lit hdm rfl rfl) (by decide) ⟨rfl, rfl⟩ ⟨Nat.le_of_ble_eq_true rfl, Nat.le_of_ble_eq_true rfl⟩ rfl rfl (Nat.le_of_ble_eq_true rfl) hce dX9_scan_52 hq (fun _ _ h => c_X9_byteAt g.l g.G hdm  h) (fun r2 w1 _ hq => ?_)
  refine x_istore_n (lv' := [(1, iV (r2)), (0, .ref (d.ad (50)))]) C dX9_scan_55 (by decide) rfl ?_
  refine x_iload_n C 0 dX9_scan_56 rfl ?_
  refine x_iconst C dX9_scan_57 ?_
  refine x_icmp_ne (tgt := 69) C dX9_scan_58 (by decide) hq (fun hq => ?_) (fun hq => ?_)
  · refine x_iload_n C 0 dX9_scan_69 rfl ?_
    refine x_i2l C dX9_scan_70 ?_
    refine x_ldc2 (v := 97) C rfl kl_X9_220 dX9_scan_71 ?_
    refine x_ldc2 (v := 122) C rfl kl_X9_222 dX9_scan_74 ?_
    refine x_callSi (rm := rmv 0 0 0 0) (As := [jV (w32 r2), jV (97), jV (122)]) (rest := []) C hA hR0 mf_X9_in lk_X9_75 ⟨rfl, rfl⟩ ⟨Nat.le_of_ble_eq_true rfl, Nat.le_of_ble_eq_true rfl⟩ rfl rfl (Nat.le_of_ble_eq_true rfl) hce dX9_scan_77 hq (fun _ _ h => c_X9_in g.l g.G hdm  h) (fun r4 w3 _ hq => ?_)
    refine x_if_eq (tgt := 125) C dX9_scan_80 (by decide) hq (fun hq => ?_) (fun hq => ?_)
    · refine x_iload_n C 0 dX9_scan_125 rfl ?_
      refine x_i2l C dX9_scan_126 ?_
      refine x_ldc2 (v := 48) C rfl kl_X9_224 dX9_scan_127 ?_
      refine x_ldc2 (v := 57) C rfl kl_X9_226 dX9_scan_130 ?_
      refine x_callSi (rm := rmv 0 0 0 0) (As := [jV (w32 r2), jV (48), jV (57)]) (rest := []) C hA hR0 mf_X9_in lk_X9_75 ⟨rfl, rfl⟩ ⟨Nat.le_of_ble_eq_true rfl, Nat.le_of_ble_eq_true rfl⟩ rfl rfl (Nat.le_of_ble_eq_true rfl) hce dX9_scan_133 hq (fun _ _ h => c_X9_in g.l g.G hdm  h) (fun r6 w5 _ hq => ?_)
      refine x_if_eq (tgt := 215) C dX9_scan_136 (by decide) hq (fun hq => ?_) (fun hq => ?_)
      · refine x_aload_n C 1 dX9_scan_215 rfl ?_
        refine x_iconst C dX9_scan_216 ?_
        refine x_put (K := 10) (k := 22) C (isK_lit hdm rfl rfl) (by decide) cl_X9 (by decide) ⟨rfl, rfl, rfl, rfl⟩ fl_X9_217 ⟨rfl, rfl⟩ dX9_scan_217 ?_
        refine x_aload_n C 1 dX9_scan_220 rfl ?_
        refine x_iload_n C 0 dX9_scan_221 rfl ?_
        refine x_put (K := 10) (k := 23) C (isK_lit hdm rfl rfl) (by decide) cl_X9 (by decide) ⟨rfl, rfl, rfl, rfl⟩ fl_X9_228 ⟨rfl, rfl⟩ dX9_scan_222 ?_
        refine nmW hq (fun w7 ew7 hq => ?_)
        rw [← ew7]
        refine x_aload_n C 1 dX9_scan_225 rfl ?_
        refine x_dup C rfl dX9_scan_226 ?_
        refine x_get (K := 10) (k := 20) C (isK_lit hdm rfl rfl) (by decide) cl_X9 (by decide) ⟨rfl, rfl, rfl⟩ fl_X9_211 dX9_scan_227 ?_
        refine x_iconst C dX9_scan_230 ?_
        refine x_iadd C dX9_scan_231 ?_
        refine x_put (K := 10) (k := 20) C (isK_lit hdm rfl rfl) (by decide) cl_X9 (by decide) ⟨rfl, rfl, rfl, rfl⟩ fl_X9_211 ⟨rfl, rfl⟩ dX9_scan_232 ?_
        exact hR _ _ _ hq dX9_scan_235
      · refine x_aload_n C 1 dX9_scan_139 rfl ?_
        refine x_iconst C dX9_scan_140 ?_
        refine x_put (K := 10) (k := 23) C (isK_lit hdm rfl rfl) (by decide) cl_X9 (by decide) ⟨rfl, rfl, rfl, rfl⟩ fl_X9_228 ⟨rfl, rfl⟩ dX9_scan_141 ?_
        refine XG.sub [1] rfl ?_
        exact L_X9_scan_144 C hdm hA hR0 hce hR _ _ hq
    · refine XG.sub [1] rfl ?_
      exact L_X9_scan_83 C hdm hA hR0 hce hR _ _ hq
  · refine x_aload_n C 1 dX9_scan_61 rfl ?_
    refine x_iconst C dX9_scan_62 ?_
    refine x_put (K := 10) (k := 22) C (isK_lit hdm rfl rfl) (by decide) cl_X9 (by decide) ⟨rfl, rfl, rfl, rfl⟩ fl_X9_217 ⟨rfl, rfl⟩ dX9_scan_63 ?_
    refine x_goto (tgt := 235) C dX9_scan_66 (by decide) ?_
    exact hR _ _ _ hq dX9_scan_235
set_option maxRecDepth 100000 in
set_option maxHeartbeats 4000000 in
theorem L_X9_scan_0 {g : Cx} {d : Dl} (C : CX g cX9_scan 2 none RX9) (hdm : g.dm = 1) (hA : ∀ q : Nat, g.s.heap.size ≤ q → g.A q) (hR0 : g.R = rmv 1 25 0 0) (hce : d.ce ≤ g.R.cells ∧ d.so ≤ g.R.slots) {res : Wd} (hR : rtV g d cX9_scan res) : ∀ (n : Nat)  (w : Wd), p_X9_scan_0 n w = some res → XG g d (hP g d w) [(0, .ref (d.ad (50)))] [] 0 := by
  intro n
  induction n with
  | zero => intro w  hq; exact nomatch (show none = some _ from hq)
  | succ n ih =>
    intro w  hq
    refine x_aload_n C 0 dX9_scan_0 rfl ?_
    refine x_aload_n C 0 dX9_scan_1 rfl ?_
    refine x_get (K := 10) (k := 20) C (isK_lit hdm rfl rfl) (by decide) cl_X9 (by decide) ⟨rfl, rfl, rfl⟩ fl_X9_211 dX9_scan_2 ?_
    refine x_callVi (K := 10) (rm := rmv 0 0 0 0) (As := [iV (gF w 50 20)]) (rest := []) C hA hR0 mf_X9_byteAt lk_X9_214 rfl (isK_lit hdm rfl rfl) (by decide) ⟨rfl, rfl⟩ ⟨Nat.le_of_ble_eq_true rfl, Nat.le_of_ble_eq_true rfl⟩ rfl rfl (Nat.le_of_ble_eq_true rfl) hce dX9_scan_5 hq (fun _ _ h => c_X9_byteAt g.l g.G hdm  h) (fun r2 w1 _ hq => ?_)
    refine x_bipush (v := 32) C dX9_scan_8 (by decide +kernel) ?_
    refine x_icmp_eq (tgt := 26) C dX9_scan_10 (by decide) hq (fun hq => ?_) (fun hq => ?_)
    · exact L_X9_scan_26 C hdm hA hR0 hce hR ih _ hq
    · refine x_aload_n C 0 dX9_scan_13 rfl ?_
      refine x_aload_n C 0 dX9_scan_14 rfl ?_
      refine x_get (K := 10) (k := 20) C (isK_lit hdm rfl rfl) (by decide) cl_X9 (by decide) ⟨rfl, rfl, rfl⟩ fl_X9_211 dX9_scan_15 ?_
      refine x_callVi (K := 10) (rm := rmv 0 0 0 0) (As := [iV (gF w1 50 20)]) (rest := []) C hA hR0 mf_X9_byteAt lk_X9_214 rfl (isK_lit hdm rfl rfl) (by decide) ⟨rfl, rfl⟩ ⟨Nat.le_of_ble_eq_true rfl, Nat.le_of_ble_eq_true rfl⟩ rfl rfl (Nat.le_of_ble_eq_true rfl) hce dX9_scan_18 hq (fun _ _ h => c_X9_byteAt g.l g.G hdm  h) (fun r4 w3 _ hq => ?_)
      refine x_bipush (v := 10) C dX9_scan_21 (by decide +kernel) ?_
      refine x_icmp_ne (tgt := 39) C dX9_scan_23 (by decide) hq (fun hq => ?_) (fun hq => ?_)
      · exact L_X9_scan_39 C hdm hA hR0 hce hR _ hq
      · exact L_X9_scan_26 C hdm hA hR0 hce hR ih _ hq
set_option maxRecDepth 100000 in
set_option maxHeartbeats 4000000 in
theorem L_X9_scan {g : Cx} {d : Dl} (C : CX g cX9_scan 2 none RX9) (hdm : g.dm = 1) (hA : ∀ q : Nat, g.s.heap.size ≤ q → g.A q) (hR0 : g.R = rmv 1 25 0 0) (hce : d.ce ≤ g.R.cells ∧ d.so ≤ g.R.slots) {res : Wd} (hR : rtV g d cX9_scan res)  (w : Wd) (hq : p_X9_scan  w = some res) : XG g d (hP g d w) [(0, .ref (d.ad (50)))] [] 0 := by
  exact L_X9_scan_0 C hdm hA hR0 hce hR _ _ hq
set_option maxRecDepth 100000 in
set_option maxHeartbeats 4000000 in
theorem c_X9_scan (l : Launch) (G : Gd) {dm na : Nat} {ad : Nat → Nat} (hdm : dm = 1)  {w w' : Wd}   (hq : p_X9_scan  w = some w') : mV l yX9_scan cX9_scan 2 none (rmv 1 25 0 0) G dm na ad [.ref (ad (50))] w w' := by
  refine met_V [(0, .ref (ad (50)))] (by decide) (Nat.le_of_ble_eq_true rfl) rfl rfl (fun g d C S hR => ?_)
  obtain ⟨rfl, hR0, rfl, rfl, rfl, hA⟩ := S
  exact L_X9_scan (d := (na, ad, 0, 0)) C hdm hA hR0 ⟨Nat.zero_le _, Nat.zero_le _⟩ hR   w hq
set_option maxRecDepth 100000 in
set_option maxHeartbeats 4000000 in
theorem L_X9_goOn {g : Cx} {d : Dl} (C : CX g cX9_goOn 1 none RX9) (hdm : g.dm = 1) (hA : ∀ q : Nat, g.s.heap.size ≤ q → g.A q) (hR0 : g.R = rmv 2 46 0 0) (hce : d.ce ≤ g.R.cells ∧ d.so ≤ g.R.slots) {res : Wd} (hR : rtV g d cX9_goOn res)  (w : Wd) (hq : p_X9_goOn  w = some res) : XG g d (hP g d w) [(0, .ref (d.ad (50)))] [] 0 := by
  refine x_aload_n C 0 dX9_goOn_0 rfl ?_
  refine x_callVi (K := 10) (rm := rmv 0 0 0 0) (As := []) (rest := []) C hA hR0 mf_X9_good lk_X9_201 rfl (isK_lit hdm rfl rfl) (by decide) ⟨rfl, rfl⟩ ⟨Nat.le_of_ble_eq_true rfl, Nat.le_of_ble_eq_true rfl⟩ rfl rfl (Nat.le_of_ble_eq_true rfl) hce dX9_goOn_1 hq (fun _ _ h => c_X9_good g.l g.G hdm  h) (fun r2 w1 _ hq => ?_)
  refine x_if_eq (tgt := 11) C dX9_goOn_4 (by decide) hq (fun hq => ?_) (fun hq => ?_)
  · exact hR _ _ _ hq dX9_goOn_11
  · refine x_aload_n C 0 dX9_goOn_7 rfl ?_
    refine x_callVv (K := 10) (rm := rmv 1 25 0 0) (As := []) (rest := []) C hA hR0 mf_X9_scan lk_X9_234 rfl (isK_lit hdm rfl rfl) (by decide) ⟨rfl, rfl⟩ ⟨Nat.le_of_ble_eq_true rfl, Nat.le_of_ble_eq_true rfl⟩ rfl rfl (Nat.le_of_ble_eq_true rfl) hce dX9_goOn_8 hq (fun _ h => c_X9_scan g.l g.G hdm  h) (fun w3 _ hq => ?_)
    exact hR _ _ _ hq dX9_goOn_11
set_option maxRecDepth 100000 in
set_option maxHeartbeats 4000000 in
theorem c_X9_goOn (l : Launch) (G : Gd) {dm na : Nat} {ad : Nat → Nat} (hdm : dm = 1)  {w w' : Wd}   (hq : p_X9_goOn  w = some w') : mV l yX9_goOn cX9_goOn 1 none (rmv 2 46 0 0) G dm na ad [.ref (ad (50))] w w' := by
  refine met_V [(0, .ref (ad (50)))] (by decide) (Nat.le_of_ble_eq_true rfl) rfl rfl (fun g d C S hR => ?_)
  obtain ⟨rfl, hR0, rfl, rfl, rfl, hA⟩ := S
  exact L_X9_goOn (d := (na, ad, 0, 0)) C hdm hA hR0 ⟨Nat.zero_le _, Nat.zero_le _⟩ hR   w hq
set_option maxRecDepth 100000 in
set_option maxHeartbeats 4000000 in
theorem L_X9_numberHere_47 {g : Cx} {d : Dl} (C : CX g cX9_numberHere 3 (some .int) RX9) (hdm : g.dm = 1) (hA : ∀ q : Nat, g.s.heap.size ≤ q → g.A q) (hR0 : g.R = rmv 2 41 0 0) (hce : d.ce ≤ g.R.cells ∧ d.so ≤ g.R.slots) {res : Int × Wd} (hR : rtI g d cX9_numberHere .int res) (x1 : Int) (w : Wd) (hq : p_X9_numberHere_47 x1 w = some res) : XG g d (hP g d w) [(0, .ref (d.ad (50))), (1, iV (x1))] [] 47 := by
  refine x_aload_n C 0 dX9_numberHere_47 rfl ?_
  refine x_callVi (K := 10) (rm := rmv 0 0 0 0) (As := []) (rest := []) C hA hR0 mf_X9_good lk_X9_201 rfl (isK_lit hdm rfl rfl) (by decide) ⟨rfl, rfl⟩ ⟨Nat.le_of_ble_eq_true rfl, Nat.le_of_ble_eq_true rfl⟩ rfl rfl (Nat.le_of_ble_eq_true rfl) hce dX9_numberHere_48 hq (fun _ _ h => c_X9_good g.l g.G hdm  h) (fun r2 w1 _ hq => ?_)
  refine x_if_eq (tgt := 61) C dX9_numberHere_51 (by decide) hq (fun hq => ?_) (fun hq => ?_)
  · refine x_iload_n C 1 dX9_numberHere_61 rfl ?_
    exact hR _ _ _ _ hq rfl dX9_numberHere_62
  · refine x_aload_n C 0 dX9_numberHere_54 rfl ?_
    refine x_get (K := 10) (k := 23) C (isK_lit hdm rfl rfl) (by decide) cl_X9 (by decide) ⟨rfl, rfl, rfl⟩ fl_X9_228 dX9_numberHere_55 ?_
    refine x_goto (tgt := 62) C dX9_numberHere_58 (by decide) ?_
    exact hR _ _ _ _ hq rfl dX9_numberHere_62
set_option maxRecDepth 100000 in
set_option maxHeartbeats 4000000 in
theorem L_X9_numberHere_20 {g : Cx} {d : Dl} (C : CX g cX9_numberHere 3 (some .int) RX9) (hdm : g.dm = 1) (hA : ∀ q : Nat, g.s.heap.size ≤ q → g.A q) (hR0 : g.R = rmv 2 41 0 0) (hce : d.ce ≤ g.R.cells ∧ d.so ≤ g.R.slots) {res : Int × Wd} (hR : rtI g d cX9_numberHere .int res) (x1 : Int) (x2 : Int) (w : Wd) (hq : p_X9_numberHere_20 x1 x2 w = some res) : XG g d (hP g d w) [(0, .ref (d.ad (50))), (1, iV (x1)), (2, iV (x2))] [] 20 := by
  refine x_aload_n C 0 dX9_numberHere_20 rfl ?_
  refine x_callVi (K := 10) (rm := rmv 0 0 0 0) (As := []) (rest := []) C hA hR0 mf_X9_good lk_X9_201 rfl (isK_lit hdm rfl rfl) (by decide) ⟨rfl, rfl⟩ ⟨Nat.le_of_ble_eq_true rfl, Nat.le_of_ble_eq_true rfl⟩ rfl rfl (Nat.le_of_ble_eq_true rfl) hce dX9_numberHere_21 hq (fun _ _ h => c_X9_good g.l g.G hdm  h) (fun r2 w1 _ hq => ?_)
  refine x_if_eq (tgt := 47) C dX9_numberHere_24 (by decide) hq (fun hq => ?_) (fun hq => ?_)
  · refine XG.sub [0, 1] rfl ?_
    exact L_X9_numberHere_47 C hdm hA hR0 hce hR _ _ hq
  · refine x_aload_n C 0 dX9_numberHere_27 rfl ?_
    refine x_get (K := 10) (k := 23) C (isK_lit hdm rfl rfl) (by decide) cl_X9 (by decide) ⟨rfl, rfl, rfl⟩ fl_X9_228 dX9_numberHere_28 ?_
    refine x_i2l C dX9_numberHere_31 ?_
    refine x_iload_n C 1 dX9_numberHere_32 rfl ?_
    refine x_i2l C dX9_numberHere_33 ?_
    refine x_iload_n C 2 dX9_numberHere_34 rfl ?_
    refine x_i2l C dX9_numberHere_35 ?_
    refine x_callSi (rm := rmv 0 0 0 0) (As := [jV (w32 (gF w1 50 23)), jV (w32 x1), jV (w32 x2)]) (rest := []) C hA hR0 mf_X9_in lk_X9_75 ⟨rfl, rfl⟩ ⟨Nat.le_of_ble_eq_true rfl, Nat.le_of_ble_eq_true rfl⟩ rfl rfl (Nat.le_of_ble_eq_true rfl) hce dX9_numberHere_36 hq (fun _ _ h => c_X9_in g.l g.G hdm  h) (fun r4 w3 _ hq => ?_)
    refine x_if_ne (tgt := 47) C dX9_numberHere_39 (by decide) hq (fun hq => ?_) (fun hq => ?_)
    · refine XG.sub [0, 1] rfl ?_
      exact L_X9_numberHere_47 C hdm hA hR0 hce hR _ _ hq
    · refine x_aload_n C 0 dX9_numberHere_42 rfl ?_
      refine x_iconst C dX9_numberHere_43 ?_
      refine x_callVv (K := 10) (rm := rmv 1 20 0 0) (As := [iV (2)]) (rest := []) C hA hR0 mf_X9_errs lk_X9_246 rfl (isK_lit hdm rfl rfl) (by decide) ⟨rfl, rfl⟩ ⟨Nat.le_of_ble_eq_true rfl, Nat.le_of_ble_eq_true rfl⟩ rfl rfl (Nat.le_of_ble_eq_true rfl) hce dX9_numberHere_44 hq (fun _ h => c_X9_errs g.l g.G hdm  h) (fun w5 _ hq => ?_)
      refine XG.sub [0, 1] rfl ?_
      exact L_X9_numberHere_47 C hdm hA hR0 hce hR _ _ hq
set_option maxRecDepth 100000 in
set_option maxHeartbeats 4000000 in
theorem L_X9_numberHere {g : Cx} {d : Dl} (C : CX g cX9_numberHere 3 (some .int) RX9) (hdm : g.dm = 1) (hA : ∀ q : Nat, g.s.heap.size ≤ q → g.A q) (hR0 : g.R = rmv 2 41 0 0) (hce : d.ce ≤ g.R.cells ∧ d.so ≤ g.R.slots) {res : Int × Wd} (hR : rtI g d cX9_numberHere .int res) (x1 : Int) (x2 : Int) (w : Wd) (hq : p_X9_numberHere x1 x2 w = some res) : XG g d (hP g d w) [(0, .ref (d.ad (50))), (1, iV (x1)), (2, iV (x2))] [] 0 := by
  refine x_aload_n C 0 dX9_numberHere_0 rfl ?_
  refine x_callVi (K := 10) (rm := rmv 0 0 0 0) (As := []) (rest := []) C hA hR0 mf_X9_good lk_X9_201 rfl (isK_lit hdm rfl rfl) (by decide) ⟨rfl, rfl⟩ ⟨Nat.le_of_ble_eq_true rfl, Nat.le_of_ble_eq_true rfl⟩ rfl rfl (Nat.le_of_ble_eq_true rfl) hce dX9_numberHere_1 hq (fun _ _ h => c_X9_good g.l g.G hdm  h) (fun r2 w1 _ hq => ?_)
  refine x_if_eq (tgt := 20) C dX9_numberHere_4 (by decide) hq (fun hq => ?_) (fun hq => ?_)
  · exact L_X9_numberHere_20 C hdm hA hR0 hce hR _ _ _ hq
  · refine x_aload_n C 0 dX9_numberHere_7 rfl ?_
    refine x_get (K := 10) (k := 22) C (isK_lit hdm rfl rfl) (by decide) cl_X9 (by decide) ⟨rfl, rfl, rfl⟩ fl_X9_217 dX9_numberHere_8 ?_
    refine x_iconst C dX9_numberHere_11 ?_
    refine x_icmp_eq (tgt := 20) C dX9_numberHere_12 (by decide) hq (fun hq => ?_) (fun hq => ?_)
    · exact L_X9_numberHere_20 C hdm hA hR0 hce hR _ _ _ hq
    · refine x_aload_n C 0 dX9_numberHere_15 rfl ?_
      refine x_iconst C dX9_numberHere_16 ?_
      refine x_callVv (K := 10) (rm := rmv 1 20 0 0) (As := [iV (1)]) (rest := []) C hA hR0 mf_X9_errs lk_X9_246 rfl (isK_lit hdm rfl rfl) (by decide) ⟨rfl, rfl⟩ ⟨Nat.le_of_ble_eq_true rfl, Nat.le_of_ble_eq_true rfl⟩ rfl rfl (Nat.le_of_ble_eq_true rfl) hce dX9_numberHere_17 hq (fun _ h => c_X9_errs g.l g.G hdm  h) (fun w3 _ hq => ?_)
      exact L_X9_numberHere_20 C hdm hA hR0 hce hR _ _ _ hq
set_option maxRecDepth 100000 in
set_option maxHeartbeats 4000000 in
theorem c_X9_numberHere (l : Launch) (G : Gd) {dm na : Nat} {ad : Nat → Nat} (hdm : dm = 1) {x1 : Int} {x2 : Int} {w w' : Wd} {r : Int}  (hq : p_X9_numberHere x1 x2 w = some (r, w')) : mI l yX9_numberHere cX9_numberHere 3 (some .int) (rmv 2 41 0 0) G dm na ad [.ref (ad (50)), iV (x1), iV (x2)] w r w' := by
  refine met_I [(0, .ref (ad (50))), (1, iV (x1)), (2, iV (x2))] (by decide) (Nat.le_of_ble_eq_true rfl) rfl .int rfl (fun g d C S hR => ?_)
  obtain ⟨rfl, hR0, rfl, rfl, rfl, hA⟩ := S
  exact L_X9_numberHere (d := (na, ad, 0, 0)) C hdm hA hR0 ⟨Nat.zero_le _, Nat.zero_le _⟩ hR  _ _ w hq
set_option maxRecDepth 100000 in
set_option maxHeartbeats 4000000 in
theorem L_X9_number {g : Cx} {d : Dl} (C : CX g cX9_number 4 (some .int) RX9) (hdm : g.dm = 1) (hA : ∀ q : Nat, g.s.heap.size ≤ q → g.A q) (hR0 : g.R = rmv 3 66 0 0) (hce : d.ce ≤ g.R.cells ∧ d.so ≤ g.R.slots) {res : Int × Wd} (hR : rtI g d cX9_number .int res) (x1 : Int) (x2 : Int) (w : Wd) (hq : p_X9_number x1 x2 w = some res) : XG g d (hP g d w) [(0, .ref (d.ad (50))), (1, iV (x1)), (2, iV (x2))] [] 0 := by
  refine x_aload_n C 0 dX9_number_0 rfl ?_
  refine x_iload_n C 1 dX9_number_1 rfl ?_
  refine x_iload_n C 2 dX9_number_2 rfl ?_
  refine x_callVi (K := 10) (rm := rmv 2 41 0 0) (As := [iV (x1), iV (x2)]) (rest := []) C hA hR0 mf_X9_numberHere lk_X9_249 rfl (isK_lit hdm rfl rfl) (by decide) ⟨rfl, rfl⟩ ⟨Nat.le_of_ble_eq_true rfl, Nat.le_of_ble_eq_true rfl⟩ rfl rfl (Nat.le_of_ble_eq_true rfl) hce dX9_number_3 hq (fun _ _ h => c_X9_numberHere g.l g.G hdm  h) (fun r2 w1 _ hq => ?_)
  refine x_istore_n (lv' := [(3, iV (r2)), (0, .ref (d.ad (50))), (1, iV (x1)), (2, iV (x2))]) C dX9_number_6 (by decide) rfl ?_
  refine x_aload_n C 1 dX9_number_7 rfl ?_
  refine x_callVv (K := 10) (rm := rmv 2 46 0 0) (As := []) (rest := []) C hA hR0 mf_X9_goOn lk_X9_252 rfl (isK_lit hdm rfl rfl) (by decide) ⟨rfl, rfl⟩ ⟨Nat.le_of_ble_eq_true rfl, Nat.le_of_ble_eq_true rfl⟩ rfl rfl (Nat.le_of_ble_eq_true rfl) hce dX9_number_8 hq (fun _ h => c_X9_goOn g.l g.G hdm  h) (fun w3 _ hq => ?_)
  refine x_iload_n C 0 dX9_number_11 rfl ?_
  exact hR _ _ _ _ hq rfl dX9_number_12
set_option maxRecDepth 100000 in
set_option maxHeartbeats 4000000 in
theorem c_X9_number (l : Launch) (G : Gd) {dm na : Nat} {ad : Nat → Nat} (hdm : dm = 1) {x1 : Int} {x2 : Int} {w w' : Wd} {r : Int}  (hq : p_X9_number x1 x2 w = some (r, w')) : mI l yX9_number cX9_number 4 (some .int) (rmv 3 66 0 0) G dm na ad [.ref (ad (50)), iV (x1), iV (x2)] w r w' := by
  refine met_I [(0, .ref (ad (50))), (1, iV (x1)), (2, iV (x2))] (by decide) (Nat.le_of_ble_eq_true rfl) rfl .int rfl (fun g d C S hR => ?_)
  obtain ⟨rfl, hR0, rfl, rfl, rfl, hA⟩ := S
  exact L_X9_number (d := (na, ad, 0, 0)) C hdm hA hR0 ⟨Nat.zero_le _, Nat.zero_le _⟩ hR  _ _ w hq
set_option maxRecDepth 100000 in
set_option maxHeartbeats 4000000 in
theorem L_X9_semicolon_29 {g : Cx} {d : Dl} (C : CX g cX9_semicolon 1 none RX9) (hdm : g.dm = 1) (hA : ∀ q : Nat, g.s.heap.size ≤ q → g.A q) (hR0 : g.R = rmv 3 66 0 0) (hce : d.ce ≤ g.R.cells ∧ d.so ≤ g.R.slots) {res : Wd} (hR : rtV g d cX9_semicolon res)  (w : Wd) (hq : p_X9_semicolon_29 w = some res) : XG g d (hP g d w) [(0, .ref (d.ad (50)))] [] 29 := by
  refine x_aload_n C 0 dX9_semicolon_29 rfl ?_
  refine x_callVv (K := 10) (rm := rmv 2 46 0 0) (As := []) (rest := []) C hA hR0 mf_X9_goOn lk_X9_252 rfl (isK_lit hdm rfl rfl) (by decide) ⟨rfl, rfl⟩ ⟨Nat.le_of_ble_eq_true rfl, Nat.le_of_ble_eq_true rfl⟩ rfl rfl (Nat.le_of_ble_eq_true rfl) hce dX9_semicolon_30 hq (fun _ h => c_X9_goOn g.l g.G hdm  h) (fun w1 _ hq => ?_)
  exact hR _ _ _ hq dX9_semicolon_33
set_option maxRecDepth 100000 in
set_option maxHeartbeats 4000000 in
theorem L_X9_semicolon_24 {g : Cx} {d : Dl} (C : CX g cX9_semicolon 1 none RX9) (hdm : g.dm = 1) (hA : ∀ q : Nat, g.s.heap.size ≤ q → g.A q) (hR0 : g.R = rmv 3 66 0 0) (hce : d.ce ≤ g.R.cells ∧ d.so ≤ g.R.slots) {res : Wd} (hR : rtV g d cX9_semicolon res)  (w : Wd) (hq : p_X9_semicolon_24 w = some res) : XG g d (hP g d w) [(0, .ref (d.ad (50)))] [] 24 := by
  refine x_aload_n C 0 dX9_semicolon_24 rfl ?_
  refine x_iconst C dX9_semicolon_25 ?_
  refine x_callVv (K := 10) (rm := rmv 1 20 0 0) (As := [iV (1)]) (rest := []) C hA hR0 mf_X9_errs lk_X9_246 rfl (isK_lit hdm rfl rfl) (by decide) ⟨rfl, rfl⟩ ⟨Nat.le_of_ble_eq_true rfl, Nat.le_of_ble_eq_true rfl⟩ rfl rfl (Nat.le_of_ble_eq_true rfl) hce dX9_semicolon_26 hq (fun _ h => c_X9_errs g.l g.G hdm  h) (fun w1 _ hq => ?_)
  exact L_X9_semicolon_29 C hdm hA hR0 hce hR _ hq
set_option maxRecDepth 100000 in
set_option maxHeartbeats 4000000 in
theorem L_X9_semicolon {g : Cx} {d : Dl} (C : CX g cX9_semicolon 1 none RX9) (hdm : g.dm = 1) (hA : ∀ q : Nat, g.s.heap.size ≤ q → g.A q) (hR0 : g.R = rmv 3 66 0 0) (hce : d.ce ≤ g.R.cells ∧ d.so ≤ g.R.slots) {res : Wd} (hR : rtV g d cX9_semicolon res)  (w : Wd) (hq : p_X9_semicolon  w = some res) : XG g d (hP g d w) [(0, .ref (d.ad (50)))] [] 0 := by
  refine x_aload_n C 0 dX9_semicolon_0 rfl ?_
  refine x_callVi (K := 10) (rm := rmv 0 0 0 0) (As := []) (rest := []) C hA hR0 mf_X9_good lk_X9_201 rfl (isK_lit hdm rfl rfl) (by decide) ⟨rfl, rfl⟩ ⟨Nat.le_of_ble_eq_true rfl, Nat.le_of_ble_eq_true rfl⟩ rfl rfl (Nat.le_of_ble_eq_true rfl) hce dX9_semicolon_1 hq (fun _ _ h => c_X9_good g.l g.G hdm  h) (fun r2 w1 _ hq => ?_)
  refine x_if_eq (tgt := 24) C dX9_semicolon_4 (by decide) hq (fun hq => ?_) (fun hq => ?_)
  · exact L_X9_semicolon_24 C hdm hA hR0 hce hR _ hq
  · refine x_aload_n C 0 dX9_semicolon_7 rfl ?_
    refine x_get (K := 10) (k := 22) C (isK_lit hdm rfl rfl) (by decide) cl_X9 (by decide) ⟨rfl, rfl, rfl⟩ fl_X9_217 dX9_semicolon_8 ?_
    refine x_iconst C dX9_semicolon_11 ?_
    refine x_icmp_ne (tgt := 24) C dX9_semicolon_12 (by decide) hq (fun hq => ?_) (fun hq => ?_)
    · exact L_X9_semicolon_24 C hdm hA hR0 hce hR _ hq
    · refine x_aload_n C 0 dX9_semicolon_15 rfl ?_
      refine x_get (K := 10) (k := 23) C (isK_lit hdm rfl rfl) (by decide) cl_X9 (by decide) ⟨rfl, rfl, rfl⟩ fl_X9_228 dX9_semicolon_16 ?_
      refine x_bipush (v := 59) C dX9_semicolon_19 (by decide +kernel) ?_
      refine x_icmp_eq (tgt := 29) C dX9_semicolon_21 (by decide) hq (fun hq => ?_) (fun hq => ?_)
      · exact L_X9_semicolon_29 C hdm hA hR0 hce hR _ hq
      · exact L_X9_semicolon_24 C hdm hA hR0 hce hR _ hq
set_option maxRecDepth 100000 in
set_option maxHeartbeats 4000000 in
theorem c_X9_semicolon (l : Launch) (G : Gd) {dm na : Nat} {ad : Nat → Nat} (hdm : dm = 1)  {w w' : Wd}   (hq : p_X9_semicolon  w = some w') : mV l yX9_semicolon cX9_semicolon 1 none (rmv 3 66 0 0) G dm na ad [.ref (ad (50))] w w' := by
  refine met_V [(0, .ref (ad (50)))] (by decide) (Nat.le_of_ble_eq_true rfl) rfl rfl (fun g d C S hR => ?_)
  obtain ⟨rfl, hR0, rfl, rfl, rfl, hA⟩ := S
  exact L_X9_semicolon (d := (na, ad, 0, 0)) C hdm hA hR0 ⟨Nat.zero_le _, Nat.zero_le _⟩ hR   w hq
set_option maxRecDepth 100000 in
set_option maxHeartbeats 4000000 in
theorem L_X9_errsIf {g : Cx} {d : Dl} (C : CX g cX9_errsIf 3 none RX9) (hdm : g.dm = 1) (hA : ∀ q : Nat, g.s.heap.size ≤ q → g.A q) (hR0 : g.R = rmv 2 41 0 0) (hce : d.ce ≤ g.R.cells ∧ d.so ≤ g.R.slots) {res : Wd} (hR : rtV g d cX9_errsIf res) (x1 : Int) (x2 : Int) (w : Wd) (hq : p_X9_errsIf x1 x2 w = some res) : XG g d (hP g d w) [(0, .ref (d.ad (50))), (1, iV (x1)), (2, iV (x2))] [] 0 := by
  refine x_aload_n C 0 dX9_errsIf_0 rfl ?_
  refine x_callVi (K := 10) (rm := rmv 0 0 0 0) (As := []) (rest := []) C hA hR0 mf_X9_good lk_X9_201 rfl (isK_lit hdm rfl rfl) (by decide) ⟨rfl, rfl⟩ ⟨Nat.le_of_ble_eq_true rfl, Nat.le_of_ble_eq_true rfl⟩ rfl rfl (Nat.le_of_ble_eq_true rfl) hce dX9_errsIf_1 hq (fun _ _ h => c_X9_good g.l g.G hdm  h) (fun r2 w1 _ hq => ?_)
  refine x_if_eq (tgt := 16) C dX9_errsIf_4 (by decide) hq (fun hq => ?_) (fun hq => ?_)
  · exact hR _ _ _ hq dX9_errsIf_16
  · refine x_iload_n C 1 dX9_errsIf_7 rfl ?_
    refine x_if_eq (tgt := 16) C dX9_errsIf_8 (by decide) hq (fun hq => ?_) (fun hq => ?_)
    · exact hR _ _ _ hq dX9_errsIf_16
    · refine x_aload_n C 0 dX9_errsIf_11 rfl ?_
      refine x_iload_n C 2 dX9_errsIf_12 rfl ?_
      refine x_callVv (K := 10) (rm := rmv 1 20 0 0) (As := [iV (x2)]) (rest := []) C hA hR0 mf_X9_errs lk_X9_246 rfl (isK_lit hdm rfl rfl) (by decide) ⟨rfl, rfl⟩ ⟨Nat.le_of_ble_eq_true rfl, Nat.le_of_ble_eq_true rfl⟩ rfl rfl (Nat.le_of_ble_eq_true rfl) hce dX9_errsIf_13 hq (fun _ h => c_X9_errs g.l g.G hdm  h) (fun w3 _ hq => ?_)
      exact hR _ _ _ hq dX9_errsIf_16
set_option maxRecDepth 100000 in
set_option maxHeartbeats 4000000 in
theorem c_X9_errsIf (l : Launch) (G : Gd) {dm na : Nat} {ad : Nat → Nat} (hdm : dm = 1) {x1 : Int} {x2 : Int} {w w' : Wd}   (hq : p_X9_errsIf x1 x2 w = some w') : mV l yX9_errsIf cX9_errsIf 3 none (rmv 2 41 0 0) G dm na ad [.ref (ad (50)), iV (x1), iV (x2)] w w' := by
  refine met_V [(0, .ref (ad (50))), (1, iV (x1)), (2, iV (x2))] (by decide) (Nat.le_of_ble_eq_true rfl) rfl rfl (fun g d C S hR => ?_)
  obtain ⟨rfl, hR0, rfl, rfl, rfl, hA⟩ := S
  exact L_X9_errsIf (d := (na, ad, 0, 0)) C hdm hA hR0 ⟨Nat.zero_le _, Nat.zero_le _⟩ hR  _ _ w hq
set_option maxRecDepth 100000 in
set_option maxHeartbeats 4000000 in
theorem L_X9_isSign {g : Cx} {d : Dl} (C : CX g cX9_isSign 2 (some .boolean) RX9) (hdm : g.dm = 1) (hA : ∀ q : Nat, g.s.heap.size ≤ q → g.A q) (hR0 : g.R = rmv 1 20 0 0) (hce : d.ce ≤ g.R.cells ∧ d.so ≤ g.R.slots) {res : Int × Wd} (hR : rtI g d cX9_isSign .boolean res) (x1 : Int) (w : Wd) (hq : p_X9_isSign x1 w = some res) : XG g d (hP g d w) [(0, .ref (d.ad (50))), (1, iV (x1))] [] 0 := by
  refine x_aload_n C 0 dX9_isSign_0 rfl ?_
  refine x_callVi (K := 10) (rm := rmv 0 0 0 0) (As := []) (rest := []) C hA hR0 mf_X9_good lk_X9_201 rfl (isK_lit hdm rfl rfl) (by decide) ⟨rfl, rfl⟩ ⟨Nat.le_of_ble_eq_true rfl, Nat.le_of_ble_eq_true rfl⟩ rfl rfl (Nat.le_of_ble_eq_true rfl) hce dX9_isSign_1 hq (fun _ _ h => c_X9_good g.l g.G hdm  h) (fun r2 w1 _ hq => ?_)
  refine x_if_eq (tgt := 27) C dX9_isSign_4 (by decide) hq (fun hq => ?_) (fun hq => ?_)
  · refine x_iconst C dX9_isSign_27 ?_
    exact hR _ _ _ _ hq (by decide +kernel) dX9_isSign_28
  · refine x_aload_n C 0 dX9_isSign_7 rfl ?_
    refine x_get (K := 10) (k := 22) C (isK_lit hdm rfl rfl) (by decide) cl_X9 (by decide) ⟨rfl, rfl, rfl⟩ fl_X9_217 dX9_isSign_8 ?_
    refine x_iconst C dX9_isSign_11 ?_
    refine x_icmp_ne (tgt := 27) C dX9_isSign_12 (by decide) hq (fun hq => ?_) (fun hq => ?_)
    · refine x_iconst C dX9_isSign_27 ?_
      exact hR _ _ _ _ hq (by decide +kernel) dX9_isSign_28
    · refine x_aload_n C 0 dX9_isSign_15 rfl ?_
      refine x_get (K := 10) (k := 23) C (isK_lit hdm rfl rfl) (by decide) cl_X9 (by decide) ⟨rfl, rfl, rfl⟩ fl_X9_228 dX9_isSign_16 ?_
      refine x_iload_n C 1 dX9_isSign_19 rfl ?_
      refine x_icmp_ne (tgt := 27) C dX9_isSign_20 (by decide) hq (fun hq => ?_) (fun hq => ?_)
      · refine x_iconst C dX9_isSign_27 ?_
        exact hR _ _ _ _ hq (by decide +kernel) dX9_isSign_28
      · refine x_iconst C dX9_isSign_23 ?_
        refine x_goto (tgt := 28) C dX9_isSign_24 (by decide) ?_
        exact hR _ _ _ _ hq (by decide +kernel) dX9_isSign_28
set_option maxRecDepth 100000 in
set_option maxHeartbeats 4000000 in
theorem c_X9_isSign (l : Launch) (G : Gd) {dm na : Nat} {ad : Nat → Nat} (hdm : dm = 1) {x1 : Int} {w w' : Wd} {r : Int}  (hq : p_X9_isSign x1 w = some (r, w')) : mI l yX9_isSign cX9_isSign 2 (some .boolean) (rmv 1 20 0 0) G dm na ad [.ref (ad (50)), iV (x1)] w r w' := by
  refine met_I [(0, .ref (ad (50))), (1, iV (x1))] (by decide) (Nat.le_of_ble_eq_true rfl) rfl .boolean rfl (fun g d C S hR => ?_)
  obtain ⟨rfl, hR0, rfl, rfl, rfl, hA⟩ := S
  exact L_X9_isSign (d := (na, ad, 0, 0)) C hdm hA hR0 ⟨Nat.zero_le _, Nat.zero_le _⟩ hR  _ w hq
set_option maxRecDepth 100000 in
set_option maxHeartbeats 4000000 in
theorem L_X9_isW_16 {g : Cx} {d : Dl} (C : CX g cX9_isW 1 (some .boolean) RX9) (hdm : g.dm = 1) (hA : ∀ q : Nat, g.s.heap.size ≤ q → g.A q) (hR0 : g.R = rmv 0 0 0 0) (hce : d.ce ≤ g.R.cells ∧ d.so ≤ g.R.slots) {res : Int × Wd} (hR : rtI g d cX9_isW .boolean res)  (w : Wd) (hq : p_X9_isW_16 w = some res) : XG g d (hP g d w) [] [] 16 := by
  refine x_iconst C dX9_isW_16 ?_
  refine x_goto (tgt := 21) C dX9_isW_17 (by decide) ?_
  exact hR _ _ _ _ hq (by decide +kernel) dX9_isW_21
set_option maxRecDepth 100000 in
set_option maxHeartbeats 4000000 in
theorem L_X9_isW {g : Cx} {d : Dl} (C : CX g cX9_isW 1 (some .boolean) RX9) (hdm : g.dm = 1) (hA : ∀ q : Nat, g.s.heap.size ≤ q → g.A q) (hR0 : g.R = rmv 0 0 0 0) (hce : d.ce ≤ g.R.cells ∧ d.so ≤ g.R.slots) {res : Int × Wd} (hR : rtI g d cX9_isW .boolean res)  (w : Wd) (hq : p_X9_isW  w = some res) : XG g d (hP g d w) [(0, .ref (d.ad (50)))] [] 0 := by
  refine x_aload_n C 0 dX9_isW_0 rfl ?_
  refine x_get (K := 10) (k := 22) C (isK_lit hdm rfl rfl) (by decide) cl_X9 (by decide) ⟨rfl, rfl, rfl⟩ fl_X9_217 dX9_isW_1 ?_
  refine x_iconst C dX9_isW_4 ?_
  refine x_icmp_eq (tgt := 16) C dX9_isW_5 (by decide) hq (fun hq => ?_) (fun hq => ?_)
  · refine XG.sub [] rfl ?_
    exact L_X9_isW_16 C hdm hA hR0 hce hR _ hq
  · refine x_aload_n C 0 dX9_isW_8 rfl ?_
    refine x_get (K := 10) (k := 22) C (isK_lit hdm rfl rfl) (by decide) cl_X9 (by decide) ⟨rfl, rfl, rfl⟩ fl_X9_217 dX9_isW_9 ?_
    refine x_iconst C dX9_isW_12 ?_
    refine x_icmp_ne (tgt := 20) C dX9_isW_13 (by decide) hq (fun hq => ?_) (fun hq => ?_)
    · refine x_iconst C dX9_isW_20 ?_
      exact hR _ _ _ _ hq (by decide +kernel) dX9_isW_21
    · refine XG.sub [] rfl ?_
      exact L_X9_isW_16 C hdm hA hR0 hce hR _ hq
set_option maxRecDepth 100000 in
set_option maxHeartbeats 4000000 in
theorem c_X9_isW (l : Launch) (G : Gd) {dm na : Nat} {ad : Nat → Nat} (hdm : dm = 1)  {w w' : Wd} {r : Int}  (hq : p_X9_isW  w = some (r, w')) : mI l yX9_isW cX9_isW 1 (some .boolean) (rmv 0 0 0 0) G dm na ad [.ref (ad (50))] w r w' := by
  refine met_I [(0, .ref (ad (50)))] (by decide) (Nat.le_of_ble_eq_true rfl) rfl .boolean rfl (fun g d C S hR => ?_)
  obtain ⟨rfl, hR0, rfl, rfl, rfl, hA⟩ := S
  exact L_X9_isW (d := (na, ad, 0, 0)) C hdm hA hR0 ⟨Nat.zero_le _, Nat.zero_le _⟩ hR   w hq
set_option maxRecDepth 100000 in
set_option maxHeartbeats 4000000 in
theorem L_X9_parseFlaws_97 {g : Cx} {d : Dl} (C : CX g cX9_parseFlaws 4 none RX9) (hdm : g.dm = 1) (hA : ∀ q : Nat, g.s.heap.size ≤ q → g.A q) (hR0 : g.R = rmv 4 86 0 0) (hce : d.ce ≤ g.R.cells ∧ d.so ≤ g.R.slots) {res : Wd} (hR : rtV g d cX9_parseFlaws res) {k2 : Int → Wd → Option (Wd)} (hk2 : ∀ (x1 : Int) (w : Wd), k2 x1 w = some res → XG g d (hP g d w) [(0, .ref (d.ad (50))), (1, iV (x1))] [] 2)  (w : Wd) (hq : p_X9_parseFlaws_97 k2 w = some res) : XG g d (hP g d w) [(0, .ref (d.ad (50)))] [] 97 := by
  refine x_aload_n C 0 dX9_parseFlaws_97 rfl ?_
  refine x_callVv (K := 10) (rm := rmv 2 46 0 0) (As := []) (rest := []) C hA hR0 mf_X9_goOn lk_X9_252 rfl (isK_lit hdm rfl rfl) (by decide) ⟨rfl, rfl⟩ ⟨Nat.le_of_ble_eq_true rfl, Nat.le_of_ble_eq_true rfl⟩ rfl rfl (Nat.le_of_ble_eq_true rfl) hce dX9_parseFlaws_98 hq (fun _ h => c_X9_goOn g.l g.G hdm  h) (fun w1 _ hq => ?_)
  refine x_aload_n C 0 dX9_parseFlaws_101 rfl ?_
  refine x_bipush (v := 44) C dX9_parseFlaws_102 (by decide +kernel) ?_
  refine x_callVi (K := 10) (rm := rmv 1 20 0 0) (As := [iV (44)]) (rest := []) C hA hR0 mf_X9_isSign lk_X9_278 rfl (isK_lit hdm rfl rfl) (by decide) ⟨rfl, rfl⟩ ⟨Nat.le_of_ble_eq_true rfl, Nat.le_of_ble_eq_true rfl⟩ rfl rfl (Nat.le_of_ble_eq_true rfl) hce dX9_parseFlaws_104 hq (fun _ _ h => c_X9_isSign g.l g.G hdm  h) (fun r3 w2 _ hq => ?_)
  refine x_istore_n (lv' := [(1, iV (r3)), (0, .ref (d.ad (50)))]) C dX9_parseFlaws_107 (by decide) rfl ?_
  refine x_goto (tgt := 2) C dX9_parseFlaws_108 (by decide) ?_
  refine XG.sub [1, 0] rfl ?_
  exact hk2 _ _ hq
set_option maxRecDepth 100000 in
set_option maxHeartbeats 4000000 in
theorem L_X9_parseFlaws_79 {g : Cx} {d : Dl} (C : CX g cX9_parseFlaws 4 none RX9) (hdm : g.dm = 1) (hA : ∀ q : Nat, g.s.heap.size ≤ q → g.A q) (hR0 : g.R = rmv 4 86 0 0) (hce : d.ce ≤ g.R.cells ∧ d.so ≤ g.R.slots) {res : Wd} (hR : rtV g d cX9_parseFlaws res) {k2 : Int → Wd → Option (Wd)} (hk2 : ∀ (x1 : Int) (w : Wd), k2 x1 w = some res → XG g d (hP g d w) [(0, .ref (d.ad (50))), (1, iV (x1))] [] 2) (x2 : Int) (x3 : Int) (s0 : Int) (w : Wd) (hq : p_X9_parseFlaws_79 k2 x2 x3 s0 w = some res) : XG g d (hP g d w) [(0, .ref (d.ad (50))), (2, iV (x2)), (3, iV (x3))] [iV (s0), .ref (d.ad (50))] 79 := by
  refine x_iconst C dX9_parseFlaws_79 ?_
  refine x_callVv (K := 10) (rm := rmv 2 41 0 0) (As := [iV (s0), iV (3)]) (rest := []) C hA hR0 mf_X9_errsIf lk_X9_274 rfl (isK_lit hdm rfl rfl) (by decide) ⟨rfl, rfl⟩ ⟨Nat.le_of_ble_eq_true rfl, Nat.le_of_ble_eq_true rfl⟩ rfl rfl (Nat.le_of_ble_eq_true rfl) hce dX9_parseFlaws_80 hq (fun _ h => c_X9_errsIf g.l g.G hdm  h) (fun w1 _ hq => ?_)
  refine x_aload_n C 0 dX9_parseFlaws_83 rfl ?_
  refine x_callVi (K := 10) (rm := rmv 0 0 0 0) (As := []) (rest := []) C hA hR0 mf_X9_good lk_X9_201 rfl (isK_lit hdm rfl rfl) (by decide) ⟨rfl, rfl⟩ ⟨Nat.le_of_ble_eq_true rfl, Nat.le_of_ble_eq_true rfl⟩ rfl rfl (Nat.le_of_ble_eq_true rfl) hce dX9_parseFlaws_84 hq (fun _ _ h => c_X9_good g.l g.G hdm  h) (fun r3 w2 _ hq => ?_)
  refine x_if_eq (tgt := 97) C dX9_parseFlaws_87 (by decide) hq (fun hq => ?_) (fun hq => ?_)
  · refine XG.sub [0] rfl ?_
    exact L_X9_parseFlaws_97 C hdm hA hR0 hce hR hk2 _ hq
  · refine x_aload_n C 0 dX9_parseFlaws_90 rfl ?_
    refine x_iload_n C 1 dX9_parseFlaws_91 rfl ?_
    refine x_iload_n C 2 dX9_parseFlaws_92 rfl ?_
    refine x_iconst C dX9_parseFlaws_93 ?_
    refine x_callVv (K := 10) (rm := rmv 0 0 0 0) (As := [iV (x2), iV (x3), iV (1)]) (rest := []) C hA hR0 mf_X9_putFlaw lk_X9_175 rfl (isK_lit hdm rfl rfl) (by decide) ⟨rfl, rfl⟩ ⟨Nat.le_of_ble_eq_true rfl, Nat.le_of_ble_eq_true rfl⟩ rfl rfl (Nat.le_of_ble_eq_true rfl) hce dX9_parseFlaws_94 hq (fun _ h => c_X9_putFlaw g.l g.G hdm  h) (fun w4 _ hq => ?_)
    refine XG.sub [0] rfl ?_
    exact L_X9_parseFlaws_97 C hdm hA hR0 hce hR hk2 _ hq
set_option maxRecDepth 100000 in
set_option maxHeartbeats 4000000 in
theorem L_X9_parseFlaws_78 {g : Cx} {d : Dl} (C : CX g cX9_parseFlaws 4 none RX9) (hdm : g.dm = 1) (hA : ∀ q : Nat, g.s.heap.size ≤ q → g.A q) (hR0 : g.R = rmv 4 86 0 0) (hce : d.ce ≤ g.R.cells ∧ d.so ≤ g.R.slots) {res : Wd} (hR : rtV g d cX9_parseFlaws res) {k2 : Int → Wd → Option (Wd)} (hk2 : ∀ (x1 : Int) (w : Wd), k2 x1 w = some res → XG g d (hP g d w) [(0, .ref (d.ad (50))), (1, iV (x1))] [] 2) (x2 : Int) (x3 : Int) (w : Wd) (hq : p_X9_parseFlaws_78 k2 x2 x3 w = some res) : XG g d (hP g d w) [(0, .ref (d.ad (50))), (2, iV (x2)), (3, iV (x3))] [.ref (d.ad (50))] 78 := by
  refine x_iconst C dX9_parseFlaws_78 ?_
  exact L_X9_parseFlaws_79 C hdm hA hR0 hce hR hk2 _ _ _ _ hq
set_option maxRecDepth 100000 in
set_option maxHeartbeats 4000000 in
theorem L_X9_parseFlaws_37 {g : Cx} {d : Dl} (C : CX g cX9_parseFlaws 4 none RX9) (hdm : g.dm = 1) (hA : ∀ q : Nat, g.s.heap.size ≤ q → g.A q) (hR0 : g.R = rmv 4 86 0 0) (hce : d.ce ≤ g.R.cells ∧ d.so ≤ g.R.slots) {res : Wd} (hR : rtV g d cX9_parseFlaws res) {k2 : Int → Wd → Option (Wd)} (hk2 : ∀ (x1 : Int) (w : Wd), k2 x1 w = some res → XG g d (hP g d w) [(0, .ref (d.ad (50))), (1, iV (x1))] [] 2) (x2 : Int) (s0 : Int) (w : Wd) (hq : p_X9_parseFlaws_37 k2 x2 s0 w = some res) : XG g d (hP g d w) [(0, .ref (d.ad (50))), (2, iV (x2))] [iV (s0), .ref (d.ad (50))] 37 := by
  refine x_iconst C dX9_parseFlaws_37 ?_
  refine x_callVv (K := 10) (rm := rmv 2 41 0 0) (As := [iV (s0), iV (5)]) (rest := []) C hA hR0 mf_X9_errsIf lk_X9_274 rfl (isK_lit hdm rfl rfl) (by decide) ⟨rfl, rfl⟩ ⟨Nat.le_of_ble_eq_true rfl, Nat.le_of_ble_eq_true rfl⟩ rfl rfl (Nat.le_of_ble_eq_true rfl) hce dX9_parseFlaws_38 hq (fun _ h => c_X9_errsIf g.l g.G hdm  h) (fun w1 _ hq => ?_)
  refine x_aload_n C 0 dX9_parseFlaws_41 rfl ?_
  refine x_callVv (K := 10) (rm := rmv 2 46 0 0) (As := []) (rest := []) C hA hR0 mf_X9_goOn lk_X9_252 rfl (isK_lit hdm rfl rfl) (by decide) ⟨rfl, rfl⟩ ⟨Nat.le_of_ble_eq_true rfl, Nat.le_of_ble_eq_true rfl⟩ rfl rfl (Nat.le_of_ble_eq_true rfl) hce dX9_parseFlaws_42 hq (fun _ h => c_X9_goOn g.l g.G hdm  h) (fun w2 _ hq => ?_)
  refine x_aload_n C 0 dX9_parseFlaws_45 rfl ?_
  refine x_iconst C dX9_parseFlaws_46 ?_
  refine x_aload_n C 0 dX9_parseFlaws_47 rfl ?_
  refine x_callVi (K := 10) (rm := rmv 0 0 0 0) (As := []) (rest := [iV (0), .ref (d.ad (50))]) C hA hR0 mf_X9_high lk_X9_79 rfl (isK_lit hdm rfl rfl) (by decide) ⟨rfl, rfl⟩ ⟨Nat.le_of_ble_eq_true rfl, Nat.le_of_ble_eq_true rfl⟩ rfl rfl (Nat.le_of_ble_eq_true rfl) hce dX9_parseFlaws_48 hq (fun _ _ h => c_X9_high g.l g.G hdm  h) (fun r4 w3 _ hq => ?_)
  refine x_iconst C dX9_parseFlaws_51 ?_
  refine x_isub C dX9_parseFlaws_52 ?_
  refine x_callVi (K := 10) (rm := rmv 2 41 0 0) (As := [iV (0), iV (r4 - 1)]) (rest := []) C hA hR0 mf_X9_numberHere lk_X9_249 rfl (isK_lit hdm rfl rfl) (by decide) ⟨rfl, rfl⟩ ⟨Nat.le_of_ble_eq_true rfl, Nat.le_of_ble_eq_true rfl⟩ rfl rfl (Nat.le_of_ble_eq_true rfl) hce dX9_parseFlaws_53 hq (fun _ _ h => c_X9_numberHere g.l g.G hdm  h) (fun r6 w5 _ hq => ?_)
  refine x_istore_n (lv' := [(3, iV (r6)), (0, .ref (d.ad (50))), (2, iV (x2))]) C dX9_parseFlaws_56 (by decide) rfl ?_
  refine x_aload_n C 1 dX9_parseFlaws_57 rfl ?_
  refine x_aload_n C 1 dX9_parseFlaws_58 rfl ?_
  refine x_callVi (K := 10) (rm := rmv 0 0 0 0) (As := []) (rest := [.ref (d.ad (50))]) C hA hR0 mf_X9_good lk_X9_201 rfl (isK_lit hdm rfl rfl) (by decide) ⟨rfl, rfl⟩ ⟨Nat.le_of_ble_eq_true rfl, Nat.le_of_ble_eq_true rfl⟩ rfl rfl (Nat.le_of_ble_eq_true rfl) hce dX9_parseFlaws_59 hq (fun _ _ h => c_X9_good g.l g.G hdm  h) (fun r8 w7 _ hq => ?_)
  refine x_if_eq (tgt := 78) C dX9_parseFlaws_62 (by decide) hq (fun hq => ?_) (fun hq => ?_)
  · refine XG.sub [1, 2, 0] rfl ?_
    exact L_X9_parseFlaws_78 C hdm hA hR0 hce hR hk2 _ _ _ hq
  · refine x_aload_n C 1 dX9_parseFlaws_65 rfl ?_
    refine x_iload_n C 2 dX9_parseFlaws_66 rfl ?_
    refine x_iload_n C 0 dX9_parseFlaws_67 rfl ?_
    refine x_callVi (K := 10) (rm := rmv 2 47 0 0) (As := [iV (x2), iV (r6)]) (rest := [.ref (d.ad (50))]) C hA hR0 mf_X9_hasFlaw lk_X9_93 rfl (isK_lit hdm rfl rfl) (by decide) ⟨rfl, rfl⟩ ⟨Nat.le_of_ble_eq_true rfl, Nat.le_of_ble_eq_true rfl⟩ rfl rfl (Nat.le_of_ble_eq_true rfl) hce dX9_parseFlaws_68 hq (fun _ _ h => c_X9_hasFlaw g.l g.G hdm  h) (fun r10 w9 _ hq => ?_)
    refine x_if_eq (tgt := 78) C dX9_parseFlaws_71 (by decide) hq (fun hq => ?_) (fun hq => ?_)
    · refine XG.sub [1, 2, 0] rfl ?_
      exact L_X9_parseFlaws_78 C hdm hA hR0 hce hR hk2 _ _ _ hq
    · refine x_iconst C dX9_parseFlaws_74 ?_
      refine x_goto (tgt := 79) C dX9_parseFlaws_75 (by decide) ?_
      refine XG.sub [1, 2, 0] rfl ?_
      exact L_X9_parseFlaws_79 C hdm hA hR0 hce hR hk2 _ _ _ _ hq
set_option maxRecDepth 100000 in
set_option maxHeartbeats 4000000 in
theorem L_X9_parseFlaws_111 {g : Cx} {d : Dl} (C : CX g cX9_parseFlaws 4 none RX9) (hdm : g.dm = 1) (hA : ∀ q : Nat, g.s.heap.size ≤ q → g.A q) (hR0 : g.R = rmv 4 86 0 0) (hce : d.ce ≤ g.R.cells ∧ d.so ≤ g.R.slots) {res : Wd} (hR : rtV g d cX9_parseFlaws res)  (w : Wd) (hq : p_X9_parseFlaws_111 w = some res) : XG g d (hP g d w) [(0, .ref (d.ad (50)))] [] 111 := by
  refine x_aload_n C 0 dX9_parseFlaws_111 rfl ?_
  refine x_callVv (K := 10) (rm := rmv 3 66 0 0) (As := []) (rest := []) C hA hR0 mf_X9_semicolon lk_X9_268 rfl (isK_lit hdm rfl rfl) (by decide) ⟨rfl, rfl⟩ ⟨Nat.le_of_ble_eq_true rfl, Nat.le_of_ble_eq_true rfl⟩ rfl rfl (Nat.le_of_ble_eq_true rfl) hce dX9_parseFlaws_112 hq (fun _ h => c_X9_semicolon g.l g.G hdm  h) (fun w1 _ hq => ?_)
  exact hR _ _ _ hq dX9_parseFlaws_115
set_option maxRecDepth 100000 in
set_option maxHeartbeats 4000000 in
theorem L_X9_parseFlaws_2 {g : Cx} {d : Dl} (C : CX g cX9_parseFlaws 4 none RX9) (hdm : g.dm = 1) (hA : ∀ q : Nat, g.s.heap.size ≤ q → g.A q) (hR0 : g.R = rmv 4 86 0 0) (hce : d.ce ≤ g.R.cells ∧ d.so ≤ g.R.slots) {res : Wd} (hR : rtV g d cX9_parseFlaws res) : ∀ (n : Nat) (x1 : Int) (w : Wd), p_X9_parseFlaws_2 n x1 w = some res → XG g d (hP g d w) [(0, .ref (d.ad (50))), (1, iV (x1))] [] 2 := by
  intro n
  induction n with
  | zero => intro x1 w  hq; exact nomatch (show none = some _ from hq)
  | succ n ih =>
    intro x1 w  hq
    refine x_iload_n C 1 dX9_parseFlaws_2 rfl ?_
    refine x_if_eq (tgt := 111) C dX9_parseFlaws_3 (by decide) hq (fun hq => ?_) (fun hq => ?_)
    · refine XG.sub [0] rfl ?_
      exact L_X9_parseFlaws_111 C hdm hA hR0 hce hR _ hq
    · refine x_aload_n C 0 dX9_parseFlaws_6 rfl ?_
      refine x_callVv (K := 10) (rm := rmv 2 46 0 0) (As := []) (rest := []) C hA hR0 mf_X9_goOn lk_X9_252 rfl (isK_lit hdm rfl rfl) (by decide) ⟨rfl, rfl⟩ ⟨Nat.le_of_ble_eq_true rfl, Nat.le_of_ble_eq_true rfl⟩ rfl rfl (Nat.le_of_ble_eq_true rfl) hce dX9_parseFlaws_7 hq (fun _ h => c_X9_goOn g.l g.G hdm  h) (fun w1 _ hq => ?_)
      refine x_aload_n C 0 dX9_parseFlaws_10 rfl ?_
      refine x_iconst C dX9_parseFlaws_11 ?_
      refine x_aload_n C 0 dX9_parseFlaws_12 rfl ?_
      refine x_callVi (K := 10) (rm := rmv 0 0 0 0) (As := []) (rest := [iV (0), .ref (d.ad (50))]) C hA hR0 mf_X9_wide lk_X9_71 rfl (isK_lit hdm rfl rfl) (by decide) ⟨rfl, rfl⟩ ⟨Nat.le_of_ble_eq_true rfl, Nat.le_of_ble_eq_true rfl⟩ rfl rfl (Nat.le_of_ble_eq_true rfl) hce dX9_parseFlaws_13 hq (fun _ _ h => c_X9_wide g.l g.G hdm  h) (fun r3 w2 _ hq => ?_)
      refine x_iconst C dX9_parseFlaws_16 ?_
      refine x_isub C dX9_parseFlaws_17 ?_
      refine x_callVi (K := 10) (rm := rmv 2 41 0 0) (As := [iV (0), iV (r3 - 1)]) (rest := []) C hA hR0 mf_X9_numberHere lk_X9_249 rfl (isK_lit hdm rfl rfl) (by decide) ⟨rfl, rfl⟩ ⟨Nat.le_of_ble_eq_true rfl, Nat.le_of_ble_eq_true rfl⟩ rfl rfl (Nat.le_of_ble_eq_true rfl) hce dX9_parseFlaws_18 hq (fun _ _ h => c_X9_numberHere g.l g.G hdm  h) (fun r5 w4 _ hq => ?_)
      refine x_istore_n (lv' := [(2, iV (r5)), (0, .ref (d.ad (50))), (1, iV (x1))]) C dX9_parseFlaws_21 (by decide) rfl ?_
      refine x_aload_n C 1 dX9_parseFlaws_22 rfl ?_
      refine x_aload_n C 1 dX9_parseFlaws_23 rfl ?_
      refine x_callVi (K := 10) (rm := rmv 0 0 0 0) (As := []) (rest := [.ref (d.ad (50))]) C hA hR0 mf_X9_flaws lk_X9_271 rfl (isK_lit hdm rfl rfl) (by decide) ⟨rfl, rfl⟩ ⟨Nat.le_of_ble_eq_true rfl, Nat.le_of_ble_eq_true rfl⟩ rfl rfl (Nat.le_of_ble_eq_true rfl) hce dX9_parseFlaws_24 hq (fun _ _ h => c_X9_flaws g.l g.G hdm  h) (fun r7 w6 _ hq => ?_)
      refine x_bipush (v := 40) C dX9_parseFlaws_27 (by decide +kernel) ?_
      refine x_icmp_ne (tgt := 36) C dX9_parseFlaws_29 (by decide) hq (fun hq => ?_) (fun hq => ?_)
      · refine x_iconst C dX9_parseFlaws_36 ?_
        refine XG.sub [1, 0] rfl ?_
        exact L_X9_parseFlaws_37 C hdm hA hR0 hce hR ih _ _ _ hq
      · refine x_iconst C dX9_parseFlaws_32 ?_
        refine x_goto (tgt := 37) C dX9_parseFlaws_33 (by decide) ?_
        refine XG.sub [1, 0] rfl ?_
        exact L_X9_parseFlaws_37 C hdm hA hR0 hce hR ih _ _ _ hq
set_option maxRecDepth 100000 in
set_option maxHeartbeats 4000000 in
theorem L_X9_parseFlaws {g : Cx} {d : Dl} (C : CX g cX9_parseFlaws 4 none RX9) (hdm : g.dm = 1) (hA : ∀ q : Nat, g.s.heap.size ≤ q → g.A q) (hR0 : g.R = rmv 4 86 0 0) (hce : d.ce ≤ g.R.cells ∧ d.so ≤ g.R.slots) {res : Wd} (hR : rtV g d cX9_parseFlaws res)  (w : Wd) (hq : p_X9_parseFlaws  w = some res) : XG g d (hP g d w) [(0, .ref (d.ad (50)))] [] 0 := by
  refine x_iconst C dX9_parseFlaws_0 ?_
  refine x_istore_n (lv' := [(1, iV (1)), (0, .ref (d.ad (50)))]) C dX9_parseFlaws_1 (by decide) rfl ?_
  refine XG.sub [1, 0] rfl ?_
  exact L_X9_parseFlaws_2 C hdm hA hR0 hce hR _ _ _ hq
set_option maxRecDepth 100000 in
set_option maxHeartbeats 4000000 in
theorem c_X9_parseFlaws (l : Launch) (G : Gd) {dm na : Nat} {ad : Nat → Nat} (hdm : dm = 1)  {w w' : Wd}   (hq : p_X9_parseFlaws  w = some w') : mV l yX9_parseFlaws cX9_parseFlaws 4 none (rmv 4 86 0 0) G dm na ad [.ref (ad (50))] w w' := by
  refine met_V [(0, .ref (ad (50)))] (by decide) (Nat.le_of_ble_eq_true rfl) rfl rfl (fun g d C S hR => ?_)
  obtain ⟨rfl, hR0, rfl, rfl, rfl, hA⟩ := S
  exact L_X9_parseFlaws (d := (na, ad, 0, 0)) C hdm hA hR0 ⟨Nat.zero_le _, Nat.zero_le _⟩ hR   w hq
set_option maxRecDepth 100000 in
set_option maxHeartbeats 4000000 in
theorem L_X9_parseGap {g : Cx} {d : Dl} (C : CX g cX9_parseGap 1 none RX9) (hdm : g.dm = 1) (hA : ∀ q : Nat, g.s.heap.size ≤ q → g.A q) (hR0 : g.R = rmv 4 89 0 0) (hce : d.ce ≤ g.R.cells ∧ d.so ≤ g.R.slots) {res : Wd} (hR : rtV g d cX9_parseGap res)  (w : Wd) (hq : p_X9_parseGap  w = some res) : XG g d (hP g d w) [(0, .ref (d.ad (50)))] [] 0 := by
  refine x_aload_n C 0 dX9_parseGap_0 rfl ?_
  refine x_aload_n C 0 dX9_parseGap_1 rfl ?_
  refine x_get (K := 10) (k := 26) C (isK_lit hdm rfl rfl) (by decide) cl_X9 (by decide) ⟨rfl, rfl, rfl⟩ fl_X9_281 dX9_parseGap_2 ?_
  refine x_iconst C dX9_parseGap_5 ?_
  refine x_callVv (K := 10) (rm := rmv 2 41 0 0) (As := [iV (gF w 50 26), iV (3)]) (rest := []) C hA hR0 mf_X9_errsIf lk_X9_274 rfl (isK_lit hdm rfl rfl) (by decide) ⟨rfl, rfl⟩ ⟨Nat.le_of_ble_eq_true rfl, Nat.le_of_ble_eq_true rfl⟩ rfl rfl (Nat.le_of_ble_eq_true rfl) hce dX9_parseGap_6 hq (fun _ h => c_X9_errsIf g.l g.G hdm  h) (fun w1 _ hq => ?_)
  refine x_aload_n C 0 dX9_parseGap_9 rfl ?_
  refine x_iconst C dX9_parseGap_10 ?_
  refine x_put (K := 10) (k := 26) C (isK_lit hdm rfl rfl) (by decide) cl_X9 (by decide) ⟨rfl, rfl, rfl, rfl⟩ fl_X9_281 (by decide +kernel) dX9_parseGap_11 ?_
  refine x_aload_n C 0 dX9_parseGap_14 rfl ?_
  refine x_callVv (K := 10) (rm := rmv 2 46 0 0) (As := []) (rest := []) C hA hR0 mf_X9_goOn lk_X9_252 rfl (isK_lit hdm rfl rfl) (by decide) ⟨rfl, rfl⟩ ⟨Nat.le_of_ble_eq_true rfl, Nat.le_of_ble_eq_true rfl⟩ rfl rfl (Nat.le_of_ble_eq_true rfl) hce dX9_parseGap_15 hq (fun _ h => c_X9_goOn g.l g.G hdm  h) (fun w2 _ hq => ?_)
  refine x_aload_n C 0 dX9_parseGap_18 rfl ?_
  refine x_getrow C hdm cl_X9 rfl ⟨rfl, rfl, rfl⟩ fl_X9_24 dX9_parseGap_19 (fun q3 => ?_)
  refine x_iconst C dX9_parseGap_22 ?_
  refine x_aload_n C 0 dX9_parseGap_23 rfl ?_
  refine x_iconst C dX9_parseGap_24 ?_
  refine x_iconst C dX9_parseGap_25 ?_
  refine x_callVi (K := 10) (rm := rmv 3 66 0 0) (As := [iV (0), iV (3)]) (rest := [iV (2), .ref (d.ad (gP w2 50 3))]) C hA hR0 mf_X9_number lk_X9_265 rfl (isK_lit hdm rfl rfl) (by decide) ⟨rfl, rfl⟩ ⟨Nat.le_of_ble_eq_true rfl, Nat.le_of_ble_eq_true rfl⟩ rfl rfl (Nat.le_of_ble_eq_true rfl) hce dX9_parseGap_26 hq (fun _ _ h => c_X9_number g.l g.G hdm  h) (fun r5 w4 _ hq => ?_)
  refine inb_2 hq (fun hi hq => ?_)
  refine x_iast C (okR_K hdm q3) (by rw [okR_ln q3]; exact hi) dX9_parseGap_29 ?_
  refine x_aload_n C 0 dX9_parseGap_30 rfl ?_
  refine x_callVv (K := 10) (rm := rmv 3 66 0 0) (As := []) (rest := []) C hA hR0 mf_X9_semicolon lk_X9_268 rfl (isK_lit hdm rfl rfl) (by decide) ⟨rfl, rfl⟩ ⟨Nat.le_of_ble_eq_true rfl, Nat.le_of_ble_eq_true rfl⟩ rfl rfl (Nat.le_of_ble_eq_true rfl) hce dX9_parseGap_31 hq (fun _ h => c_X9_semicolon g.l g.G hdm  h) (fun w6 _ hq => ?_)
  exact hR _ _ _ hq dX9_parseGap_34
set_option maxRecDepth 100000 in
set_option maxHeartbeats 4000000 in
theorem c_X9_parseGap (l : Launch) (G : Gd) {dm na : Nat} {ad : Nat → Nat} (hdm : dm = 1)  {w w' : Wd}   (hq : p_X9_parseGap  w = some w') : mV l yX9_parseGap cX9_parseGap 1 none (rmv 4 89 0 0) G dm na ad [.ref (ad (50))] w w' := by
  refine met_V [(0, .ref (ad (50)))] (by decide) (Nat.le_of_ble_eq_true rfl) rfl rfl (fun g d C S hR => ?_)
  obtain ⟨rfl, hR0, rfl, rfl, rfl, hA⟩ := S
  exact L_X9_parseGap (d := (na, ad, 0, 0)) C hdm hA hR0 ⟨Nat.zero_le _, Nat.zero_le _⟩ hR   w hq
set_option maxRecDepth 100000 in
set_option maxHeartbeats 4000000 in
theorem L_X9_parseChisel {g : Cx} {d : Dl} (C : CX g cX9_parseChisel 1 none RX9) (hdm : g.dm = 1) (hA : ∀ q : Nat, g.s.heap.size ≤ q → g.A q) (hR0 : g.R = rmv 4 89 0 0) (hce : d.ce ≤ g.R.cells ∧ d.so ≤ g.R.slots) {res : Wd} (hR : rtV g d cX9_parseChisel res)  (w : Wd) (hq : p_X9_parseChisel  w = some res) : XG g d (hP g d w) [(0, .ref (d.ad (50)))] [] 0 := by
  refine x_aload_n C 0 dX9_parseChisel_0 rfl ?_
  refine x_aload_n C 0 dX9_parseChisel_1 rfl ?_
  refine x_get (K := 10) (k := 27) C (isK_lit hdm rfl rfl) (by decide) cl_X9 (by decide) ⟨rfl, rfl, rfl⟩ fl_X9_285 dX9_parseChisel_2 ?_
  refine x_iconst C dX9_parseChisel_5 ?_
  refine x_callVv (K := 10) (rm := rmv 2 41 0 0) (As := [iV (gF w 50 27), iV (3)]) (rest := []) C hA hR0 mf_X9_errsIf lk_X9_274 rfl (isK_lit hdm rfl rfl) (by decide) ⟨rfl, rfl⟩ ⟨Nat.le_of_ble_eq_true rfl, Nat.le_of_ble_eq_true rfl⟩ rfl rfl (Nat.le_of_ble_eq_true rfl) hce dX9_parseChisel_6 hq (fun _ h => c_X9_errsIf g.l g.G hdm  h) (fun w1 _ hq => ?_)
  refine x_aload_n C 0 dX9_parseChisel_9 rfl ?_
  refine x_iconst C dX9_parseChisel_10 ?_
  refine x_put (K := 10) (k := 27) C (isK_lit hdm rfl rfl) (by decide) cl_X9 (by decide) ⟨rfl, rfl, rfl, rfl⟩ fl_X9_285 (by decide +kernel) dX9_parseChisel_11 ?_
  refine x_aload_n C 0 dX9_parseChisel_14 rfl ?_
  refine x_callVv (K := 10) (rm := rmv 2 46 0 0) (As := []) (rest := []) C hA hR0 mf_X9_goOn lk_X9_252 rfl (isK_lit hdm rfl rfl) (by decide) ⟨rfl, rfl⟩ ⟨Nat.le_of_ble_eq_true rfl, Nat.le_of_ble_eq_true rfl⟩ rfl rfl (Nat.le_of_ble_eq_true rfl) hce dX9_parseChisel_15 hq (fun _ h => c_X9_goOn g.l g.G hdm  h) (fun w2 _ hq => ?_)
  refine x_aload_n C 0 dX9_parseChisel_18 rfl ?_
  refine x_getrow C hdm cl_X9 rfl ⟨rfl, rfl, rfl⟩ fl_X9_24 dX9_parseChisel_19 (fun q3 => ?_)
  refine x_iconst C dX9_parseChisel_22 ?_
  refine x_aload_n C 0 dX9_parseChisel_23 rfl ?_
  refine x_iconst C dX9_parseChisel_24 ?_
  refine x_sipush (v := 999) C dX9_parseChisel_25 (by decide +kernel) ?_
  refine x_callVi (K := 10) (rm := rmv 3 66 0 0) (As := [iV (1), iV (999)]) (rest := [iV (3), .ref (d.ad (gP w2 50 3))]) C hA hR0 mf_X9_number lk_X9_265 rfl (isK_lit hdm rfl rfl) (by decide) ⟨rfl, rfl⟩ ⟨Nat.le_of_ble_eq_true rfl, Nat.le_of_ble_eq_true rfl⟩ rfl rfl (Nat.le_of_ble_eq_true rfl) hce dX9_parseChisel_28 hq (fun _ _ h => c_X9_number g.l g.G hdm  h) (fun r5 w4 _ hq => ?_)
  refine inb_2 hq (fun hi hq => ?_)
  refine x_iast C (okR_K hdm q3) (by rw [okR_ln q3]; exact hi) dX9_parseChisel_31 ?_
  refine x_aload_n C 0 dX9_parseChisel_32 rfl ?_
  refine x_getrow C hdm cl_X9 rfl ⟨rfl, rfl, rfl⟩ fl_X9_24 dX9_parseChisel_33 (fun q6 => ?_)
  refine x_iconst C dX9_parseChisel_36 ?_
  refine x_aload_n C 0 dX9_parseChisel_37 rfl ?_
  refine x_iconst C dX9_parseChisel_38 ?_
  refine x_bipush (v := 99) C dX9_parseChisel_39 (by decide +kernel) ?_
  refine x_callVi (K := 10) (rm := rmv 3 66 0 0) (As := [iV (0), iV (99)]) (rest := [iV (4), .ref (d.ad (gP (sA w4 (gP w2 50 3) 3 r5) 50 3))]) C hA hR0 mf_X9_number lk_X9_265 rfl (isK_lit hdm rfl rfl) (by decide) ⟨rfl, rfl⟩ ⟨Nat.le_of_ble_eq_true rfl, Nat.le_of_ble_eq_true rfl⟩ rfl rfl (Nat.le_of_ble_eq_true rfl) hce dX9_parseChisel_41 hq (fun _ _ h => c_X9_number g.l g.G hdm  h) (fun r8 w7 _ hq => ?_)
  refine inb_2 hq (fun hi hq => ?_)
  refine x_iast C (okR_K hdm q6) (by rw [okR_ln q6]; exact hi) dX9_parseChisel_44 ?_
  refine nmW hq (fun w9 ew9 hq => ?_)
  rw [← ew9]
  refine x_aload_n C 0 dX9_parseChisel_45 rfl ?_
  refine x_callVv (K := 10) (rm := rmv 3 66 0 0) (As := []) (rest := []) C hA hR0 mf_X9_semicolon lk_X9_268 rfl (isK_lit hdm rfl rfl) (by decide) ⟨rfl, rfl⟩ ⟨Nat.le_of_ble_eq_true rfl, Nat.le_of_ble_eq_true rfl⟩ rfl rfl (Nat.le_of_ble_eq_true rfl) hce dX9_parseChisel_46 hq (fun _ h => c_X9_semicolon g.l g.G hdm  h) (fun w10 _ hq => ?_)
  exact hR _ _ _ hq dX9_parseChisel_49
set_option maxRecDepth 100000 in
set_option maxHeartbeats 4000000 in
theorem c_X9_parseChisel (l : Launch) (G : Gd) {dm na : Nat} {ad : Nat → Nat} (hdm : dm = 1)  {w w' : Wd}   (hq : p_X9_parseChisel  w = some w') : mV l yX9_parseChisel cX9_parseChisel 1 none (rmv 4 89 0 0) G dm na ad [.ref (ad (50))] w w' := by
  refine met_V [(0, .ref (ad (50)))] (by decide) (Nat.le_of_ble_eq_true rfl) rfl rfl (fun g d C S hR => ?_)
  obtain ⟨rfl, hR0, rfl, rfl, rfl, hA⟩ := S
  exact L_X9_parseChisel (d := (na, ad, 0, 0)) C hdm hA hR0 ⟨Nat.zero_le _, Nat.zero_le _⟩ hR   w hq
set_option maxRecDepth 100000 in
set_option maxHeartbeats 4000000 in
theorem L_X9_addWord_70 {g : Cx} {d : Dl} (C : CX g cX9_addWord 3 none RX9) (hdm : g.dm = 1) (hA : ∀ q : Nat, g.s.heap.size ≤ q → g.A q) (hR0 : g.R = rmv 0 0 0 0) (hce : d.ce ≤ g.R.cells ∧ d.so ≤ g.R.slots) {res : Wd} (hR : rtV g d cX9_addWord res)  (w : Wd) (hq : p_X9_addWord_70 w = some res) : XG g d (hP g d w) [(0, .ref (d.ad (50)))] [] 70 := by
  refine x_aload_n C 0 dX9_addWord_70 rfl ?_
  refine x_getrow C hdm cl_X9 rfl ⟨rfl, rfl, rfl⟩ fl_X9_24 dX9_addWord_71 (fun q1 => ?_)
  refine x_bipush (v := 10) C dX9_addWord_74 (by decide +kernel) ?_
  refine x_dup2 C rfl rfl dX9_addWord_76 ?_
  refine inb_2 hq (fun hi hq => ?_)
  refine x_iald C (okR_K hdm q1) (by rw [okR_ln q1]; exact hi) dX9_addWord_77 ?_
  refine x_iconst C dX9_addWord_78 ?_
  refine x_iadd C dX9_addWord_79 ?_
  refine inb_2 hq (fun hi hq => ?_)
  refine x_iast C (okR_K hdm q1) (by rw [okR_ln q1]; exact hi) dX9_addWord_80 ?_
  exact hR _ _ _ hq dX9_addWord_81
set_option maxRecDepth 100000 in
set_option maxHeartbeats 4000000 in
theorem L_X9_addWord_35 {g : Cx} {d : Dl} (C : CX g cX9_addWord 3 none RX9) (hdm : g.dm = 1) (hA : ∀ q : Nat, g.s.heap.size ≤ q → g.A q) (hR0 : g.R = rmv 0 0 0 0) (hce : d.ce ≤ g.R.cells ∧ d.so ≤ g.R.slots) {res : Wd} (hR : rtV g d cX9_addWord res) : ∀ (n : Nat) (x1 : Int) (x2 : Int) (w : Wd), p_X9_addWord_35 n x1 x2 w = some res → XG g d (hP g d w) [(0, .ref (d.ad (50))), (1, iV (x1)), (2, iV (x2))] [] 35 := by
  intro n
  induction n with
  | zero => intro x1 x2 w  hq; exact nomatch (show none = some _ from hq)
  | succ n ih =>
    intro x1 x2 w  hq
    refine x_iload_n C 2 dX9_addWord_35 rfl ?_
    refine x_aload_n C 0 dX9_addWord_36 rfl ?_
    refine x_get (K := 10) (k := 20) C (isK_lit hdm rfl rfl) (by decide) cl_X9 (by decide) ⟨rfl, rfl, rfl⟩ fl_X9_211 dX9_addWord_37 ?_
    refine x_icmp_ge (tgt := 70) C dX9_addWord_40 (by decide) hq (fun hq => ?_) (fun hq => ?_)
    · refine XG.sub [0] rfl ?_
      exact L_X9_addWord_70 C hdm hA hR0 hce hR _ hq
    · refine x_aload_n C 0 dX9_addWord_43 rfl ?_
      refine x_getrow C hdm cl_X9 rfl ⟨rfl, rfl, rfl⟩ fl_X9_24 dX9_addWord_44 (fun q1 => ?_)
      refine x_iload_n C 1 dX9_addWord_47 rfl ?_
      refine x_iconst C dX9_addWord_48 ?_
      refine x_iadd C dX9_addWord_49 ?_
      refine x_iload_n C 2 dX9_addWord_50 rfl ?_
      refine x_iadd C dX9_addWord_51 ?_
      refine x_aload_n C 0 dX9_addWord_52 rfl ?_
      refine x_get (K := 10) (k := 21) C (isK_lit hdm rfl rfl) (by decide) cl_X9 (by decide) ⟨rfl, rfl, rfl⟩ fl_X9_205 dX9_addWord_53 ?_
      refine x_isub C dX9_addWord_56 ?_
      refine x_aload_n C 0 dX9_addWord_57 rfl ?_
      refine x_getr (K := 10) (k := 17) (o2 := 60) C (isK_lit hdm rfl rfl) (by decide) cl_X9 (by decide) ⟨rfl, rfl, rfl⟩ fl_X9_48 rfl dX9_addWord_58 ?_
      refine x_iload_n C 2 dX9_addWord_61 rfl ?_
      refine inb_2 hq (fun hi hq => ?_)
      refine x_bald C (isK_lit hdm rfl rfl) hi dX9_addWord_62 ?_
      refine inb_2 hq (fun hi hq => ?_)
      refine x_iast C (okR_K hdm q1) (by rw [okR_ln q1]; exact hi) dX9_addWord_63 ?_
      refine x_iinc (lv' := [(2, iV (x2 + 1)), (0, .ref (d.ad (50))), (1, iV (x1))]) C 2 dX9_addWord_64 rfl (by decide) rfl ?_
      refine x_goto (tgt := 35) C dX9_addWord_67 (by decide) ?_
      refine XG.sub [1, 2, 0] rfl ?_
      exact ih _ _ _ hq
set_option maxRecDepth 100000 in
set_option maxHeartbeats 4000000 in
theorem L_X9_addWord {g : Cx} {d : Dl} (C : CX g cX9_addWord 3 none RX9) (hdm : g.dm = 1) (hA : ∀ q : Nat, g.s.heap.size ≤ q → g.A q) (hR0 : g.R = rmv 0 0 0 0) (hce : d.ce ≤ g.R.cells ∧ d.so ≤ g.R.slots) {res : Wd} (hR : rtV g d cX9_addWord res)  (w : Wd) (hq : p_X9_addWord  w = some res) : XG g d (hP g d w) [(0, .ref (d.ad (50)))] [] 0 := by
  refine x_sipush (v := 319) C dX9_addWord_0 (by decide +kernel) ?_
  refine x_bipush (v := 13) C dX9_addWord_3 (by decide +kernel) ?_
  refine x_aload_n C 0 dX9_addWord_5 rfl ?_
  refine x_getrow C hdm cl_X9 rfl ⟨rfl, rfl, rfl⟩ fl_X9_24 dX9_addWord_6 (fun q1 => ?_)
  refine x_bipush (v := 10) C dX9_addWord_9 (by decide +kernel) ?_
  refine inb_2 hq (fun hi hq => ?_)
  refine x_iald C (okR_K hdm q1) (by rw [okR_ln q1]; exact hi) dX9_addWord_11 ?_
  refine x_imul C dX9_addWord_12 ?_
  refine x_iadd C dX9_addWord_13 ?_
  refine x_istore_n (lv' := [(1, iV (319 + (13 * (gA w (gP w 50 3) 10)))), (0, .ref (d.ad (50)))]) C dX9_addWord_14 (by decide) rfl ?_
  refine x_aload_n C 1 dX9_addWord_15 rfl ?_
  refine x_getrow C hdm cl_X9 rfl ⟨rfl, rfl, rfl⟩ fl_X9_24 dX9_addWord_16 (fun q2 => ?_)
  refine x_iload_n C 0 dX9_addWord_19 rfl ?_
  refine x_aload_n C 1 dX9_addWord_20 rfl ?_
  refine x_get (K := 10) (k := 20) C (isK_lit hdm rfl rfl) (by decide) cl_X9 (by decide) ⟨rfl, rfl, rfl⟩ fl_X9_211 dX9_addWord_21 ?_
  refine x_aload_n C 1 dX9_addWord_24 rfl ?_
  refine x_get (K := 10) (k := 21) C (isK_lit hdm rfl rfl) (by decide) cl_X9 (by decide) ⟨rfl, rfl, rfl⟩ fl_X9_205 dX9_addWord_25 ?_
  refine x_isub C dX9_addWord_28 ?_
  refine inb_2 hq (fun hi hq => ?_)
  refine x_iast C (okR_K hdm q2) (by rw [okR_ln q2]; exact hi) dX9_addWord_29 ?_
  refine x_aload_n C 1 dX9_addWord_30 rfl ?_
  refine x_get (K := 10) (k := 21) C (isK_lit hdm rfl rfl) (by decide) cl_X9 (by decide) ⟨rfl, rfl, rfl⟩ fl_X9_205 dX9_addWord_31 ?_
  refine x_istore_n (lv' := [(2, iV (gF (sA w (gP w 50 3) (319 + (13 * (gA w (gP w 50 3) 10))) ((gF w 50 20) - (gF w 50 21))) 50 21)), (1, iV (319 + (13 * (gA w (gP w 50 3) 10)))), (0, .ref (d.ad (50)))]) C dX9_addWord_34 (by decide) rfl ?_
  refine XG.sub [2, 1, 0] rfl ?_
  exact L_X9_addWord_35 C hdm hA hR0 hce hR _ _ _ _ hq
set_option maxRecDepth 100000 in
set_option maxHeartbeats 4000000 in
theorem c_X9_addWord (l : Launch) (G : Gd) {dm na : Nat} {ad : Nat → Nat} (hdm : dm = 1)  {w w' : Wd}   (hq : p_X9_addWord  w = some w') : mV l yX9_addWord cX9_addWord 3 none (rmv 0 0 0 0) G dm na ad [.ref (ad (50))] w w' := by
  refine met_V [(0, .ref (ad (50)))] (by decide) (Nat.le_of_ble_eq_true rfl) rfl rfl (fun g d C S hR => ?_)
  obtain ⟨rfl, hR0, rfl, rfl, rfl, hA⟩ := S
  exact L_X9_addWord (d := (na, ad, 0, 0)) C hdm hA hR0 ⟨Nat.zero_le _, Nat.zero_le _⟩ hR   w hq
set_option maxRecDepth 100000 in
set_option maxHeartbeats 4000000 in
theorem L_X9_takeW_90 {g : Cx} {d : Dl} (C : CX g cX9_takeW 1 none RX9) (hdm : g.dm = 1) (hA : ∀ q : Nat, g.s.heap.size ≤ q → g.A q) (hR0 : g.R = rmv 3 66 0 0) (hce : d.ce ≤ g.R.cells ∧ d.so ≤ g.R.slots) {res : Wd} (hR : rtV g d cX9_takeW res)  (w : Wd) (hq : p_X9_takeW_90 w = some res) : XG g d (hP g d w) [(0, .ref (d.ad (50)))] [] 90 := by
  refine x_aload_n C 0 dX9_takeW_90 rfl ?_
  refine x_callVv (K := 10) (rm := rmv 2 46 0 0) (As := []) (rest := []) C hA hR0 mf_X9_goOn lk_X9_252 rfl (isK_lit hdm rfl rfl) (by decide) ⟨rfl, rfl⟩ ⟨Nat.le_of_ble_eq_true rfl, Nat.le_of_ble_eq_true rfl⟩ rfl rfl (Nat.le_of_ble_eq_true rfl) hce dX9_takeW_91 hq (fun _ h => c_X9_goOn g.l g.G hdm  h) (fun w1 _ hq => ?_)
  exact hR _ _ _ hq dX9_takeW_94
set_option maxRecDepth 100000 in
set_option maxHeartbeats 4000000 in
theorem L_X9_takeW_75 {g : Cx} {d : Dl} (C : CX g cX9_takeW 1 none RX9) (hdm : g.dm = 1) (hA : ∀ q : Nat, g.s.heap.size ≤ q → g.A q) (hR0 : g.R = rmv 3 66 0 0) (hce : d.ce ≤ g.R.cells ∧ d.so ≤ g.R.slots) {res : Wd} (hR : rtV g d cX9_takeW res) (s0 : Int) (w : Wd) (hq : p_X9_takeW_75 s0 w = some res) : XG g d (hP g d w) [(0, .ref (d.ad (50)))] [iV (s0), .ref (d.ad (50))] 75 := by
  refine x_iconst C dX9_takeW_75 ?_
  refine x_callVv (K := 10) (rm := rmv 2 41 0 0) (As := [iV (s0), iV (5)]) (rest := []) C hA hR0 mf_X9_errsIf lk_X9_274 rfl (isK_lit hdm rfl rfl) (by decide) ⟨rfl, rfl⟩ ⟨Nat.le_of_ble_eq_true rfl, Nat.le_of_ble_eq_true rfl⟩ rfl rfl (Nat.le_of_ble_eq_true rfl) hce dX9_takeW_76 hq (fun _ h => c_X9_errsIf g.l g.G hdm  h) (fun w1 _ hq => ?_)
  refine x_aload_n C 0 dX9_takeW_79 rfl ?_
  refine x_callVi (K := 10) (rm := rmv 0 0 0 0) (As := []) (rest := []) C hA hR0 mf_X9_good lk_X9_201 rfl (isK_lit hdm rfl rfl) (by decide) ⟨rfl, rfl⟩ ⟨Nat.le_of_ble_eq_true rfl, Nat.le_of_ble_eq_true rfl⟩ rfl rfl (Nat.le_of_ble_eq_true rfl) hce dX9_takeW_80 hq (fun _ _ h => c_X9_good g.l g.G hdm  h) (fun r3 w2 _ hq => ?_)
  refine x_if_eq (tgt := 90) C dX9_takeW_83 (by decide) hq (fun hq => ?_) (fun hq => ?_)
  · exact L_X9_takeW_90 C hdm hA hR0 hce hR _ hq
  · refine x_aload_n C 0 dX9_takeW_86 rfl ?_
    refine x_callVv (K := 10) (rm := rmv 0 0 0 0) (As := []) (rest := []) C hA hR0 mf_X9_addWord lk_X9_291 rfl (isK_lit hdm rfl rfl) (by decide) ⟨rfl, rfl⟩ ⟨Nat.le_of_ble_eq_true rfl, Nat.le_of_ble_eq_true rfl⟩ rfl rfl (Nat.le_of_ble_eq_true rfl) hce dX9_takeW_87 hq (fun _ h => c_X9_addWord g.l g.G hdm  h) (fun w4 _ hq => ?_)
    exact L_X9_takeW_90 C hdm hA hR0 hce hR _ hq
set_option maxRecDepth 100000 in
set_option maxHeartbeats 4000000 in
theorem L_X9_takeW_53 {g : Cx} {d : Dl} (C : CX g cX9_takeW 1 none RX9) (hdm : g.dm = 1) (hA : ∀ q : Nat, g.s.heap.size ≤ q → g.A q) (hR0 : g.R = rmv 3 66 0 0) (hce : d.ce ≤ g.R.cells ∧ d.so ≤ g.R.slots) {res : Wd} (hR : rtV g d cX9_takeW res) (s0 : Int) (w : Wd) (hq : p_X9_takeW_53 s0 w = some res) : XG g d (hP g d w) [(0, .ref (d.ad (50)))] [iV (s0), .ref (d.ad (50))] 53 := by
  refine x_iconst C dX9_takeW_53 ?_
  refine x_callVv (K := 10) (rm := rmv 2 41 0 0) (As := [iV (s0), iV (4)]) (rest := []) C hA hR0 mf_X9_errsIf lk_X9_274 rfl (isK_lit hdm rfl rfl) (by decide) ⟨rfl, rfl⟩ ⟨Nat.le_of_ble_eq_true rfl, Nat.le_of_ble_eq_true rfl⟩ rfl rfl (Nat.le_of_ble_eq_true rfl) hce dX9_takeW_54 hq (fun _ h => c_X9_errsIf g.l g.G hdm  h) (fun w1 _ hq => ?_)
  refine x_aload_n C 0 dX9_takeW_57 rfl ?_
  refine x_aload_n C 0 dX9_takeW_58 rfl ?_
  refine x_getrow C hdm cl_X9 rfl ⟨rfl, rfl, rfl⟩ fl_X9_24 dX9_takeW_59 (fun q2 => ?_)
  refine x_bipush (v := 10) C dX9_takeW_62 (by decide +kernel) ?_
  refine inb_2 hq (fun hi hq => ?_)
  refine x_iald C (okR_K hdm q2) (by rw [okR_ln q2]; exact hi) dX9_takeW_64 ?_
  refine x_bipush (v := 60) C dX9_takeW_65 (by decide +kernel) ?_
  refine x_icmp_ne (tgt := 74) C dX9_takeW_67 (by decide) hq (fun hq => ?_) (fun hq => ?_)
  · refine x_iconst C dX9_takeW_74 ?_
    exact L_X9_takeW_75 C hdm hA hR0 hce hR _ _ hq
  · refine x_iconst C dX9_takeW_70 ?_
    refine x_goto (tgt := 75) C dX9_takeW_71 (by decide) ?_
    exact L_X9_takeW_75 C hdm hA hR0 hce hR _ _ hq
set_option maxRecDepth 100000 in
set_option maxHeartbeats 4000000 in
theorem L_X9_takeW_27 {g : Cx} {d : Dl} (C : CX g cX9_takeW 1 none RX9) (hdm : g.dm = 1) (hA : ∀ q : Nat, g.s.heap.size ≤ q → g.A q) (hR0 : g.R = rmv 3 66 0 0) (hce : d.ce ≤ g.R.cells ∧ d.so ≤ g.R.slots) {res : Wd} (hR : rtV g d cX9_takeW res) (s0 : Int) (w : Wd) (hq : p_X9_takeW_27 s0 w = some res) : XG g d (hP g d w) [(0, .ref (d.ad (50)))] [iV (s0), .ref (d.ad (50))] 27 := by
  refine x_iconst C dX9_takeW_27 ?_
  refine x_callVv (K := 10) (rm := rmv 2 41 0 0) (As := [iV (s0), iV (1)]) (rest := []) C hA hR0 mf_X9_errsIf lk_X9_274 rfl (isK_lit hdm rfl rfl) (by decide) ⟨rfl, rfl⟩ ⟨Nat.le_of_ble_eq_true rfl, Nat.le_of_ble_eq_true rfl⟩ rfl rfl (Nat.le_of_ble_eq_true rfl) hce dX9_takeW_28 hq (fun _ h => c_X9_errsIf g.l g.G hdm  h) (fun w1 _ hq => ?_)
  refine x_aload_n C 0 dX9_takeW_31 rfl ?_
  refine x_aload_n C 0 dX9_takeW_32 rfl ?_
  refine x_get (K := 10) (k := 20) C (isK_lit hdm rfl rfl) (by decide) cl_X9 (by decide) ⟨rfl, rfl, rfl⟩ fl_X9_211 dX9_takeW_33 ?_
  refine x_aload_n C 0 dX9_takeW_36 rfl ?_
  refine x_get (K := 10) (k := 21) C (isK_lit hdm rfl rfl) (by decide) cl_X9 (by decide) ⟨rfl, rfl, rfl⟩ fl_X9_205 dX9_takeW_37 ?_
  refine x_isub C dX9_takeW_40 ?_
  refine x_aload_n C 0 dX9_takeW_41 rfl ?_
  refine x_callVi (K := 10) (rm := rmv 0 0 0 0) (As := []) (rest := [iV ((gF w1 50 20) - (gF w1 50 21)), .ref (d.ad (50))]) C hA hR0 mf_X9_wide lk_X9_71 rfl (isK_lit hdm rfl rfl) (by decide) ⟨rfl, rfl⟩ ⟨Nat.le_of_ble_eq_true rfl, Nat.le_of_ble_eq_true rfl⟩ rfl rfl (Nat.le_of_ble_eq_true rfl) hce dX9_takeW_42 hq (fun _ _ h => c_X9_wide g.l g.G hdm  h) (fun r3 w2 _ hq => ?_)
  refine x_icmp_le (tgt := 52) C dX9_takeW_45 (by decide) hq (fun hq => ?_) (fun hq => ?_)
  · refine x_iconst C dX9_takeW_52 ?_
    exact L_X9_takeW_53 C hdm hA hR0 hce hR _ _ hq
  · refine x_iconst C dX9_takeW_48 ?_
    refine x_goto (tgt := 53) C dX9_takeW_49 (by decide) ?_
    exact L_X9_takeW_53 C hdm hA hR0 hce hR _ _ hq
set_option maxRecDepth 100000 in
set_option maxHeartbeats 4000000 in
theorem L_X9_takeW_22 {g : Cx} {d : Dl} (C : CX g cX9_takeW 1 none RX9) (hdm : g.dm = 1) (hA : ∀ q : Nat, g.s.heap.size ≤ q → g.A q) (hR0 : g.R = rmv 3 66 0 0) (hce : d.ce ≤ g.R.cells ∧ d.so ≤ g.R.slots) {res : Wd} (hR : rtV g d cX9_takeW res)  (w : Wd) (hq : p_X9_takeW_22 w = some res) : XG g d (hP g d w) [(0, .ref (d.ad (50)))] [.ref (d.ad (50))] 22 := by
  refine x_iconst C dX9_takeW_22 ?_
  refine x_goto (tgt := 27) C dX9_takeW_23 (by decide) ?_
  exact L_X9_takeW_27 C hdm hA hR0 hce hR _ _ hq
set_option maxRecDepth 100000 in
set_option maxHeartbeats 4000000 in
theorem L_X9_takeW {g : Cx} {d : Dl} (C : CX g cX9_takeW 1 none RX9) (hdm : g.dm = 1) (hA : ∀ q : Nat, g.s.heap.size ≤ q → g.A q) (hR0 : g.R = rmv 3 66 0 0) (hce : d.ce ≤ g.R.cells ∧ d.so ≤ g.R.slots) {res : Wd} (hR : rtV g d cX9_takeW res)  (w : Wd) (hq : p_X9_takeW  w = some res) : XG g d (hP g d w) [(0, .ref (d.ad (50)))] [] 0 := by
  refine x_aload_n C 0 dX9_takeW_0 rfl ?_
  refine x_aload_n C 0 dX9_takeW_1 rfl ?_
  refine x_callVi (K := 10) (rm := rmv 0 0 0 0) (As := []) (rest := [.ref (d.ad (50))]) C hA hR0 mf_X9_isW lk_X9_288 rfl (isK_lit hdm rfl rfl) (by decide) ⟨rfl, rfl⟩ ⟨Nat.le_of_ble_eq_true rfl, Nat.le_of_ble_eq_true rfl⟩ rfl rfl (Nat.le_of_ble_eq_true rfl) hce dX9_takeW_2 hq (fun _ _ h => c_X9_isW g.l g.G hdm  h) (fun r2 w1 _ hq => ?_)
  refine x_if_eq (tgt := 22) C dX9_takeW_5 (by decide) hq (fun hq => ?_) (fun hq => ?_)
  · exact L_X9_takeW_22 C hdm hA hR0 hce hR _ hq
  · refine x_aload_n C 0 dX9_takeW_8 rfl ?_
    refine x_get (K := 10) (k := 20) C (isK_lit hdm rfl rfl) (by decide) cl_X9 (by decide) ⟨rfl, rfl, rfl⟩ fl_X9_211 dX9_takeW_9 ?_
    refine x_aload_n C 0 dX9_takeW_12 rfl ?_
    refine x_get (K := 10) (k := 21) C (isK_lit hdm rfl rfl) (by decide) cl_X9 (by decide) ⟨rfl, rfl, rfl⟩ fl_X9_205 dX9_takeW_13 ?_
    refine x_isub C dX9_takeW_16 ?_
    refine x_bipush (v := 12) C dX9_takeW_17 (by decide +kernel) ?_
    refine x_icmp_le (tgt := 26) C dX9_takeW_19 (by decide) hq (fun hq => ?_) (fun hq => ?_)
    · refine x_iconst C dX9_takeW_26 ?_
      exact L_X9_takeW_27 C hdm hA hR0 hce hR _ _ hq
    · exact L_X9_takeW_22 C hdm hA hR0 hce hR _ hq
set_option maxRecDepth 100000 in
set_option maxHeartbeats 4000000 in
theorem c_X9_takeW (l : Launch) (G : Gd) {dm na : Nat} {ad : Nat → Nat} (hdm : dm = 1)  {w w' : Wd}   (hq : p_X9_takeW  w = some w') : mV l yX9_takeW cX9_takeW 1 none (rmv 3 66 0 0) G dm na ad [.ref (ad (50))] w w' := by
  refine met_V [(0, .ref (ad (50)))] (by decide) (Nat.le_of_ble_eq_true rfl) rfl rfl (fun g d C S hR => ?_)
  obtain ⟨rfl, hR0, rfl, rfl, rfl, hA⟩ := S
  exact L_X9_takeW (d := (na, ad, 0, 0)) C hdm hA hR0 ⟨Nat.zero_le _, Nat.zero_le _⟩ hR   w hq
set_option maxRecDepth 100000 in
set_option maxHeartbeats 4000000 in
theorem L_X9_addPartOf {g : Cx} {d : Dl} (C : CX g cX9_addPartOf 4 none RX9) (hdm : g.dm = 1) (hA : ∀ q : Nat, g.s.heap.size ≤ q → g.A q) (hR0 : g.R = rmv 0 0 0 0) (hce : d.ce ≤ g.R.cells ∧ d.so ≤ g.R.slots) {res : Wd} (hR : rtV g d cX9_addPartOf res) (x1 : Int) (x2 : Int) (w : Wd) (hq : p_X9_addPartOf x1 x2 w = some res) : XG g d (hP g d w) [(0, .ref (d.ad (50))), (1, iV (x1)), (2, iV (x2))] [] 0 := by
  refine x_aload_n C 0 dX9_addPartOf_0 rfl ?_
  refine x_getrow C hdm cl_X9 rfl ⟨rfl, rfl, rfl⟩ fl_X9_24 dX9_addPartOf_1 (fun q1 => ?_)
  refine x_bipush (v := 9) C dX9_addPartOf_4 (by decide +kernel) ?_
  refine inb_2 hq (fun hi hq => ?_)
  refine x_iald C (okR_K hdm q1) (by rw [okR_ln q1]; exact hi) dX9_addPartOf_6 ?_
  refine x_istore_n (lv' := [(3, iV (gA w (gP w 50 3) 9)), (0, .ref (d.ad (50))), (1, iV (x1)), (2, iV (x2))]) C dX9_addPartOf_7 (by decide) rfl ?_
  refine x_aload_n C 1 dX9_addPartOf_8 rfl ?_
  refine x_getrow C hdm cl_X9 rfl ⟨rfl, rfl, rfl⟩ fl_X9_24 dX9_addPartOf_9 (fun q2 => ?_)
  refine x_sipush (v := 299) C dX9_addPartOf_12 (by decide +kernel) ?_
  refine x_iconst C dX9_addPartOf_15 ?_
  refine x_iload_n C 0 dX9_addPartOf_16 rfl ?_
  refine x_imul C dX9_addPartOf_17 ?_
  refine x_iadd C dX9_addPartOf_18 ?_
  refine x_iconst C dX9_addPartOf_19 ?_
  refine x_iadd C dX9_addPartOf_20 ?_
  refine x_iload_n C 2 dX9_addPartOf_21 rfl ?_
  refine inb_2 hq (fun hi hq => ?_)
  refine x_iast C (okR_K hdm q2) (by rw [okR_ln q2]; exact hi) dX9_addPartOf_22 ?_
  refine x_aload_n C 1 dX9_addPartOf_23 rfl ?_
  refine x_getrow C hdm cl_X9 rfl ⟨rfl, rfl, rfl⟩ fl_X9_24 dX9_addPartOf_24 (fun q3 => ?_)
  refine x_sipush (v := 299) C dX9_addPartOf_27 (by decide +kernel) ?_
  refine x_iconst C dX9_addPartOf_30 ?_
  refine x_iload_n C 0 dX9_addPartOf_31 rfl ?_
  refine x_imul C dX9_addPartOf_32 ?_
  refine x_iadd C dX9_addPartOf_33 ?_
  refine x_iconst C dX9_addPartOf_34 ?_
  refine x_iadd C dX9_addPartOf_35 ?_
  refine x_aload_n C 1 dX9_addPartOf_36 rfl ?_
  refine x_getrow C hdm cl_X9 rfl ⟨rfl, rfl, rfl⟩ fl_X9_24 dX9_addPartOf_37 (fun q4 => ?_)
  refine x_bipush (v := 10) C dX9_addPartOf_40 (by decide +kernel) ?_
  refine inb_2 hq (fun hi hq => ?_)
  refine x_iald C (okR_K hdm q4) (by rw [okR_ln q4]; exact hi) dX9_addPartOf_42 ?_
  refine nmW hq (fun v5 ev5 hq => ?_)
  rw [← ev5]
  refine x_iload_n C 3 dX9_addPartOf_43 rfl ?_
  refine x_isub C dX9_addPartOf_44 ?_
  refine inb_2 hq (fun hi hq => ?_)
  refine x_iast C (okR_K hdm q3) (by rw [okR_ln q3]; exact hi) dX9_addPartOf_45 ?_
  refine nmW hq (fun w6 ew6 hq => ?_)
  rw [← ew6]
  refine x_aload_n C 1 dX9_addPartOf_46 rfl ?_
  refine x_getrow C hdm cl_X9 rfl ⟨rfl, rfl, rfl⟩ fl_X9_24 dX9_addPartOf_47 (fun q7 => ?_)
  refine x_bipush (v := 9) C dX9_addPartOf_50 (by decide +kernel) ?_
  refine x_dup2 C rfl rfl dX9_addPartOf_52 ?_
  refine inb_2 hq (fun hi hq => ?_)
  refine x_iald C (okR_K hdm q7) (by rw [okR_ln q7]; exact hi) dX9_addPartOf_53 ?_
  refine x_iconst C dX9_addPartOf_54 ?_
  refine x_iadd C dX9_addPartOf_55 ?_
  refine inb_2 hq (fun hi hq => ?_)
  refine x_iast C (okR_K hdm q7) (by rw [okR_ln q7]; exact hi) dX9_addPartOf_56 ?_
  exact hR _ _ _ hq dX9_addPartOf_57
set_option maxRecDepth 100000 in
set_option maxHeartbeats 4000000 in
theorem c_X9_addPartOf (l : Launch) (G : Gd) {dm na : Nat} {ad : Nat → Nat} (hdm : dm = 1) {x1 : Int} {x2 : Int} {w w' : Wd}   (hq : p_X9_addPartOf x1 x2 w = some w') : mV l yX9_addPartOf cX9_addPartOf 4 none (rmv 0 0 0 0) G dm na ad [.ref (ad (50)), iV (x1), iV (x2)] w w' := by
  refine met_V [(0, .ref (ad (50))), (1, iV (x1)), (2, iV (x2))] (by decide) (Nat.le_of_ble_eq_true rfl) rfl rfl (fun g d C S hR => ?_)
  obtain ⟨rfl, hR0, rfl, rfl, rfl, hA⟩ := S
  exact L_X9_addPartOf (d := (na, ad, 0, 0)) C hdm hA hR0 ⟨Nat.zero_le _, Nat.zero_le _⟩ hR  _ _ w hq
set_option maxRecDepth 100000 in
set_option maxHeartbeats 4000000 in
theorem L_X9_parsePart_61 {g : Cx} {d : Dl} (C : CX g cX9_parsePart 3 none RX9) (hdm : g.dm = 1) (hA : ∀ q : Nat, g.s.heap.size ≤ q → g.A q) (hR0 : g.R = rmv 4 86 0 0) (hce : d.ce ≤ g.R.cells ∧ d.so ≤ g.R.slots) {res : Wd} (hR : rtV g d cX9_parsePart res) (x1 : Int) (x2 : Int) (w : Wd) (hq : p_X9_parsePart_61 x1 x2 w = some res) : XG g d (hP g d w) [(0, .ref (d.ad (50))), (1, iV (x1)), (2, iV (x2))] [] 61 := by
  refine x_aload_n C 0 dX9_parsePart_61 rfl ?_
  refine x_callVv (K := 10) (rm := rmv 3 66 0 0) (As := []) (rest := []) C hA hR0 mf_X9_semicolon lk_X9_268 rfl (isK_lit hdm rfl rfl) (by decide) ⟨rfl, rfl⟩ ⟨Nat.le_of_ble_eq_true rfl, Nat.le_of_ble_eq_true rfl⟩ rfl rfl (Nat.le_of_ble_eq_true rfl) hce dX9_parsePart_62 hq (fun _ h => c_X9_semicolon g.l g.G hdm  h) (fun w1 _ hq => ?_)
  refine x_aload_n C 0 dX9_parsePart_65 rfl ?_
  refine x_callVi (K := 10) (rm := rmv 0 0 0 0) (As := []) (rest := []) C hA hR0 mf_X9_good lk_X9_201 rfl (isK_lit hdm rfl rfl) (by decide) ⟨rfl, rfl⟩ ⟨Nat.le_of_ble_eq_true rfl, Nat.le_of_ble_eq_true rfl⟩ rfl rfl (Nat.le_of_ble_eq_true rfl) hce dX9_parsePart_66 hq (fun _ _ h => c_X9_good g.l g.G hdm  h) (fun r3 w2 _ hq => ?_)
  refine x_if_eq (tgt := 78) C dX9_parsePart_69 (by decide) hq (fun hq => ?_) (fun hq => ?_)
  · exact hR _ _ _ hq dX9_parsePart_78
  · refine x_aload_n C 0 dX9_parsePart_72 rfl ?_
    refine x_iload_n C 1 dX9_parsePart_73 rfl ?_
    refine x_iload_n C 2 dX9_parsePart_74 rfl ?_
    refine x_callVv (K := 10) (rm := rmv 0 0 0 0) (As := [iV (x1), iV (x2)]) (rest := []) C hA hR0 mf_X9_addPartOf lk_X9_297 rfl (isK_lit hdm rfl rfl) (by decide) ⟨rfl, rfl⟩ ⟨Nat.le_of_ble_eq_true rfl, Nat.le_of_ble_eq_true rfl⟩ rfl rfl (Nat.le_of_ble_eq_true rfl) hce dX9_parsePart_75 hq (fun _ h => c_X9_addPartOf g.l g.G hdm  h) (fun w4 _ hq => ?_)
    exact hR _ _ _ hq dX9_parsePart_78
set_option maxRecDepth 100000 in
set_option maxHeartbeats 4000000 in
theorem L_X9_parsePart_38 {g : Cx} {d : Dl} (C : CX g cX9_parsePart 3 none RX9) (hdm : g.dm = 1) (hA : ∀ q : Nat, g.s.heap.size ≤ q → g.A q) (hR0 : g.R = rmv 4 86 0 0) (hce : d.ce ≤ g.R.cells ∧ d.so ≤ g.R.slots) {res : Wd} (hR : rtV g d cX9_parsePart res) : ∀ (n : Nat) (x1 : Int) (x2 : Int) (w : Wd), p_X9_parsePart_38 n x1 x2 w = some res → XG g d (hP g d w) [(0, .ref (d.ad (50))), (1, iV (x1)), (2, iV (x2))] [] 38 := by
  intro n
  induction n with
  | zero => intro x1 x2 w  hq; exact nomatch (show none = some _ from hq)
  | succ n ih =>
    intro x1 x2 w  hq
    refine x_aload_n C 0 dX9_parsePart_38 rfl ?_
    refine x_callVi (K := 10) (rm := rmv 0 0 0 0) (As := []) (rest := []) C hA hR0 mf_X9_good lk_X9_201 rfl (isK_lit hdm rfl rfl) (by decide) ⟨rfl, rfl⟩ ⟨Nat.le_of_ble_eq_true rfl, Nat.le_of_ble_eq_true rfl⟩ rfl rfl (Nat.le_of_ble_eq_true rfl) hce dX9_parsePart_39 hq (fun _ _ h => c_X9_good g.l g.G hdm  h) (fun r2 w1 _ hq => ?_)
    refine x_if_eq (tgt := 61) C dX9_parsePart_42 (by decide) hq (fun hq => ?_) (fun hq => ?_)
    · exact L_X9_parsePart_61 C hdm hA hR0 hce hR _ _ _ hq
    · refine x_aload_n C 0 dX9_parsePart_45 rfl ?_
      refine x_bipush (v := 59) C dX9_parsePart_46 (by decide +kernel) ?_
      refine x_callVi (K := 10) (rm := rmv 1 20 0 0) (As := [iV (59)]) (rest := []) C hA hR0 mf_X9_isSign lk_X9_278 rfl (isK_lit hdm rfl rfl) (by decide) ⟨rfl, rfl⟩ ⟨Nat.le_of_ble_eq_true rfl, Nat.le_of_ble_eq_true rfl⟩ rfl rfl (Nat.le_of_ble_eq_true rfl) hce dX9_parsePart_48 hq (fun _ _ h => c_X9_isSign g.l g.G hdm  h) (fun r4 w3 _ hq => ?_)
      refine x_if_ne (tgt := 61) C dX9_parsePart_51 (by decide) hq (fun hq => ?_) (fun hq => ?_)
      · exact L_X9_parsePart_61 C hdm hA hR0 hce hR _ _ _ hq
      · refine x_aload_n C 0 dX9_parsePart_54 rfl ?_
        refine x_callVv (K := 10) (rm := rmv 3 66 0 0) (As := []) (rest := []) C hA hR0 mf_X9_takeW lk_X9_294 rfl (isK_lit hdm rfl rfl) (by decide) ⟨rfl, rfl⟩ ⟨Nat.le_of_ble_eq_true rfl, Nat.le_of_ble_eq_true rfl⟩ rfl rfl (Nat.le_of_ble_eq_true rfl) hce dX9_parsePart_55 hq (fun _ h => c_X9_takeW g.l g.G hdm  h) (fun w5 _ hq => ?_)
        refine x_goto (tgt := 38) C dX9_parsePart_58 (by decide) ?_
        exact ih _ _ _ hq
set_option maxRecDepth 100000 in
set_option maxHeartbeats 4000000 in
theorem L_X9_parsePart_18 {g : Cx} {d : Dl} (C : CX g cX9_parsePart 3 none RX9) (hdm : g.dm = 1) (hA : ∀ q : Nat, g.s.heap.size ≤ q → g.A q) (hR0 : g.R = rmv 4 86 0 0) (hce : d.ce ≤ g.R.cells ∧ d.so ≤ g.R.slots) {res : Wd} (hR : rtV g d cX9_parsePart res) (x1 : Int) (s0 : Int) (w : Wd) (hq : p_X9_parsePart_18 x1 s0 w = some res) : XG g d (hP g d w) [(0, .ref (d.ad (50))), (1, iV (x1))] [iV (s0), .ref (d.ad (50))] 18 := by
  refine x_iconst C dX9_parsePart_18 ?_
  refine x_callVv (K := 10) (rm := rmv 2 41 0 0) (As := [iV (s0), iV (5)]) (rest := []) C hA hR0 mf_X9_errsIf lk_X9_274 rfl (isK_lit hdm rfl rfl) (by decide) ⟨rfl, rfl⟩ ⟨Nat.le_of_ble_eq_true rfl, Nat.le_of_ble_eq_true rfl⟩ rfl rfl (Nat.le_of_ble_eq_true rfl) hce dX9_parsePart_19 hq (fun _ h => c_X9_errsIf g.l g.G hdm  h) (fun w1 _ hq => ?_)
  refine x_aload_n C 0 dX9_parsePart_22 rfl ?_
  refine x_callVv (K := 10) (rm := rmv 2 46 0 0) (As := []) (rest := []) C hA hR0 mf_X9_goOn lk_X9_252 rfl (isK_lit hdm rfl rfl) (by decide) ⟨rfl, rfl⟩ ⟨Nat.le_of_ble_eq_true rfl, Nat.le_of_ble_eq_true rfl⟩ rfl rfl (Nat.le_of_ble_eq_true rfl) hce dX9_parsePart_23 hq (fun _ h => c_X9_goOn g.l g.G hdm  h) (fun w2 _ hq => ?_)
  refine x_aload_n C 0 dX9_parsePart_26 rfl ?_
  refine x_getrow C hdm cl_X9 rfl ⟨rfl, rfl, rfl⟩ fl_X9_24 dX9_parsePart_27 (fun q3 => ?_)
  refine x_bipush (v := 10) C dX9_parsePart_30 (by decide +kernel) ?_
  refine inb_2 hq (fun hi hq => ?_)
  refine x_iald C (okR_K hdm q3) (by rw [okR_ln q3]; exact hi) dX9_parsePart_32 ?_
  refine x_istore_n (lv' := [(2, iV (gA w2 (gP w2 50 3) 10)), (0, .ref (d.ad (50))), (1, iV (x1))]) C dX9_parsePart_33 (by decide) rfl ?_
  refine x_aload_n C 1 dX9_parsePart_34 rfl ?_
  refine x_callVv (K := 10) (rm := rmv 3 66 0 0) (As := []) (rest := []) C hA hR0 mf_X9_takeW lk_X9_294 rfl (isK_lit hdm rfl rfl) (by decide) ⟨rfl, rfl⟩ ⟨Nat.le_of_ble_eq_true rfl, Nat.le_of_ble_eq_true rfl⟩ rfl rfl (Nat.le_of_ble_eq_true rfl) hce dX9_parsePart_35 hq (fun _ h => c_X9_takeW g.l g.G hdm  h) (fun w4 _ hq => ?_)
  refine XG.sub [1, 2, 0] rfl ?_
  exact L_X9_parsePart_38 C hdm hA hR0 hce hR _ _ _ _ hq
set_option maxRecDepth 100000 in
set_option maxHeartbeats 4000000 in
theorem L_X9_parsePart {g : Cx} {d : Dl} (C : CX g cX9_parsePart 3 none RX9) (hdm : g.dm = 1) (hA : ∀ q : Nat, g.s.heap.size ≤ q → g.A q) (hR0 : g.R = rmv 4 86 0 0) (hce : d.ce ≤ g.R.cells ∧ d.so ≤ g.R.slots) {res : Wd} (hR : rtV g d cX9_parsePart res) (x1 : Int) (w : Wd) (hq : p_X9_parsePart x1 w = some res) : XG g d (hP g d w) [(0, .ref (d.ad (50))), (1, iV (x1))] [] 0 := by
  refine x_aload_n C 0 dX9_parsePart_0 rfl ?_
  refine x_aload_n C 0 dX9_parsePart_1 rfl ?_
  refine x_getrow C hdm cl_X9 rfl ⟨rfl, rfl, rfl⟩ fl_X9_24 dX9_parsePart_2 (fun q1 => ?_)
  refine x_bipush (v := 9) C dX9_parsePart_5 (by decide +kernel) ?_
  refine inb_2 hq (fun hi hq => ?_)
  refine x_iald C (okR_K hdm q1) (by rw [okR_ln q1]; exact hi) dX9_parsePart_7 ?_
  refine x_bipush (v := 10) C dX9_parsePart_8 (by decide +kernel) ?_
  refine x_icmp_ne (tgt := 17) C dX9_parsePart_10 (by decide) hq (fun hq => ?_) (fun hq => ?_)
  · refine x_iconst C dX9_parsePart_17 ?_
    exact L_X9_parsePart_18 C hdm hA hR0 hce hR _ _ _ hq
  · refine x_iconst C dX9_parsePart_13 ?_
    refine x_goto (tgt := 18) C dX9_parsePart_14 (by decide) ?_
    exact L_X9_parsePart_18 C hdm hA hR0 hce hR _ _ _ hq
set_option maxRecDepth 100000 in
set_option maxHeartbeats 4000000 in
theorem c_X9_parsePart (l : Launch) (G : Gd) {dm na : Nat} {ad : Nat → Nat} (hdm : dm = 1) {x1 : Int} {w w' : Wd}   (hq : p_X9_parsePart x1 w = some w') : mV l yX9_parsePart cX9_parsePart 3 none (rmv 4 86 0 0) G dm na ad [.ref (ad (50)), iV (x1)] w w' := by
  refine met_V [(0, .ref (ad (50))), (1, iV (x1))] (by decide) (Nat.le_of_ble_eq_true rfl) rfl rfl (fun g d C S hR => ?_)
  obtain ⟨rfl, hR0, rfl, rfl, rfl, hA⟩ := S
  exact L_X9_parsePart (d := (na, ad, 0, 0)) C hdm hA hR0 ⟨Nat.zero_le _, Nat.zero_le _⟩ hR  _ w hq
set_option maxRecDepth 100000 in
set_option maxHeartbeats 4000000 in
theorem L_X9_beginText {g : Cx} {d : Dl} (C : CX g cX9_beginText 1 none RX9) (hdm : g.dm = 1) (hA : ∀ q : Nat, g.s.heap.size ≤ q → g.A q) (hR0 : g.R = rmv 0 0 0 0) (hce : d.ce ≤ g.R.cells ∧ d.so ≤ g.R.slots) {res : Wd} (hR : rtV g d cX9_beginText res)  (w : Wd) (hq : p_X9_beginText  w = some res) : XG g d (hP g d w) [(0, .ref (d.ad (50)))] [] 0 := by
  refine x_aload_n C 0 dX9_beginText_0 rfl ?_
  refine x_aload_n C 0 dX9_beginText_1 rfl ?_
  refine x_get (K := 10) (k := 18) C (isK_lit hdm rfl rfl) (by decide) cl_X9 (by decide) ⟨rfl, rfl, rfl⟩ fl_X9_188 dX9_beginText_2 ?_
  refine x_put (K := 10) (k := 19) C (isK_lit hdm rfl rfl) (by decide) cl_X9 (by decide) ⟨rfl, rfl, rfl, rfl⟩ fl_X9_208 ⟨rfl, rfl⟩ dX9_beginText_5 ?_
  refine x_aload_n C 0 dX9_beginText_8 rfl ?_
  refine x_iconst C dX9_beginText_9 ?_
  refine x_put (K := 10) (k := 18) C (isK_lit hdm rfl rfl) (by decide) cl_X9 (by decide) ⟨rfl, rfl, rfl, rfl⟩ fl_X9_188 ⟨rfl, rfl⟩ dX9_beginText_10 ?_
  refine nmW hq (fun w1 ew1 hq => ?_)
  rw [← ew1]
  refine x_aload_n C 0 dX9_beginText_13 rfl ?_
  refine x_iconst C dX9_beginText_14 ?_
  refine x_put (K := 10) (k := 20) C (isK_lit hdm rfl rfl) (by decide) cl_X9 (by decide) ⟨rfl, rfl, rfl, rfl⟩ fl_X9_211 ⟨rfl, rfl⟩ dX9_beginText_15 ?_
  refine x_aload_n C 0 dX9_beginText_18 rfl ?_
  refine x_iconst C dX9_beginText_19 ?_
  refine x_put (K := 10) (k := 24) C (isK_lit hdm rfl rfl) (by decide) cl_X9 (by decide) ⟨rfl, rfl, rfl, rfl⟩ fl_X9_198 ⟨rfl, rfl⟩ dX9_beginText_20 ?_
  refine nmW hq (fun w2 ew2 hq => ?_)
  rw [← ew2]
  refine x_aload_n C 0 dX9_beginText_23 rfl ?_
  refine x_iconst C dX9_beginText_24 ?_
  refine x_put (K := 10) (k := 25) C (isK_lit hdm rfl rfl) (by decide) cl_X9 (by decide) ⟨rfl, rfl, rfl, rfl⟩ fl_X9_52 ⟨rfl, rfl⟩ dX9_beginText_25 ?_
  refine x_aload_n C 0 dX9_beginText_28 rfl ?_
  refine x_aload_n C 0 dX9_beginText_29 rfl ?_
  refine x_getr (K := 10) (k := 2) (o2 := 52) C (isK_lit hdm rfl rfl) (by decide) cl_X9 (by decide) ⟨rfl, rfl, rfl⟩ fl_X9_21 rfl dX9_beginText_30 ?_
  refine x_putrow C hdm (Or.inr rfl) cl_X9 rfl ⟨rfl, rfl, rfl, rfl⟩ fl_X9_24 rfl dX9_beginText_33 ?_
  refine nmW hq (fun w3 ew3 hq => ?_)
  rw [← ew3]
  exact hR _ _ _ hq dX9_beginText_36
set_option maxRecDepth 100000 in
set_option maxHeartbeats 4000000 in
theorem c_X9_beginText (l : Launch) (G : Gd) {dm na : Nat} {ad : Nat → Nat} (hdm : dm = 1)  {w w' : Wd}   (hq : p_X9_beginText  w = some w') : mV l yX9_beginText cX9_beginText 1 none (rmv 0 0 0 0) G dm na ad [.ref (ad (50))] w w' := by
  refine met_V [(0, .ref (ad (50)))] (by decide) (Nat.le_of_ble_eq_true rfl) rfl rfl (fun g d C S hR => ?_)
  obtain ⟨rfl, hR0, rfl, rfl, rfl, hA⟩ := S
  exact L_X9_beginText (d := (na, ad, 0, 0)) C hdm hA hR0 ⟨Nat.zero_le _, Nat.zero_le _⟩ hR   w hq
set_option maxRecDepth 100000 in
set_option maxHeartbeats 4000000 in
theorem L_X9_rememberOf_85 {g : Cx} {d : Dl} (C : CX g cX9_rememberOf 3 none RX9) (hdm : g.dm = 1) (hA : ∀ q : Nat, g.s.heap.size ≤ q → g.A q) (hR0 : g.R = rmv 0 0 0 0) (hce : d.ce ≤ g.R.cells ∧ d.so ≤ g.R.slots) {res : Wd} (hR : rtV g d cX9_rememberOf res) {o1 : Nat} (h1 : isK d.na g.dm 11 o1)  (w : Wd) (hq : p_X9_rememberOf_85 o1 w = some res) : XG g d (hP g d w) [(0, .ref (d.ad (50)))] [] 85 := by
  refine x_aload_n C 0 dX9_rememberOf_85 rfl ?_
  refine x_dup C rfl dX9_rememberOf_86 ?_
  refine x_get (K := 10) (k := 31) C (isK_lit hdm rfl rfl) (by decide) cl_X9 (by decide) ⟨rfl, rfl, rfl⟩ fl_X9_440 dX9_rememberOf_87 ?_
  refine x_iconst C dX9_rememberOf_90 ?_
  refine x_iadd C dX9_rememberOf_91 ?_
  refine x_put (K := 10) (k := 31) C (isK_lit hdm rfl rfl) (by decide) cl_X9 (by decide) ⟨rfl, rfl, rfl, rfl⟩ fl_X9_440 ⟨rfl, rfl⟩ dX9_rememberOf_92 ?_
  exact hR _ _ _ hq dX9_rememberOf_95
set_option maxRecDepth 100000 in
set_option maxHeartbeats 4000000 in
theorem L_X9_rememberOf_54 {g : Cx} {d : Dl} (C : CX g cX9_rememberOf 3 none RX9) (hdm : g.dm = 1) (hA : ∀ q : Nat, g.s.heap.size ≤ q → g.A q) (hR0 : g.R = rmv 0 0 0 0) (hce : d.ce ≤ g.R.cells ∧ d.so ≤ g.R.slots) {res : Wd} (hR : rtV g d cX9_rememberOf res) {o1 : Nat} (h1 : isK d.na g.dm 11 o1) : ∀ (n : Nat) (x2 : Int) (w : Wd), p_X9_rememberOf_54 o1 n x2 w = some res → XG g d (hP g d w) [(0, .ref (d.ad (50))), (1, .ref (d.ad (o1))), (2, iV (x2))] [] 54 := by
  intro n
  induction n with
  | zero => intro x2 w  hq; exact nomatch (show none = some _ from hq)
  | succ n ih =>
    intro x2 w  hq
    refine x_iload_n C 2 dX9_rememberOf_54 rfl ?_
    refine x_sipush (v := 1099) C dX9_rememberOf_55 (by decide +kernel) ?_
    refine x_icmp_ge (tgt := 85) C dX9_rememberOf_58 (by decide) hq (fun hq => ?_) (fun hq => ?_)
    · refine XG.sub [0] rfl ?_
      exact L_X9_rememberOf_85 C hdm hA hR0 hce hR h1 _ hq
    · refine x_aload_n C 0 dX9_rememberOf_61 rfl ?_
      refine x_getr (K := 10) (k := 30) (o2 := 63) C (isK_lit hdm rfl rfl) (by decide) cl_X9 (by decide) ⟨rfl, rfl, rfl⟩ fl_X9_62 rfl dX9_rememberOf_62 ?_
      refine x_sipush (v := 1099) C dX9_rememberOf_65 (by decide +kernel) ?_
      refine x_aload_n C 0 dX9_rememberOf_68 rfl ?_
      refine x_get (K := 10) (k := 31) C (isK_lit hdm rfl rfl) (by decide) cl_X9 (by decide) ⟨rfl, rfl, rfl⟩ fl_X9_440 dX9_rememberOf_69 ?_
      refine x_imul C dX9_rememberOf_72 ?_
      refine x_iload_n C 2 dX9_rememberOf_73 rfl ?_
      refine x_iadd C dX9_rememberOf_74 ?_
      refine x_aload_n C 1 dX9_rememberOf_75 rfl ?_
      refine x_iload_n C 2 dX9_rememberOf_76 rfl ?_
      refine inb_2 hq (fun hi hq => ?_)
      refine x_iald C h1 hi dX9_rememberOf_77 ?_
      refine inb_2 hq (fun hi hq => ?_)
      refine x_iast C (isK_lit hdm rfl rfl) hi dX9_rememberOf_78 ?_
      refine x_iinc (lv' := [(2, iV (x2 + 1)), (0, .ref (d.ad (50))), (1, .ref (d.ad (o1)))]) C 2 dX9_rememberOf_79 rfl (by decide) rfl ?_
      refine x_goto (tgt := 54) C dX9_rememberOf_82 (by decide) ?_
      refine XG.sub [1, 2, 0] rfl ?_
      exact ih _ _ hq
set_option maxRecDepth 100000 in
set_option maxHeartbeats 4000000 in
theorem L_X9_rememberOf_52 {g : Cx} {d : Dl} (C : CX g cX9_rememberOf 3 none RX9) (hdm : g.dm = 1) (hA : ∀ q : Nat, g.s.heap.size ≤ q → g.A q) (hR0 : g.R = rmv 0 0 0 0) (hce : d.ce ≤ g.R.cells ∧ d.so ≤ g.R.slots) {res : Wd} (hR : rtV g d cX9_rememberOf res) {o1 : Nat} (h1 : isK d.na g.dm 11 o1)  (w : Wd) (hq : p_X9_rememberOf_52 o1 w = some res) : XG g d (hP g d w) [(0, .ref (d.ad (50))), (1, .ref (d.ad (o1)))] [] 52 := by
  refine x_iconst C dX9_rememberOf_52 ?_
  refine x_istore_n (lv' := [(2, iV (0)), (0, .ref (d.ad (50))), (1, .ref (d.ad (o1)))]) C dX9_rememberOf_53 (by decide) rfl ?_
  refine XG.sub [1, 2, 0] rfl ?_
  exact L_X9_rememberOf_54 C hdm hA hR0 hce hR h1 _ _ _ hq
set_option maxRecDepth 100000 in
set_option maxHeartbeats 4000000 in
theorem L_X9_rememberOf_42 {g : Cx} {d : Dl} (C : CX g cX9_rememberOf 3 none RX9) (hdm : g.dm = 1) (hA : ∀ q : Nat, g.s.heap.size ≤ q → g.A q) (hR0 : g.R = rmv 0 0 0 0) (hce : d.ce ≤ g.R.cells ∧ d.so ≤ g.R.slots) {res : Wd} (hR : rtV g d cX9_rememberOf res) {o1 : Nat} (h1 : isK d.na g.dm 11 o1)  (w : Wd) (hq : p_X9_rememberOf_42 o1 w = some res) : XG g d (hP g d w) [(0, .ref (d.ad (50))), (1, .ref (d.ad (o1)))] [] 42 := by
  refine x_aload_n C 0 dX9_rememberOf_42 rfl ?_
  refine x_dup C rfl dX9_rememberOf_43 ?_
  refine x_get (K := 10) (k := 31) C (isK_lit hdm rfl rfl) (by decide) cl_X9 (by decide) ⟨rfl, rfl, rfl⟩ fl_X9_440 dX9_rememberOf_44 ?_
  refine x_iconst C dX9_rememberOf_47 ?_
  refine x_isub C dX9_rememberOf_48 ?_
  refine x_put (K := 10) (k := 31) C (isK_lit hdm rfl rfl) (by decide) cl_X9 (by decide) ⟨rfl, rfl, rfl, rfl⟩ fl_X9_440 ⟨rfl, rfl⟩ dX9_rememberOf_49 ?_
  exact L_X9_rememberOf_52 C hdm hA hR0 hce hR h1 _ hq
set_option maxRecDepth 100000 in
set_option maxHeartbeats 4000000 in
theorem L_X9_rememberOf_13 {g : Cx} {d : Dl} (C : CX g cX9_rememberOf 3 none RX9) (hdm : g.dm = 1) (hA : ∀ q : Nat, g.s.heap.size ≤ q → g.A q) (hR0 : g.R = rmv 0 0 0 0) (hce : d.ce ≤ g.R.cells ∧ d.so ≤ g.R.slots) {res : Wd} (hR : rtV g d cX9_rememberOf res) {o1 : Nat} (h1 : isK d.na g.dm 11 o1) : ∀ (n : Nat) (x2 : Int) (w : Wd), p_X9_rememberOf_13 o1 n x2 w = some res → XG g d (hP g d w) [(0, .ref (d.ad (50))), (1, .ref (d.ad (o1))), (2, iV (x2))] [] 13 := by
  intro n
  induction n with
  | zero => intro x2 w  hq; exact nomatch (show none = some _ from hq)
  | succ n ih =>
    intro x2 w  hq
    refine x_iload_n C 2 dX9_rememberOf_13 rfl ?_
    refine x_sipush (v := 6594) C dX9_rememberOf_14 (by decide +kernel) ?_
    refine x_icmp_ge (tgt := 42) C dX9_rememberOf_17 (by decide) hq (fun hq => ?_) (fun hq => ?_)
    · refine XG.sub [0, 1] rfl ?_
      exact L_X9_rememberOf_42 C hdm hA hR0 hce hR h1 _ hq
    · refine x_aload_n C 0 dX9_rememberOf_20 rfl ?_
      refine x_getr (K := 10) (k := 30) (o2 := 63) C (isK_lit hdm rfl rfl) (by decide) cl_X9 (by decide) ⟨rfl, rfl, rfl⟩ fl_X9_62 rfl dX9_rememberOf_21 ?_
      refine x_iload_n C 2 dX9_rememberOf_24 rfl ?_
      refine x_sipush (v := 1099) C dX9_rememberOf_25 (by decide +kernel) ?_
      refine x_isub C dX9_rememberOf_28 ?_
      refine x_aload_n C 0 dX9_rememberOf_29 rfl ?_
      refine x_getr (K := 10) (k := 30) (o2 := 63) C (isK_lit hdm rfl rfl) (by decide) cl_X9 (by decide) ⟨rfl, rfl, rfl⟩ fl_X9_62 rfl dX9_rememberOf_30 ?_
      refine x_iload_n C 2 dX9_rememberOf_33 rfl ?_
      refine inb_2 hq (fun hi hq => ?_)
      refine x_iald C (isK_lit hdm rfl rfl) hi dX9_rememberOf_34 ?_
      refine inb_2 hq (fun hi hq => ?_)
      refine x_iast C (isK_lit hdm rfl rfl) hi dX9_rememberOf_35 ?_
      refine x_iinc (lv' := [(2, iV (x2 + 1)), (0, .ref (d.ad (50))), (1, .ref (d.ad (o1)))]) C 2 dX9_rememberOf_36 rfl (by decide) rfl ?_
      refine x_goto (tgt := 13) C dX9_rememberOf_39 (by decide) ?_
      refine XG.sub [1, 2, 0] rfl ?_
      exact ih _ _ hq
set_option maxRecDepth 100000 in
set_option maxHeartbeats 4000000 in
theorem L_X9_rememberOf {g : Cx} {d : Dl} (C : CX g cX9_rememberOf 3 none RX9) (hdm : g.dm = 1) (hA : ∀ q : Nat, g.s.heap.size ≤ q → g.A q) (hR0 : g.R = rmv 0 0 0 0) (hce : d.ce ≤ g.R.cells ∧ d.so ≤ g.R.slots) {res : Wd} (hR : rtV g d cX9_rememberOf res) {o1 : Nat} (h1 : isK d.na g.dm 11 o1)  (w : Wd) (hq : p_X9_rememberOf o1 w = some res) : XG g d (hP g d w) [(0, .ref (d.ad (50))), (1, .ref (d.ad (o1)))] [] 0 := by
  refine x_aload_n C 0 dX9_rememberOf_0 rfl ?_
  refine x_get (K := 10) (k := 31) C (isK_lit hdm rfl rfl) (by decide) cl_X9 (by decide) ⟨rfl, rfl, rfl⟩ fl_X9_440 dX9_rememberOf_1 ?_
  refine x_bipush (v := 6) C dX9_rememberOf_4 (by decide +kernel) ?_
  refine x_icmp_ne (tgt := 52) C dX9_rememberOf_6 (by decide) hq (fun hq => ?_) (fun hq => ?_)
  · exact L_X9_rememberOf_52 C hdm hA hR0 hce hR h1 _ hq
  · refine x_sipush (v := 1099) C dX9_rememberOf_9 (by decide +kernel) ?_
    refine x_istore_n (lv' := [(2, iV (1099)), (0, .ref (d.ad (50))), (1, .ref (d.ad (o1)))]) C dX9_rememberOf_12 (by decide) rfl ?_
    refine XG.sub [1, 2, 0] rfl ?_
    exact L_X9_rememberOf_13 C hdm hA hR0 hce hR h1 _ _ _ hq
set_option maxRecDepth 100000 in
set_option maxHeartbeats 4000000 in
theorem c_X9_rememberOf (l : Launch) (G : Gd) {dm na : Nat} {ad : Nat → Nat} (hdm : dm = 1) {o1 : Nat} {w w' : Wd}  (h1 : isK na dm 11 o1) (hq : p_X9_rememberOf o1 w = some w') : mV l yX9_rememberOf cX9_rememberOf 3 none (rmv 0 0 0 0) G dm na ad [.ref (ad (50)), .ref (ad (o1))] w w' := by
  refine met_V [(0, .ref (ad (50))), (1, .ref (ad (o1)))] (by decide) (Nat.le_of_ble_eq_true rfl) rfl rfl (fun g d C S hR => ?_)
  obtain ⟨rfl, hR0, rfl, rfl, rfl, hA⟩ := S
  exact L_X9_rememberOf (d := (na, ad, 0, 0)) C hdm hA hR0 ⟨Nat.zero_le _, Nat.zero_le _⟩ hR h1  w hq
set_option maxRecDepth 100000 in
set_option maxHeartbeats 4000000 in
theorem L_X9_remember {g : Cx} {d : Dl} (C : CX g cX9_remember 1 none RX9) (hdm : g.dm = 1) (hA : ∀ q : Nat, g.s.heap.size ≤ q → g.A q) (hR0 : g.R = rmv 1 22 0 0) (hce : d.ce ≤ g.R.cells ∧ d.so ≤ g.R.slots) {res : Wd} (hR : rtV g d cX9_remember res)  (w : Wd) (hq : p_X9_remember  w = some res) : XG g d (hP g d w) [(0, .ref (d.ad (50)))] [] 0 := by
  refine x_aload_n C 0 dX9_remember_0 rfl ?_
  refine x_aload_n C 0 dX9_remember_1 rfl ?_
  refine x_getr (K := 10) (k := 1) (o2 := 51) C (isK_lit hdm rfl rfl) (by decide) cl_X9 (by decide) ⟨rfl, rfl, rfl⟩ fl_X9_17 rfl dX9_remember_2 ?_
  refine x_callVv (K := 10) (rm := rmv 0 0 0 0) (As := [.ref (d.ad (51))]) (rest := []) C hA hR0 mf_X9_rememberOf lk_X9_414 rfl (isK_lit hdm rfl rfl) (by decide) ⟨rfl, rfl⟩ ⟨Nat.le_of_ble_eq_true rfl, Nat.le_of_ble_eq_true rfl⟩ rfl rfl (Nat.le_of_ble_eq_true rfl) hce dX9_remember_5 hq (fun _ h => c_X9_rememberOf g.l g.G hdm (isK_lit hdm rfl rfl) h) (fun w1 _ hq => ?_)
  exact hR _ _ _ hq dX9_remember_8
set_option maxRecDepth 100000 in
set_option maxHeartbeats 4000000 in
theorem c_X9_remember (l : Launch) (G : Gd) {dm na : Nat} {ad : Nat → Nat} (hdm : dm = 1)  {w w' : Wd}   (hq : p_X9_remember  w = some w') : mV l yX9_remember cX9_remember 1 none (rmv 1 22 0 0) G dm na ad [.ref (ad (50))] w w' := by
  refine met_V [(0, .ref (ad (50)))] (by decide) (Nat.le_of_ble_eq_true rfl) rfl rfl (fun g d C S hR => ?_)
  obtain ⟨rfl, hR0, rfl, rfl, rfl, hA⟩ := S
  exact L_X9_remember (d := (na, ad, 0, 0)) C hdm hA hR0 ⟨Nat.zero_le _, Nat.zero_le _⟩ hR   w hq
set_option maxRecDepth 100000 in
set_option maxHeartbeats 4000000 in
theorem L_X9_takeDraft_2 {g : Cx} {d : Dl} (C : CX g cX9_takeDraft 2 none RX9) (hdm : g.dm = 1) (hA : ∀ q : Nat, g.s.heap.size ≤ q → g.A q) (hR0 : g.R = rmv 0 0 0 0) (hce : d.ce ≤ g.R.cells ∧ d.so ≤ g.R.slots) {res : Wd} (hR : rtV g d cX9_takeDraft res) : ∀ (n : Nat) (x1 : Int) (w : Wd), p_X9_takeDraft_2 n x1 w = some res → XG g d (hP g d w) [(0, .ref (d.ad (50))), (1, iV (x1))] [] 2 := by
  intro n
  induction n with
  | zero => intro x1 w  hq; exact nomatch (show none = some _ from hq)
  | succ n ih =>
    intro x1 w  hq
    refine x_iload_n C 1 dX9_takeDraft_2 rfl ?_
    refine x_sipush (v := 1099) C dX9_takeDraft_3 (by decide +kernel) ?_
    refine x_icmp_ge (tgt := 27) C dX9_takeDraft_6 (by decide) hq (fun hq => ?_) (fun hq => ?_)
    · exact hR _ _ _ hq dX9_takeDraft_27
    · refine x_aload_n C 0 dX9_takeDraft_9 rfl ?_
      refine x_getr (K := 10) (k := 1) (o2 := 51) C (isK_lit hdm rfl rfl) (by decide) cl_X9 (by decide) ⟨rfl, rfl, rfl⟩ fl_X9_17 rfl dX9_takeDraft_10 ?_
      refine x_iload_n C 1 dX9_takeDraft_13 rfl ?_
      refine x_aload_n C 0 dX9_takeDraft_14 rfl ?_
      refine x_getr (K := 10) (k := 2) (o2 := 52) C (isK_lit hdm rfl rfl) (by decide) cl_X9 (by decide) ⟨rfl, rfl, rfl⟩ fl_X9_21 rfl dX9_takeDraft_15 ?_
      refine x_iload_n C 1 dX9_takeDraft_18 rfl ?_
      refine inb_2 hq (fun hi hq => ?_)
      refine x_iald C (isK_lit hdm rfl rfl) hi dX9_takeDraft_19 ?_
      refine inb_2 hq (fun hi hq => ?_)
      refine x_iast C (isK_lit hdm rfl rfl) hi dX9_takeDraft_20 ?_
      refine x_iinc (lv' := [(1, iV (x1 + 1)), (0, .ref (d.ad (50)))]) C 1 dX9_takeDraft_21 rfl (by decide) rfl ?_
      refine x_goto (tgt := 2) C dX9_takeDraft_24 (by decide) ?_
      refine XG.sub [1, 0] rfl ?_
      exact ih _ _ hq
set_option maxRecDepth 100000 in
set_option maxHeartbeats 4000000 in
theorem L_X9_takeDraft {g : Cx} {d : Dl} (C : CX g cX9_takeDraft 2 none RX9) (hdm : g.dm = 1) (hA : ∀ q : Nat, g.s.heap.size ≤ q → g.A q) (hR0 : g.R = rmv 0 0 0 0) (hce : d.ce ≤ g.R.cells ∧ d.so ≤ g.R.slots) {res : Wd} (hR : rtV g d cX9_takeDraft res)  (w : Wd) (hq : p_X9_takeDraft  w = some res) : XG g d (hP g d w) [(0, .ref (d.ad (50)))] [] 0 := by
  refine x_iconst C dX9_takeDraft_0 ?_
  refine x_istore_n (lv' := [(1, iV (0)), (0, .ref (d.ad (50)))]) C dX9_takeDraft_1 (by decide) rfl ?_
  refine XG.sub [1, 0] rfl ?_
  exact L_X9_takeDraft_2 C hdm hA hR0 hce hR _ _ _ hq
set_option maxRecDepth 100000 in
set_option maxHeartbeats 4000000 in
theorem c_X9_takeDraft (l : Launch) (G : Gd) {dm na : Nat} {ad : Nat → Nat} (hdm : dm = 1)  {w w' : Wd}   (hq : p_X9_takeDraft  w = some w') : mV l yX9_takeDraft cX9_takeDraft 2 none (rmv 0 0 0 0) G dm na ad [.ref (ad (50))] w w' := by
  refine met_V [(0, .ref (ad (50)))] (by decide) (Nat.le_of_ble_eq_true rfl) rfl rfl (fun g d C S hR => ?_)
  obtain ⟨rfl, hR0, rfl, rfl, rfl, hA⟩ := S
  exact L_X9_takeDraft (d := (na, ad, 0, 0)) C hdm hA hR0 ⟨Nat.zero_le _, Nat.zero_le _⟩ hR   w hq
set_option maxRecDepth 100000 in
set_option maxHeartbeats 4000000 in
set_option maxRecDepth 100000 in
set_option maxHeartbeats 4000000 in
set_option maxRecDepth 100000 in
set_option maxHeartbeats 4000000 in
set_option maxRecDepth 100000 in
set_option maxHeartbeats 4000000 in
set_option maxRecDepth 100000 in
set_option maxHeartbeats 4000000 in
theorem L_X9_errorCode {g : Cx} {d : Dl} (C : CX g cX9_errorCode 1 (some .int) RX9) (hdm : g.dm = 1) (hA : ∀ q : Nat, g.s.heap.size ≤ q → g.A q) (hR0 : g.R = rmv 0 0 0 0) (hce : d.ce ≤ g.R.cells ∧ d.so ≤ g.R.slots) {res : Int × Wd} (hR : rtI g d cX9_errorCode .int res)  (w : Wd) (hq : p_X9_errorCode  w = some res) : XG g d (hP g d w) [(0, .ref (d.ad (50)))] [] 0 := by
  refine x_aload_n C 0 dX9_errorCode_0 rfl ?_
  refine x_iconst C dX9_errorCode_1 ?_
  refine x_put (K := 10) (k := 0) C (isK_lit hdm rfl rfl) (by decide) cl_X9 (by decide) ⟨rfl, rfl, rfl, rfl⟩ fl_X9_3 ⟨rfl, rfl⟩ dX9_errorCode_2 ?_
  refine x_aload_n C 0 dX9_errorCode_5 rfl ?_
  refine x_get (K := 10) (k := 24) C (isK_lit hdm rfl rfl) (by decide) cl_X9 (by decide) ⟨rfl, rfl, rfl⟩ fl_X9_198 dX9_errorCode_6 ?_
  exact hR _ _ _ _ hq rfl dX9_errorCode_9
set_option maxRecDepth 100000 in
set_option maxHeartbeats 4000000 in
theorem c_X9_errorCode (l : Launch) (G : Gd) {dm na : Nat} {ad : Nat → Nat} (hdm : dm = 1)  {w w' : Wd} {r : Int}  (hq : p_X9_errorCode  w = some (r, w')) : mI l yX9_errorCode cX9_errorCode 1 (some .int) (rmv 0 0 0 0) G dm na ad [.ref (ad (50))] w r w' := by
  refine met_I [(0, .ref (ad (50)))] (by decide) (Nat.le_of_ble_eq_true rfl) rfl .int rfl (fun g d C S hR => ?_)
  obtain ⟨rfl, hR0, rfl, rfl, rfl, hA⟩ := S
  exact L_X9_errorCode (d := (na, ad, 0, 0)) C hdm hA hR0 ⟨Nat.zero_le _, Nat.zero_le _⟩ hR   w hq
set_option maxRecDepth 100000 in
set_option maxHeartbeats 4000000 in
theorem L_X9_errorPosition {g : Cx} {d : Dl} (C : CX g cX9_errorPosition 1 (some .int) RX9) (hdm : g.dm = 1) (hA : ∀ q : Nat, g.s.heap.size ≤ q → g.A q) (hR0 : g.R = rmv 0 0 0 0) (hce : d.ce ≤ g.R.cells ∧ d.so ≤ g.R.slots) {res : Int × Wd} (hR : rtI g d cX9_errorPosition .int res)  (w : Wd) (hq : p_X9_errorPosition  w = some res) : XG g d (hP g d w) [(0, .ref (d.ad (50)))] [] 0 := by
  refine x_aload_n C 0 dX9_errorPosition_0 rfl ?_
  refine x_iconst C dX9_errorPosition_1 ?_
  refine x_put (K := 10) (k := 0) C (isK_lit hdm rfl rfl) (by decide) cl_X9 (by decide) ⟨rfl, rfl, rfl, rfl⟩ fl_X9_3 ⟨rfl, rfl⟩ dX9_errorPosition_2 ?_
  refine x_aload_n C 0 dX9_errorPosition_5 rfl ?_
  refine x_get (K := 10) (k := 25) C (isK_lit hdm rfl rfl) (by decide) cl_X9 (by decide) ⟨rfl, rfl, rfl⟩ fl_X9_52 dX9_errorPosition_6 ?_
  exact hR _ _ _ _ hq rfl dX9_errorPosition_9
set_option maxRecDepth 100000 in
set_option maxHeartbeats 4000000 in
theorem c_X9_errorPosition (l : Launch) (G : Gd) {dm na : Nat} {ad : Nat → Nat} (hdm : dm = 1)  {w w' : Wd} {r : Int}  (hq : p_X9_errorPosition  w = some (r, w')) : mI l yX9_errorPosition cX9_errorPosition 1 (some .int) (rmv 0 0 0 0) G dm na ad [.ref (ad (50))] w r w' := by
  refine met_I [(0, .ref (ad (50)))] (by decide) (Nat.le_of_ble_eq_true rfl) rfl .int rfl (fun g d C S hR => ?_)
  obtain ⟨rfl, hR0, rfl, rfl, rfl, hA⟩ := S
  exact L_X9_errorPosition (d := (na, ad, 0, 0)) C hdm hA hR0 ⟨Nat.zero_le _, Nat.zero_le _⟩ hR   w hq
set_option maxRecDepth 100000 in
set_option maxHeartbeats 4000000 in
theorem L_X9_property {g : Cx} {d : Dl} (C : CX g cX9_property 3 (some .int) RX9) (hdm : g.dm = 1) (hA : ∀ q : Nat, g.s.heap.size ≤ q → g.A q) (hR0 : g.R = rmv 9 213 0 0) (hce : d.ce ≤ g.R.cells ∧ d.so ≤ g.R.slots) {res : Int × Wd} (hR : rtI g d cX9_property .int res) (x1 : Int) (w : Wd) (hq : p_X9_property x1 w = some res) : XG g d (hP g d w) [(0, .ref (d.ad (50))), (1, iV (x1))] [] 0 := by
  refine x_aload_n C 0 dX9_property_0 rfl ?_
  refine x_iload_n C 1 dX9_property_1 rfl ?_
  refine x_i2l C dX9_property_2 ?_
  refine x_lconst C dX9_property_3 ?_
  refine x_ldc2 (v := 13) C rfl kl_X9_339 dX9_property_4 ?_
  refine x_callSi (rm := rmv 0 0 0 0) (As := [jV (w32 x1), jV (0), jV (13)]) (rest := [.ref (d.ad (50))]) C hA hR0 mf_X9_in lk_X9_75 ⟨rfl, rfl⟩ ⟨Nat.le_of_ble_eq_true rfl, Nat.le_of_ble_eq_true rfl⟩ rfl rfl (Nat.le_of_ble_eq_true rfl) hce dX9_property_7 hq (fun _ _ h => c_X9_in g.l g.G hdm  h) (fun r2 w1 _ hq => ?_)
  refine x_callVi (K := 10) (rm := rmv 1 23 0 0) (As := [iV (r2)]) (rest := []) C hA hR0 mf_X9_passes lk_X9_191 rfl (isK_lit hdm rfl rfl) (by decide) ⟨rfl, rfl⟩ ⟨Nat.le_of_ble_eq_true rfl, Nat.le_of_ble_eq_true rfl⟩ rfl rfl (Nat.le_of_ble_eq_true rfl) hce dX9_property_10 hq (fun _ _ h => c_X9_passes g.l g.G hdm  h) (fun r4 w3 _ hq => ?_)
  refine x_if_ne (tgt := 18) C dX9_property_13 (by decide) hq (fun hq => ?_) (fun hq => ?_)
  · refine x_aload_n C 0 dX9_property_18 rfl ?_
    refine x_callVi (K := 10) (rm := rmv 8 192 0 0) (As := []) (rest := []) C hA hR0 mf_X9_lay lk_X9_179 rfl (isK_lit hdm rfl rfl) (by decide) ⟨rfl, rfl⟩ ⟨Nat.le_of_ble_eq_true rfl, Nat.le_of_ble_eq_true rfl⟩ rfl rfl (Nat.le_of_ble_eq_true rfl) hce dX9_property_19 hq (fun _ _ h => c_X9_lay g.l g.G hdm  h) (fun r6 w5 _ hq => ?_)
    refine x_istore_n (lv' := [(2, iV (r6)), (0, .ref (d.ad (50))), (1, iV (x1))]) C dX9_property_22 (by decide) rfl ?_
    refine x_iload_n C 2 dX9_property_23 rfl ?_
    refine ite_2 hq (fun s7 hq => ?_) (fun s8 hq => ?_)
    · refine x_tswd (tgt := 174) C (Or.inl s7) (by decide +kernel) dX9_property_24 (by decide) ?_
      refine x_aload_n C 1 dX9_property_174 rfl ?_
      refine x_getr (K := 10) (k := 1) (o2 := 51) C (isK_lit hdm rfl rfl) (by decide) cl_X9 (by decide) ⟨rfl, rfl, rfl⟩ fl_X9_17 rfl dX9_property_175 ?_
      refine x_bipush (v := 7) C dX9_property_178 (by decide +kernel) ?_
      refine inb_2 hq (fun hi hq => ?_)
      refine x_iald C (isK_lit hdm rfl rfl) hi dX9_property_180 ?_
      exact hR _ _ _ _ hq rfl dX9_property_181
    refine ite_2 hq (fun s9 hq => ?_) (fun s10 hq => ?_)
    · refine x_tswd (tgt := 174) C (Or.inr s9) (by decide +kernel) dX9_property_24 (by decide) ?_
      refine x_aload_n C 1 dX9_property_174 rfl ?_
      refine x_getr (K := 10) (k := 1) (o2 := 51) C (isK_lit hdm rfl rfl) (by decide) cl_X9 (by decide) ⟨rfl, rfl, rfl⟩ fl_X9_17 rfl dX9_property_175 ?_
      refine x_bipush (v := 7) C dX9_property_178 (by decide +kernel) ?_
      refine inb_2 hq (fun hi hq => ?_)
      refine x_iald C (isK_lit hdm rfl rfl) hi dX9_property_180 ?_
      exact hR _ _ _ _ hq rfl dX9_property_181
    refine ite_2 hq (fun s11 hq => ?_) (fun s12 hq => ?_)
    · refine ite_2 hq (fun s13 hq => ?_) (fun s14 hq => ?_)
      · refine ite_2 hq (fun s15 hq => ?_) (fun s16 hq => ?_)
        · refine x_tswk (tgt := 92) C (0) s8 (lt_sw (k := 0) s15 (by decide +kernel)) (by decide +kernel) dX9_property_24 rfl (by decide) ?_
          refine x_aload_n C 1 dX9_property_92 rfl ?_
          refine x_callVi (K := 10) (rm := rmv 0 0 0 0) (As := []) (rest := []) C hA hR0 mf_X9_wide lk_X9_71 rfl (isK_lit hdm rfl rfl) (by decide) ⟨rfl, rfl⟩ ⟨Nat.le_of_ble_eq_true rfl, Nat.le_of_ble_eq_true rfl⟩ rfl rfl (Nat.le_of_ble_eq_true rfl) hce dX9_property_93 hq (fun _ _ h => c_X9_wide g.l g.G hdm  h) (fun r18 w17 _ hq => ?_)
          exact hR _ _ _ _ hq rfl dX9_property_96
        · refine ite_2 hq (fun s19 hq => ?_) (fun s20 hq => ?_)
          · refine x_tswk (tgt := 97) C (1) s16 (lt_sw (k := 1) s19 (by decide +kernel)) (by decide +kernel) dX9_property_24 rfl (by decide) ?_
            refine x_aload_n C 1 dX9_property_97 rfl ?_
            refine x_callVi (K := 10) (rm := rmv 0 0 0 0) (As := []) (rest := []) C hA hR0 mf_X9_high lk_X9_79 rfl (isK_lit hdm rfl rfl) (by decide) ⟨rfl, rfl⟩ ⟨Nat.le_of_ble_eq_true rfl, Nat.le_of_ble_eq_true rfl⟩ rfl rfl (Nat.le_of_ble_eq_true rfl) hce dX9_property_98 hq (fun _ _ h => c_X9_high g.l g.G hdm  h) (fun r22 w21 _ hq => ?_)
            exact hR _ _ _ _ hq rfl dX9_property_101
          · refine x_tswk (tgt := 102) C (2) s20 (lt_sw (k := 2) s13 (by decide +kernel)) (by decide +kernel) dX9_property_24 rfl (by decide) ?_
            refine x_aload_n C 1 dX9_property_102 rfl ?_
            refine x_callVi (K := 10) (rm := rmv 0 0 0 0) (As := []) (rest := []) C hA hR0 mf_X9_flaws lk_X9_271 rfl (isK_lit hdm rfl rfl) (by decide) ⟨rfl, rfl⟩ ⟨Nat.le_of_ble_eq_true rfl, Nat.le_of_ble_eq_true rfl⟩ rfl rfl (Nat.le_of_ble_eq_true rfl) hce dX9_property_103 hq (fun _ _ h => c_X9_flaws g.l g.G hdm  h) (fun r24 w23 _ hq => ?_)
            exact hR _ _ _ _ hq rfl dX9_property_106
      · refine ite_2 hq (fun s25 hq => ?_) (fun s26 hq => ?_)
        · refine x_tswk (tgt := 107) C (3) s14 (lt_sw (k := 3) s25 (by decide +kernel)) (by decide +kernel) dX9_property_24 rfl (by decide) ?_
          refine x_aload_n C 1 dX9_property_107 rfl ?_
          refine x_getr (K := 10) (k := 1) (o2 := 51) C (isK_lit hdm rfl rfl) (by decide) cl_X9 (by decide) ⟨rfl, rfl, rfl⟩ fl_X9_17 rfl dX9_property_108 ?_
          refine x_iconst C dX9_property_111 ?_
          refine inb_2 hq (fun hi hq => ?_)
          refine x_iald C (isK_lit hdm rfl rfl) hi dX9_property_112 ?_
          exact hR _ _ _ _ hq rfl dX9_property_113
        · refine ite_2 hq (fun s27 hq => ?_) (fun s28 hq => ?_)
          · refine x_tswk (tgt := 114) C (4) s26 (lt_sw (k := 4) s27 (by decide +kernel)) (by decide +kernel) dX9_property_24 rfl (by decide) ?_
            refine x_aload_n C 1 dX9_property_114 rfl ?_
            refine x_getr (K := 10) (k := 1) (o2 := 51) C (isK_lit hdm rfl rfl) (by decide) cl_X9 (by decide) ⟨rfl, rfl, rfl⟩ fl_X9_17 rfl dX9_property_115 ?_
            refine x_bipush (v := 9) C dX9_property_118 (by decide +kernel) ?_
            refine inb_2 hq (fun hi hq => ?_)
            refine x_iald C (isK_lit hdm rfl rfl) hi dX9_property_120 ?_
            exact hR _ _ _ _ hq rfl dX9_property_121
          · refine x_tswk (tgt := 122) C (5) s28 (lt_sw (k := 5) s11 (by decide +kernel)) (by decide +kernel) dX9_property_24 rfl (by decide) ?_
            refine x_aload_n C 1 dX9_property_122 rfl ?_
            refine x_getr (K := 10) (k := 1) (o2 := 51) C (isK_lit hdm rfl rfl) (by decide) cl_X9 (by decide) ⟨rfl, rfl, rfl⟩ fl_X9_17 rfl dX9_property_123 ?_
            refine x_bipush (v := 10) C dX9_property_126 (by decide +kernel) ?_
            refine inb_2 hq (fun hi hq => ?_)
            refine x_iald C (isK_lit hdm rfl rfl) hi dX9_property_128 ?_
            exact hR _ _ _ _ hq rfl dX9_property_129
    · refine ite_2 hq (fun s29 hq => ?_) (fun s30 hq => ?_)
      · refine ite_2 hq (fun s31 hq => ?_) (fun s32 hq => ?_)
        · refine x_tswk (tgt := 130) C (6) s12 (lt_sw (k := 6) s31 (by decide +kernel)) (by decide +kernel) dX9_property_24 rfl (by decide) ?_
          refine x_iload_n C 0 dX9_property_130 rfl ?_
          exact hR _ _ _ _ hq rfl dX9_property_131
        · refine ite_2 hq (fun s33 hq => ?_) (fun s34 hq => ?_)
          · refine x_tswk (tgt := 132) C (7) s32 (lt_sw (k := 7) s33 (by decide +kernel)) (by decide +kernel) dX9_property_24 rfl (by decide) ?_
            refine x_aload_n C 1 dX9_property_132 rfl ?_
            refine x_callVi (K := 10) (rm := rmv 2 44 0 0) (As := []) (rest := []) C hA hR0 mf_X9_letters lk_X9_341 rfl (isK_lit hdm rfl rfl) (by decide) ⟨rfl, rfl⟩ ⟨Nat.le_of_ble_eq_true rfl, Nat.le_of_ble_eq_true rfl⟩ rfl rfl (Nat.le_of_ble_eq_true rfl) hce dX9_property_133 hq (fun _ _ h => c_X9_letters g.l g.G hdm  h) (fun r36 w35 _ hq => ?_)
            exact hR _ _ _ _ hq rfl dX9_property_136
          · refine x_tswk (tgt := 137) C (8) s34 (lt_sw (k := 8) s29 (by decide +kernel)) (by decide +kernel) dX9_property_24 rfl (by decide) ?_
            refine x_aload_n C 1 dX9_property_137 rfl ?_
            refine x_getr (K := 10) (k := 1) (o2 := 51) C (isK_lit hdm rfl rfl) (by decide) cl_X9 (by decide) ⟨rfl, rfl, rfl⟩ fl_X9_17 rfl dX9_property_138 ?_
            refine x_bipush (v := 8) C dX9_property_141 (by decide +kernel) ?_
            refine inb_2 hq (fun hi hq => ?_)
            refine x_iald C (isK_lit hdm rfl rfl) hi dX9_property_143 ?_
            exact hR _ _ _ _ hq rfl dX9_property_144
      · refine ite_2 hq (fun s37 hq => ?_) (fun s38 hq => ?_)
        · refine ite_2 hq (fun s39 hq => ?_) (fun s40 hq => ?_)
          · refine x_tswk (tgt := 145) C (9) s30 (lt_sw (k := 9) s39 (by decide +kernel)) (by decide +kernel) dX9_property_24 rfl (by decide) ?_
            refine x_aload_n C 1 dX9_property_145 rfl ?_
            refine x_getr (K := 10) (k := 1) (o2 := 51) C (isK_lit hdm rfl rfl) (by decide) cl_X9 (by decide) ⟨rfl, rfl, rfl⟩ fl_X9_17 rfl dX9_property_146 ?_
            refine x_iconst C dX9_property_149 ?_
            refine inb_2 hq (fun hi hq => ?_)
            refine x_iald C (isK_lit hdm rfl rfl) hi dX9_property_150 ?_
            exact hR _ _ _ _ hq rfl dX9_property_151
          · refine x_tswk (tgt := 152) C (10) s40 (lt_sw (k := 10) s37 (by decide +kernel)) (by decide +kernel) dX9_property_24 rfl (by decide) ?_
            refine x_aload_n C 1 dX9_property_152 rfl ?_
            refine x_getr (K := 10) (k := 1) (o2 := 51) C (isK_lit hdm rfl rfl) (by decide) cl_X9 (by decide) ⟨rfl, rfl, rfl⟩ fl_X9_17 rfl dX9_property_153 ?_
            refine x_iconst C dX9_property_156 ?_
            refine inb_2 hq (fun hi hq => ?_)
            refine x_iald C (isK_lit hdm rfl rfl) hi dX9_property_157 ?_
            exact hR _ _ _ _ hq rfl dX9_property_158
        · refine ite_2 hq (fun s41 hq => ?_) (fun s42 hq => ?_)
          · refine x_tswk (tgt := 159) C (11) s38 (lt_sw (k := 11) s41 (by decide +kernel)) (by decide +kernel) dX9_property_24 rfl (by decide) ?_
            refine x_aload_n C 1 dX9_property_159 rfl ?_
            refine x_getr (K := 10) (k := 1) (o2 := 51) C (isK_lit hdm rfl rfl) (by decide) cl_X9 (by decide) ⟨rfl, rfl, rfl⟩ fl_X9_17 rfl dX9_property_160 ?_
            refine x_iconst C dX9_property_163 ?_
            refine inb_2 hq (fun hi hq => ?_)
            refine x_iald C (isK_lit hdm rfl rfl) hi dX9_property_164 ?_
            exact hR _ _ _ _ hq rfl dX9_property_165
          · refine x_tswk (tgt := 166) C (12) s42 s10 (by decide +kernel) dX9_property_24 rfl (by decide) ?_
            refine x_aload_n C 1 dX9_property_166 rfl ?_
            refine x_getr (K := 10) (k := 1) (o2 := 51) C (isK_lit hdm rfl rfl) (by decide) cl_X9 (by decide) ⟨rfl, rfl, rfl⟩ fl_X9_17 rfl dX9_property_167 ?_
            refine x_bipush (v := 6) C dX9_property_170 (by decide +kernel) ?_
            refine inb_2 hq (fun hi hq => ?_)
            refine x_iald C (isK_lit hdm rfl rfl) hi dX9_property_172 ?_
            exact hR _ _ _ _ hq rfl dX9_property_173
  · refine x_iconst C dX9_property_16 ?_
    exact hR _ _ _ _ hq rfl dX9_property_17
set_option maxRecDepth 100000 in
set_option maxHeartbeats 4000000 in
theorem c_X9_property (l : Launch) (G : Gd) {dm na : Nat} {ad : Nat → Nat} (hdm : dm = 1) {x1 : Int} {w w' : Wd} {r : Int}  (hq : p_X9_property x1 w = some (r, w')) : mI l yX9_property cX9_property 3 (some .int) (rmv 9 213 0 0) G dm na ad [.ref (ad (50)), iV (x1)] w r w' := by
  refine met_I [(0, .ref (ad (50))), (1, iV (x1))] (by decide) (Nat.le_of_ble_eq_true rfl) rfl .int rfl (fun g d C S hR => ?_)
  obtain ⟨rfl, hR0, rfl, rfl, rfl, hA⟩ := S
  exact L_X9_property (d := (na, ad, 0, 0)) C hdm hA hR0 ⟨Nat.zero_le _, Nat.zero_le _⟩ hR  _ w hq
set_option maxRecDepth 100000 in
set_option maxHeartbeats 4000000 in
theorem L_X9_part {g : Cx} {d : Dl} (C : CX g cX9_part 6 (some .int) RX9) (hdm : g.dm = 1) (hA : ∀ q : Nat, g.s.heap.size ≤ q → g.A q) (hR0 : g.R = rmv 9 213 0 0) (hce : d.ce ≤ g.R.cells ∧ d.so ≤ g.R.slots) {res : Int × Wd} (hR : rtI g d cX9_part .int res) (x1 : Int) (x2 : Int) (w : Wd) (hq : p_X9_part x1 x2 w = some res) : XG g d (hP g d w) [(0, .ref (d.ad (50))), (1, iV (x1)), (2, iV (x2))] [] 0 := by
  refine x_aload_n C 0 dX9_part_0 rfl ?_
  refine x_aload_n C 0 dX9_part_1 rfl ?_
  refine x_iload_n C 1 dX9_part_2 rfl ?_
  refine x_callVi (K := 10) (rm := rmv 1 25 0 0) (As := [iV (x1)]) (rest := [.ref (d.ad (50))]) C hA hR0 mf_X9_isPart lk_X9_344 rfl (isK_lit hdm rfl rfl) (by decide) ⟨rfl, rfl⟩ ⟨Nat.le_of_ble_eq_true rfl, Nat.le_of_ble_eq_true rfl⟩ rfl rfl (Nat.le_of_ble_eq_true rfl) hce dX9_part_3 hq (fun _ _ h => c_X9_isPart g.l g.G hdm  h) (fun r2 w1 _ hq => ?_)
  refine x_iload_n C 2 dX9_part_6 rfl ?_
  refine x_i2l C dX9_part_7 ?_
  refine x_lconst C dX9_part_8 ?_
  refine x_ldc2 (v := 5) C rfl kl_X9_347 dX9_part_9 ?_
  refine x_callSi (rm := rmv 0 0 0 0) (As := [jV (w32 x2), jV (0), jV (5)]) (rest := [iV (r2), .ref (d.ad (50))]) C hA hR0 mf_X9_in lk_X9_75 ⟨rfl, rfl⟩ ⟨Nat.le_of_ble_eq_true rfl, Nat.le_of_ble_eq_true rfl⟩ rfl rfl (Nat.le_of_ble_eq_true rfl) hce dX9_part_12 hq (fun _ _ h => c_X9_in g.l g.G hdm  h) (fun r4 w3 _ hq => ?_)
  refine x_callVi (K := 10) (rm := rmv 1 23 0 0) (As := [iV (r2), iV (r4)]) (rest := []) C hA hR0 mf_X9_passes2 lk_X9_349 rfl (isK_lit hdm rfl rfl) (by decide) ⟨rfl, rfl⟩ ⟨Nat.le_of_ble_eq_true rfl, Nat.le_of_ble_eq_true rfl⟩ rfl rfl (Nat.le_of_ble_eq_true rfl) hce dX9_part_15 hq (fun _ _ h => c_X9_passes2 g.l g.G hdm  h) (fun r6 w5 _ hq => ?_)
  refine x_if_ne (tgt := 23) C dX9_part_18 (by decide) hq (fun hq => ?_) (fun hq => ?_)
  · refine x_aload_n C 0 dX9_part_23 rfl ?_
    refine x_iload_n C 1 dX9_part_24 rfl ?_
    refine x_callVi (K := 10) (rm := rmv 1 21 0 0) (As := [iV (x1)]) (rest := []) C hA hR0 mf_X9_firstOf lk_X9_90 rfl (isK_lit hdm rfl rfl) (by decide) ⟨rfl, rfl⟩ ⟨Nat.le_of_ble_eq_true rfl, Nat.le_of_ble_eq_true rfl⟩ rfl rfl (Nat.le_of_ble_eq_true rfl) hce dX9_part_25 hq (fun _ _ h => c_X9_firstOf g.l g.G hdm  h) (fun r8 w7 _ hq => ?_)
    refine x_istore_n (lv' := [(3, iV (r8)), (0, .ref (d.ad (50))), (1, iV (x1)), (2, iV (x2))]) C dX9_part_28 (by decide) rfl ?_
    refine x_aload_n C 1 dX9_part_29 rfl ?_
    refine x_iload_n C 2 dX9_part_30 rfl ?_
    refine x_callVi (K := 10) (rm := rmv 0 0 0 0) (As := [iV (x1)]) (rest := []) C hA hR0 mf_X9_manyOf lk_X9_86 rfl (isK_lit hdm rfl rfl) (by decide) ⟨rfl, rfl⟩ ⟨Nat.le_of_ble_eq_true rfl, Nat.le_of_ble_eq_true rfl⟩ rfl rfl (Nat.le_of_ble_eq_true rfl) hce dX9_part_31 hq (fun _ _ h => c_X9_manyOf g.l g.G hdm  h) (fun r10 w9 _ hq => ?_)
    refine x_istore (lv' := [(4, iV (r10)), (3, iV (r8)), (0, .ref (d.ad (50))), (1, iV (x1)), (2, iV (x2))]) C dX9_part_34 (by decide) rfl ?_
    refine x_iconst C dX9_part_36 ?_
    refine x_iload C 0 dX9_part_37 rfl ?_
    refine x_aload_n C 2 dX9_part_39 rfl ?_
    refine x_callVi (K := 10) (rm := rmv 8 192 0 0) (As := []) (rest := [iV (r10), iV (0)]) C hA hR0 mf_X9_lay lk_X9_179 rfl (isK_lit hdm rfl rfl) (by decide) ⟨rfl, rfl⟩ ⟨Nat.le_of_ble_eq_true rfl, Nat.le_of_ble_eq_true rfl⟩ rfl rfl (Nat.le_of_ble_eq_true rfl) hce dX9_part_40 hq (fun _ _ h => c_X9_lay g.l g.G hdm  h) (fun r12 w11 _ hq => ?_)
    refine x_iload_n C 1 dX9_part_43 rfl ?_
    refine x_isub C dX9_part_44 ?_
    refine x_min C hR0 lk_X9_231 jm_min_s jm_i jm_min_c ⟨Nat.le_of_ble_eq_true rfl, Nat.le_of_ble_eq_true rfl⟩ hce dX9_part_45 ?_
    refine x_max C hR0 lk_X9_160 jm_max_s jm_i jm_max_c ⟨Nat.le_of_ble_eq_true rfl, Nat.le_of_ble_eq_true rfl⟩ hce dX9_part_48 ?_
    refine x_istore (lv' := [(5, iV (mx32 0 (mn32 r10 (r12 - r8)))), (4, iV (r10)), (3, iV (r8)), (0, .ref (d.ad (50))), (1, iV (x1)), (2, iV (x2))]) C dX9_part_51 (by decide) rfl ?_
    refine x_iload_n C 5 dX9_part_53 rfl ?_
    refine ite_2 hq (fun s13 hq => ?_) (fun s14 hq => ?_)
    · refine x_tswd (tgt := 118) C (Or.inl s13) (by decide +kernel) dX9_part_54 (by decide) ?_
      refine x_iload C 0 dX9_part_118 rfl ?_
      refine x_if_ne (tgt := 127) C dX9_part_120 (by decide) hq (fun hq => ?_) (fun hq => ?_)
      · refine x_aload_n C 3 dX9_part_127 rfl ?_
        refine x_getr (K := 10) (k := 4) (o2 := 53) C (isK_lit hdm rfl rfl) (by decide) cl_X9 (by decide) ⟨rfl, rfl, rfl⟩ fl_X9_27 rfl dX9_part_128 ?_
        refine x_iload_n C 2 dX9_part_131 rfl ?_
        refine x_iload C 0 dX9_part_132 rfl ?_
        refine x_iadd C dX9_part_134 ?_
        refine x_iconst C dX9_part_135 ?_
        refine x_isub C dX9_part_136 ?_
        refine inb_2 hq (fun hi hq => ?_)
        refine x_iald C (isK_lit hdm rfl rfl) hi dX9_part_137 ?_
        exact hR _ _ _ _ hq rfl dX9_part_138
      · refine x_iconst C dX9_part_123 ?_
        refine x_goto (tgt := 138) C dX9_part_124 (by decide) ?_
        exact hR _ _ _ _ hq rfl dX9_part_138
    refine ite_2 hq (fun s15 hq => ?_) (fun s16 hq => ?_)
    · refine x_tswd (tgt := 118) C (Or.inr s15) (by decide +kernel) dX9_part_54 (by decide) ?_
      refine x_iload C 0 dX9_part_118 rfl ?_
      refine x_if_ne (tgt := 127) C dX9_part_120 (by decide) hq (fun hq => ?_) (fun hq => ?_)
      · refine x_aload_n C 3 dX9_part_127 rfl ?_
        refine x_getr (K := 10) (k := 4) (o2 := 53) C (isK_lit hdm rfl rfl) (by decide) cl_X9 (by decide) ⟨rfl, rfl, rfl⟩ fl_X9_27 rfl dX9_part_128 ?_
        refine x_iload_n C 2 dX9_part_131 rfl ?_
        refine x_iload C 0 dX9_part_132 rfl ?_
        refine x_iadd C dX9_part_134 ?_
        refine x_iconst C dX9_part_135 ?_
        refine x_isub C dX9_part_136 ?_
        refine inb_2 hq (fun hi hq => ?_)
        refine x_iald C (isK_lit hdm rfl rfl) hi dX9_part_137 ?_
        exact hR _ _ _ _ hq rfl dX9_part_138
      · refine x_iconst C dX9_part_123 ?_
        refine x_goto (tgt := 138) C dX9_part_124 (by decide) ?_
        exact hR _ _ _ _ hq rfl dX9_part_138
    refine ite_2 hq (fun s17 hq => ?_) (fun s18 hq => ?_)
    · refine ite_2 hq (fun s19 hq => ?_) (fun s20 hq => ?_)
      · refine x_tswk (tgt := 88) C (0) s14 (lt_sw (k := 0) s19 (by decide +kernel)) (by decide +kernel) dX9_part_54 rfl (by decide) ?_
        refine x_aload_n C 3 dX9_part_88 rfl ?_
        refine x_iload_n C 4 dX9_part_89 rfl ?_
        refine x_callVi (K := 10) (rm := rmv 0 0 0 0) (As := [iV (x1)]) (rest := []) C hA hR0 mf_X9_kindOf lk_X9_123 rfl (isK_lit hdm rfl rfl) (by decide) ⟨rfl, rfl⟩ ⟨Nat.le_of_ble_eq_true rfl, Nat.le_of_ble_eq_true rfl⟩ rfl rfl (Nat.le_of_ble_eq_true rfl) hce dX9_part_90 hq (fun _ _ h => c_X9_kindOf g.l g.G hdm  h) (fun r22 w21 _ hq => ?_)
        exact hR _ _ _ _ hq rfl dX9_part_93
      · refine x_tswk (tgt := 94) C (1) s20 (lt_sw (k := 1) s17 (by decide +kernel)) (by decide +kernel) dX9_part_54 rfl (by decide) ?_
        refine x_iload_n C 2 dX9_part_94 rfl ?_
        exact hR _ _ _ _ hq rfl dX9_part_95
    · refine ite_2 hq (fun s23 hq => ?_) (fun s24 hq => ?_)
      · refine x_tswk (tgt := 96) C (2) s18 (lt_sw (k := 2) s23 (by decide +kernel)) (by decide +kernel) dX9_part_54 rfl (by decide) ?_
        refine x_iload C 1 dX9_part_96 rfl ?_
        exact hR _ _ _ _ hq rfl dX9_part_98
      · refine ite_2 hq (fun s25 hq => ?_) (fun s26 hq => ?_)
        · refine x_tswk (tgt := 99) C (3) s24 (lt_sw (k := 3) s25 (by decide +kernel)) (by decide +kernel) dX9_part_54 rfl (by decide) ?_
          refine x_iload C 0 dX9_part_99 rfl ?_
          exact hR _ _ _ _ hq rfl dX9_part_101
        · refine x_tswk (tgt := 102) C (4) s26 s16 (by decide +kernel) dX9_part_54 rfl (by decide) ?_
          refine x_iload C 0 dX9_part_102 rfl ?_
          refine x_if_ne (tgt := 111) C dX9_part_104 (by decide) hq (fun hq => ?_) (fun hq => ?_)
          · refine x_aload_n C 3 dX9_part_111 rfl ?_
            refine x_getr (K := 10) (k := 4) (o2 := 53) C (isK_lit hdm rfl rfl) (by decide) cl_X9 (by decide) ⟨rfl, rfl, rfl⟩ fl_X9_27 rfl dX9_part_112 ?_
            refine x_iload_n C 2 dX9_part_115 rfl ?_
            refine inb_2 hq (fun hi hq => ?_)
            refine x_iald C (isK_lit hdm rfl rfl) hi dX9_part_116 ?_
            exact hR _ _ _ _ hq rfl dX9_part_117
          · refine x_iconst C dX9_part_107 ?_
            refine x_goto (tgt := 117) C dX9_part_108 (by decide) ?_
            exact hR _ _ _ _ hq rfl dX9_part_117
  · refine x_iconst C dX9_part_21 ?_
    exact hR _ _ _ _ hq rfl dX9_part_22
set_option maxRecDepth 100000 in
set_option maxHeartbeats 4000000 in
theorem c_X9_part (l : Launch) (G : Gd) {dm na : Nat} {ad : Nat → Nat} (hdm : dm = 1) {x1 : Int} {x2 : Int} {w w' : Wd} {r : Int}  (hq : p_X9_part x1 x2 w = some (r, w')) : mI l yX9_part cX9_part 6 (some .int) (rmv 9 213 0 0) G dm na ad [.ref (ad (50)), iV (x1), iV (x2)] w r w' := by
  refine met_I [(0, .ref (ad (50))), (1, iV (x1)), (2, iV (x2))] (by decide) (Nat.le_of_ble_eq_true rfl) rfl .int rfl (fun g d C S hR => ?_)
  obtain ⟨rfl, hR0, rfl, rfl, rfl, hA⟩ := S
  exact L_X9_part (d := (na, ad, 0, 0)) C hdm hA hR0 ⟨Nat.zero_le _, Nat.zero_le _⟩ hR  _ _ w hq
set_option maxRecDepth 100000 in
set_option maxHeartbeats 4000000 in
theorem L_X9_carvedOf {g : Cx} {d : Dl} (C : CX g cX9_carvedOf 2 (some .int) RX9) (hdm : g.dm = 1) (hA : ∀ q : Nat, g.s.heap.size ≤ q → g.A q) (hR0 : g.R = rmv 2 44 0 0) (hce : d.ce ≤ g.R.cells ∧ d.so ≤ g.R.slots) {res : Int × Wd} (hR : rtI g d cX9_carvedOf .int res) (x1 : Int) (w : Wd) (hq : p_X9_carvedOf x1 w = some res) : XG g d (hP g d w) [(0, .ref (d.ad (50))), (1, iV (x1))] [] 0 := by
  refine x_iconst C dX9_carvedOf_0 ?_
  refine x_aload_n C 0 dX9_carvedOf_1 rfl ?_
  refine x_iload_n C 1 dX9_carvedOf_2 rfl ?_
  refine x_callVi (K := 10) (rm := rmv 0 0 0 0) (As := [iV (x1)]) (rest := [iV (0)]) C hA hR0 mf_X9_bytesOf lk_X9_106 rfl (isK_lit hdm rfl rfl) (by decide) ⟨rfl, rfl⟩ ⟨Nat.le_of_ble_eq_true rfl, Nat.le_of_ble_eq_true rfl⟩ rfl rfl (Nat.le_of_ble_eq_true rfl) hce dX9_carvedOf_3 hq (fun _ _ h => c_X9_bytesOf g.l g.G hdm  h) (fun r2 w1 _ hq => ?_)
  refine x_aload_n C 0 dX9_carvedOf_6 rfl ?_
  refine x_getr (K := 10) (k := 1) (o2 := 51) C (isK_lit hdm rfl rfl) (by decide) cl_X9 (by decide) ⟨rfl, rfl, rfl⟩ fl_X9_17 rfl dX9_carvedOf_7 ?_
  refine x_bipush (v := 8) C dX9_carvedOf_10 (by decide +kernel) ?_
  refine inb_2 hq (fun hi hq => ?_)
  refine x_iald C (isK_lit hdm rfl rfl) hi dX9_carvedOf_12 ?_
  refine x_aload_n C 0 dX9_carvedOf_13 rfl ?_
  refine x_iload_n C 1 dX9_carvedOf_14 rfl ?_
  refine x_callVi (K := 10) (rm := rmv 1 21 0 0) (As := [iV (x1)]) (rest := [iV (gA w1 51 8), iV (r2), iV (0)]) C hA hR0 mf_X9_lettersAhead lk_X9_145 rfl (isK_lit hdm rfl rfl) (by decide) ⟨rfl, rfl⟩ ⟨Nat.le_of_ble_eq_true rfl, Nat.le_of_ble_eq_true rfl⟩ rfl rfl (Nat.le_of_ble_eq_true rfl) hce dX9_carvedOf_15 hq (fun _ _ h => c_X9_lettersAhead g.l g.G hdm  h) (fun r4 w3 _ hq => ?_)
  refine x_isub C dX9_carvedOf_18 ?_
  refine x_min C hR0 lk_X9_231 jm_min_s jm_i jm_min_c ⟨Nat.le_of_ble_eq_true rfl, Nat.le_of_ble_eq_true rfl⟩ hce dX9_carvedOf_19 ?_
  refine x_max C hR0 lk_X9_160 jm_max_s jm_i jm_max_c ⟨Nat.le_of_ble_eq_true rfl, Nat.le_of_ble_eq_true rfl⟩ hce dX9_carvedOf_22 ?_
  exact hR _ _ _ _ hq rfl dX9_carvedOf_25
set_option maxRecDepth 100000 in
set_option maxHeartbeats 4000000 in
theorem c_X9_carvedOf (l : Launch) (G : Gd) {dm na : Nat} {ad : Nat → Nat} (hdm : dm = 1) {x1 : Int} {w w' : Wd} {r : Int}  (hq : p_X9_carvedOf x1 w = some (r, w')) : mI l yX9_carvedOf cX9_carvedOf 2 (some .int) (rmv 2 44 0 0) G dm na ad [.ref (ad (50)), iV (x1)] w r w' := by
  refine met_I [(0, .ref (ad (50))), (1, iV (x1))] (by decide) (Nat.le_of_ble_eq_true rfl) rfl .int rfl (fun g d C S hR => ?_)
  obtain ⟨rfl, hR0, rfl, rfl, rfl, hA⟩ := S
  exact L_X9_carvedOf (d := (na, ad, 0, 0)) C hdm hA hR0 ⟨Nat.zero_le _, Nat.zero_le _⟩ hR  _ w hq
set_option maxRecDepth 100000 in
set_option maxHeartbeats 4000000 in
theorem L_X9_word_36 {g : Cx} {d : Dl} (C : CX g cX9_word 4 (some .int) RX9) (hdm : g.dm = 1) (hA : ∀ q : Nat, g.s.heap.size ≤ q → g.A q) (hR0 : g.R = rmv 9 213 0 0) (hce : d.ce ≤ g.R.cells ∧ d.so ≤ g.R.slots) {res : Int × Wd} (hR : rtI g d cX9_word .int res) (x1 : Int) (x2 : Int) (s0 : Int) (w : Wd) (hq : p_X9_word_36 x1 x2 s0 w = some res) : XG g d (hP g d w) [(0, .ref (d.ad (50))), (1, iV (x1)), (2, iV (x2))] [iV (s0)] 36 := by
  refine x_istore_n (lv' := [(3, iV (s0)), (0, .ref (d.ad (50))), (1, iV (x1)), (2, iV (x2))]) C dX9_word_36 (by decide) rfl ?_
  refine x_iload_n C 3 dX9_word_37 rfl ?_
  refine ite_2 hq (fun s5 hq => ?_) (fun s6 hq => ?_)
  · refine x_tswd (tgt := 128) C (Or.inl s5) (by decide +kernel) dX9_word_38 (by decide) ?_
    refine x_iload_n C 0 dX9_word_128 rfl ?_
    refine x_if_eq (tgt := 140) C dX9_word_129 (by decide) hq (fun hq => ?_) (fun hq => ?_)
    · refine x_iconst C dX9_word_140 ?_
      exact hR _ _ _ _ hq rfl dX9_word_141
    · refine x_aload_n C 1 dX9_word_132 rfl ?_
      refine x_iload_n C 2 dX9_word_133 rfl ?_
      refine x_callVi (K := 10) (rm := rmv 2 44 0 0) (As := [iV (x1)]) (rest := []) C hA hR0 mf_X9_carvedOf lk_X9_362 rfl (isK_lit hdm rfl rfl) (by decide) ⟨rfl, rfl⟩ ⟨Nat.le_of_ble_eq_true rfl, Nat.le_of_ble_eq_true rfl⟩ rfl rfl (Nat.le_of_ble_eq_true rfl) hce dX9_word_134 hq (fun _ _ h => c_X9_carvedOf g.l g.G hdm  h) (fun r2 w1 _ hq => ?_)
      refine x_goto (tgt := 141) C dX9_word_137 (by decide) ?_
      exact hR _ _ _ _ hq rfl dX9_word_141
  refine ite_2 hq (fun s7 hq => ?_) (fun s8 hq => ?_)
  · refine x_tswd (tgt := 128) C (Or.inr s7) (by decide +kernel) dX9_word_38 (by decide) ?_
    refine x_iload_n C 0 dX9_word_128 rfl ?_
    refine x_if_eq (tgt := 140) C dX9_word_129 (by decide) hq (fun hq => ?_) (fun hq => ?_)
    · refine x_iconst C dX9_word_140 ?_
      exact hR _ _ _ _ hq rfl dX9_word_141
    · refine x_aload_n C 1 dX9_word_132 rfl ?_
      refine x_iload_n C 2 dX9_word_133 rfl ?_
      refine x_callVi (K := 10) (rm := rmv 2 44 0 0) (As := [iV (x1)]) (rest := []) C hA hR0 mf_X9_carvedOf lk_X9_362 rfl (isK_lit hdm rfl rfl) (by decide) ⟨rfl, rfl⟩ ⟨Nat.le_of_ble_eq_true rfl, Nat.le_of_ble_eq_true rfl⟩ rfl rfl (Nat.le_of_ble_eq_true rfl) hce dX9_word_134 hq (fun _ _ h => c_X9_carvedOf g.l g.G hdm  h) (fun r4 w3 _ hq => ?_)
      refine x_goto (tgt := 141) C dX9_word_137 (by decide) ?_
      exact hR _ _ _ _ hq rfl dX9_word_141
  refine ite_2 hq (fun s9 hq => ?_) (fun s10 hq => ?_)
  · refine ite_2 hq (fun s11 hq => ?_) (fun s12 hq => ?_)
    · refine x_tswk (tgt := 72) C (0) s6 (lt_sw (k := 0) s11 (by decide +kernel)) (by decide +kernel) dX9_word_38 rfl (by decide) ?_
      refine x_aload_n C 1 dX9_word_72 rfl ?_
      refine x_iload_n C 2 dX9_word_73 rfl ?_
      refine x_callVi (K := 10) (rm := rmv 2 44 0 0) (As := [iV (x1)]) (rest := []) C hA hR0 mf_X9_partOf lk_X9_356 rfl (isK_lit hdm rfl rfl) (by decide) ⟨rfl, rfl⟩ ⟨Nat.le_of_ble_eq_true rfl, Nat.le_of_ble_eq_true rfl⟩ rfl rfl (Nat.le_of_ble_eq_true rfl) hce dX9_word_74 hq (fun _ _ h => c_X9_partOf g.l g.G hdm  h) (fun r14 w13 _ hq => ?_)
      exact hR _ _ _ _ hq rfl dX9_word_77
    · refine x_tswk (tgt := 78) C (1) s12 (lt_sw (k := 1) s9 (by decide +kernel)) (by decide +kernel) dX9_word_38 rfl (by decide) ?_
      refine x_aload_n C 1 dX9_word_78 rfl ?_
      refine x_iload_n C 2 dX9_word_79 rfl ?_
      refine x_callVi (K := 10) (rm := rmv 0 0 0 0) (As := [iV (x1)]) (rest := []) C hA hR0 mf_X9_bytesOf lk_X9_106 rfl (isK_lit hdm rfl rfl) (by decide) ⟨rfl, rfl⟩ ⟨Nat.le_of_ble_eq_true rfl, Nat.le_of_ble_eq_true rfl⟩ rfl rfl (Nat.le_of_ble_eq_true rfl) hce dX9_word_80 hq (fun _ _ h => c_X9_bytesOf g.l g.G hdm  h) (fun r16 w15 _ hq => ?_)
      exact hR _ _ _ _ hq rfl dX9_word_83
  · refine ite_2 hq (fun s17 hq => ?_) (fun s18 hq => ?_)
    · refine x_tswk (tgt := 84) C (2) s10 (lt_sw (k := 2) s17 (by decide +kernel)) (by decide +kernel) dX9_word_38 rfl (by decide) ?_
      refine x_iload_n C 0 dX9_word_84 rfl ?_
      refine x_if_eq (tgt := 97) C dX9_word_85 (by decide) hq (fun hq => ?_) (fun hq => ?_)
      · refine x_iconst C dX9_word_97 ?_
        exact hR _ _ _ _ hq rfl dX9_word_98
      · refine x_aload_n C 1 dX9_word_88 rfl ?_
        refine x_getr (K := 10) (k := 4) (o2 := 53) C (isK_lit hdm rfl rfl) (by decide) cl_X9 (by decide) ⟨rfl, rfl, rfl⟩ fl_X9_27 rfl dX9_word_89 ?_
        refine x_iload_n C 2 dX9_word_92 rfl ?_
        refine inb_2 hq (fun hi hq => ?_)
        refine x_iald C (isK_lit hdm rfl rfl) hi dX9_word_93 ?_
        refine x_goto (tgt := 98) C dX9_word_94 (by decide) ?_
        exact hR _ _ _ _ hq rfl dX9_word_98
    · refine ite_2 hq (fun s19 hq => ?_) (fun s20 hq => ?_)
      · refine x_tswk (tgt := 99) C (3) s18 (lt_sw (k := 3) s19 (by decide +kernel)) (by decide +kernel) dX9_word_38 rfl (by decide) ?_
        refine x_iload_n C 0 dX9_word_99 rfl ?_
        refine x_if_eq (tgt := 112) C dX9_word_100 (by decide) hq (fun hq => ?_) (fun hq => ?_)
        · refine x_iconst C dX9_word_112 ?_
          exact hR _ _ _ _ hq rfl dX9_word_113
        · refine x_aload_n C 1 dX9_word_103 rfl ?_
          refine x_getr (K := 10) (k := 5) (o2 := 54) C (isK_lit hdm rfl rfl) (by decide) cl_X9 (by decide) ⟨rfl, rfl, rfl⟩ fl_X9_30 rfl dX9_word_104 ?_
          refine x_iload_n C 2 dX9_word_107 rfl ?_
          refine inb_2 hq (fun hi hq => ?_)
          refine x_iald C (isK_lit hdm rfl rfl) hi dX9_word_108 ?_
          refine x_goto (tgt := 113) C dX9_word_109 (by decide) ?_
          exact hR _ _ _ _ hq rfl dX9_word_113
      · refine x_tswk (tgt := 114) C (4) s20 s8 (by decide +kernel) dX9_word_38 rfl (by decide) ?_
        refine x_iload_n C 0 dX9_word_114 rfl ?_
        refine x_if_eq (tgt := 126) C dX9_word_115 (by decide) hq (fun hq => ?_) (fun hq => ?_)
        · refine x_iconst C dX9_word_126 ?_
          exact hR _ _ _ _ hq rfl dX9_word_127
        · refine x_aload_n C 1 dX9_word_118 rfl ?_
          refine x_iload_n C 2 dX9_word_119 rfl ?_
          refine x_callVi (K := 10) (rm := rmv 5 114 0 0) (As := [iV (x1)]) (rest := []) C hA hR0 mf_X9_strokesOfWord lk_X9_359 rfl (isK_lit hdm rfl rfl) (by decide) ⟨rfl, rfl⟩ ⟨Nat.le_of_ble_eq_true rfl, Nat.le_of_ble_eq_true rfl⟩ rfl rfl (Nat.le_of_ble_eq_true rfl) hce dX9_word_120 hq (fun _ _ h => c_X9_strokesOfWord g.l g.G hdm  h) (fun r22 w21 _ hq => ?_)
          refine x_goto (tgt := 127) C dX9_word_123 (by decide) ?_
          exact hR _ _ _ _ hq rfl dX9_word_127
set_option maxRecDepth 100000 in
set_option maxHeartbeats 4000000 in
theorem L_X9_word {g : Cx} {d : Dl} (C : CX g cX9_word 4 (some .int) RX9) (hdm : g.dm = 1) (hA : ∀ q : Nat, g.s.heap.size ≤ q → g.A q) (hR0 : g.R = rmv 9 213 0 0) (hce : d.ce ≤ g.R.cells ∧ d.so ≤ g.R.slots) {res : Int × Wd} (hR : rtI g d cX9_word .int res) (x1 : Int) (x2 : Int) (w : Wd) (hq : p_X9_word x1 x2 w = some res) : XG g d (hP g d w) [(0, .ref (d.ad (50))), (1, iV (x1)), (2, iV (x2))] [] 0 := by
  refine x_aload_n C 0 dX9_word_0 rfl ?_
  refine x_aload_n C 0 dX9_word_1 rfl ?_
  refine x_iload_n C 1 dX9_word_2 rfl ?_
  refine x_callVi (K := 10) (rm := rmv 1 25 0 0) (As := [iV (x1)]) (rest := [.ref (d.ad (50))]) C hA hR0 mf_X9_isWordNumber lk_X9_353 rfl (isK_lit hdm rfl rfl) (by decide) ⟨rfl, rfl⟩ ⟨Nat.le_of_ble_eq_true rfl, Nat.le_of_ble_eq_true rfl⟩ rfl rfl (Nat.le_of_ble_eq_true rfl) hce dX9_word_3 hq (fun _ _ h => c_X9_isWordNumber g.l g.G hdm  h) (fun r2 w1 _ hq => ?_)
  refine x_iload_n C 2 dX9_word_6 rfl ?_
  refine x_i2l C dX9_word_7 ?_
  refine x_lconst C dX9_word_8 ?_
  refine x_ldc2 (v := 5) C rfl kl_X9_347 dX9_word_9 ?_
  refine x_callSi (rm := rmv 0 0 0 0) (As := [jV (w32 x2), jV (0), jV (5)]) (rest := [iV (r2), .ref (d.ad (50))]) C hA hR0 mf_X9_in lk_X9_75 ⟨rfl, rfl⟩ ⟨Nat.le_of_ble_eq_true rfl, Nat.le_of_ble_eq_true rfl⟩ rfl rfl (Nat.le_of_ble_eq_true rfl) hce dX9_word_12 hq (fun _ _ h => c_X9_in g.l g.G hdm  h) (fun r4 w3 _ hq => ?_)
  refine x_callVi (K := 10) (rm := rmv 1 23 0 0) (As := [iV (r2), iV (r4)]) (rest := []) C hA hR0 mf_X9_passes2 lk_X9_349 rfl (isK_lit hdm rfl rfl) (by decide) ⟨rfl, rfl⟩ ⟨Nat.le_of_ble_eq_true rfl, Nat.le_of_ble_eq_true rfl⟩ rfl rfl (Nat.le_of_ble_eq_true rfl) hce dX9_word_15 hq (fun _ _ h => c_X9_passes2 g.l g.G hdm  h) (fun r6 w5 _ hq => ?_)
  refine x_if_ne (tgt := 23) C dX9_word_18 (by decide) hq (fun hq => ?_) (fun hq => ?_)
  · refine x_iload_n C 1 dX9_word_23 rfl ?_
    refine x_aload_n C 0 dX9_word_24 rfl ?_
    refine x_callVi (K := 10) (rm := rmv 8 192 0 0) (As := []) (rest := [iV (x1)]) C hA hR0 mf_X9_lay lk_X9_179 rfl (isK_lit hdm rfl rfl) (by decide) ⟨rfl, rfl⟩ ⟨Nat.le_of_ble_eq_true rfl, Nat.le_of_ble_eq_true rfl⟩ rfl rfl (Nat.le_of_ble_eq_true rfl) hce dX9_word_25 hq (fun _ _ h => c_X9_lay g.l g.G hdm  h) (fun r8 w7 _ hq => ?_)
    refine x_icmp_ge (tgt := 35) C dX9_word_28 (by decide) hq (fun hq => ?_) (fun hq => ?_)
    · refine x_iconst C dX9_word_35 ?_
      exact L_X9_word_36 C hdm hA hR0 hce hR _ _ _ _ hq
    · refine x_iconst C dX9_word_31 ?_
      refine x_goto (tgt := 36) C dX9_word_32 (by decide) ?_
      exact L_X9_word_36 C hdm hA hR0 hce hR _ _ _ _ hq
  · refine x_iconst C dX9_word_21 ?_
    exact hR _ _ _ _ hq rfl dX9_word_22
set_option maxRecDepth 100000 in
set_option maxHeartbeats 4000000 in
theorem c_X9_word (l : Launch) (G : Gd) {dm na : Nat} {ad : Nat → Nat} (hdm : dm = 1) {x1 : Int} {x2 : Int} {w w' : Wd} {r : Int}  (hq : p_X9_word x1 x2 w = some (r, w')) : mI l yX9_word cX9_word 4 (some .int) (rmv 9 213 0 0) G dm na ad [.ref (ad (50)), iV (x1), iV (x2)] w r w' := by
  refine met_I [(0, .ref (ad (50))), (1, iV (x1)), (2, iV (x2))] (by decide) (Nat.le_of_ble_eq_true rfl) rfl .int rfl (fun g d C S hR => ?_)
  obtain ⟨rfl, hR0, rfl, rfl, rfl, hA⟩ := S
  exact L_X9_word (d := (na, ad, 0, 0)) C hdm hA hR0 ⟨Nat.zero_le _, Nat.zero_le _⟩ hR  _ _ w hq
set_option maxRecDepth 100000 in
set_option maxHeartbeats 4000000 in
theorem L_X9_letter_33 {g : Cx} {d : Dl} (C : CX g cX9_letter 4 (some .int) RX9) (hdm : g.dm = 1) (hA : ∀ q : Nat, g.s.heap.size ≤ q → g.A q) (hR0 : g.R = rmv 2 46 0 0) (hce : d.ce ≤ g.R.cells ∧ d.so ≤ g.R.slots) {res : Int × Wd} (hR : rtI g d cX9_letter .int res) (x1 : Int) (x2 : Int) (s0 : Int) (w : Wd) (hq : p_X9_letter_33 x1 x2 s0 w = some res) : XG g d (hP g d w) [(0, .ref (d.ad (50))), (1, iV (x1)), (2, iV (x2))] [iV (s0), .ref (d.ad (50))] 33 := by
  refine x_callVi (K := 10) (rm := rmv 1 23 0 0) (As := [iV (s0)]) (rest := []) C hA hR0 mf_X9_passes lk_X9_191 rfl (isK_lit hdm rfl rfl) (by decide) ⟨rfl, rfl⟩ ⟨Nat.le_of_ble_eq_true rfl, Nat.le_of_ble_eq_true rfl⟩ rfl rfl (Nat.le_of_ble_eq_true rfl) hce dX9_letter_33 hq (fun _ _ h => c_X9_passes g.l g.G hdm  h) (fun r2 w1 _ hq => ?_)
  refine x_if_eq (tgt := 48) C dX9_letter_36 (by decide) hq (fun hq => ?_) (fun hq => ?_)
  · refine x_iconst C dX9_letter_48 ?_
    exact hR _ _ _ _ hq rfl dX9_letter_49
  · refine x_aload_n C 0 dX9_letter_39 rfl ?_
    refine x_iload_n C 1 dX9_letter_40 rfl ?_
    refine x_iload_n C 2 dX9_letter_41 rfl ?_
    refine x_callVi (K := 10) (rm := rmv 0 0 0 0) (As := [iV (x1), iV (x2)]) (rest := []) C hA hR0 mf_X9_byteOf lk_X9_132 rfl (isK_lit hdm rfl rfl) (by decide) ⟨rfl, rfl⟩ ⟨Nat.le_of_ble_eq_true rfl, Nat.le_of_ble_eq_true rfl⟩ rfl rfl (Nat.le_of_ble_eq_true rfl) hce dX9_letter_42 hq (fun _ _ h => c_X9_byteOf g.l g.G hdm  h) (fun r4 w3 _ hq => ?_)
    refine x_goto (tgt := 49) C dX9_letter_45 (by decide) ?_
    exact hR _ _ _ _ hq rfl dX9_letter_49
set_option maxRecDepth 100000 in
set_option maxHeartbeats 4000000 in
theorem L_X9_letter_32 {g : Cx} {d : Dl} (C : CX g cX9_letter 4 (some .int) RX9) (hdm : g.dm = 1) (hA : ∀ q : Nat, g.s.heap.size ≤ q → g.A q) (hR0 : g.R = rmv 2 46 0 0) (hce : d.ce ≤ g.R.cells ∧ d.so ≤ g.R.slots) {res : Int × Wd} (hR : rtI g d cX9_letter .int res) (x1 : Int) (x2 : Int) (w : Wd) (hq : p_X9_letter_32 x1 x2 w = some res) : XG g d (hP g d w) [(0, .ref (d.ad (50))), (1, iV (x1)), (2, iV (x2))] [.ref (d.ad (50))] 32 := by
  refine x_iconst C dX9_letter_32 ?_
  exact L_X9_letter_33 C hdm hA hR0 hce hR _ _ _ _ hq
set_option maxRecDepth 100000 in
set_option maxHeartbeats 4000000 in
theorem L_X9_letter {g : Cx} {d : Dl} (C : CX g cX9_letter 4 (some .int) RX9) (hdm : g.dm = 1) (hA : ∀ q : Nat, g.s.heap.size ≤ q → g.A q) (hR0 : g.R = rmv 2 46 0 0) (hce : d.ce ≤ g.R.cells ∧ d.so ≤ g.R.slots) {res : Int × Wd} (hR : rtI g d cX9_letter .int res) (x1 : Int) (x2 : Int) (w : Wd) (hq : p_X9_letter x1 x2 w = some res) : XG g d (hP g d w) [(0, .ref (d.ad (50))), (1, iV (x1)), (2, iV (x2))] [] 0 := by
  refine x_aload_n C 0 dX9_letter_0 rfl ?_
  refine x_iload_n C 1 dX9_letter_1 rfl ?_
  refine x_callVi (K := 10) (rm := rmv 1 25 0 0) (As := [iV (x1)]) (rest := []) C hA hR0 mf_X9_isWordNumber lk_X9_353 rfl (isK_lit hdm rfl rfl) (by decide) ⟨rfl, rfl⟩ ⟨Nat.le_of_ble_eq_true rfl, Nat.le_of_ble_eq_true rfl⟩ rfl rfl (Nat.le_of_ble_eq_true rfl) hce dX9_letter_2 hq (fun _ _ h => c_X9_isWordNumber g.l g.G hdm  h) (fun r2 w1 _ hq => ?_)
  refine x_istore_n (lv' := [(3, iV (r2)), (0, .ref (d.ad (50))), (1, iV (x1)), (2, iV (x2))]) C dX9_letter_5 (by decide) rfl ?_
  refine x_aload_n C 1 dX9_letter_6 rfl ?_
  refine x_iload_n C 0 dX9_letter_7 rfl ?_
  refine x_if_eq (tgt := 32) C dX9_letter_8 (by decide) hq (fun hq => ?_) (fun hq => ?_)
  · refine XG.sub [1, 2, 3] rfl ?_
    exact L_X9_letter_32 C hdm hA hR0 hce hR _ _ _ hq
  · refine x_iload_n C 3 dX9_letter_11 rfl ?_
    refine x_i2l C dX9_letter_12 ?_
    refine x_lconst C dX9_letter_13 ?_
    refine x_aload_n C 1 dX9_letter_14 rfl ?_
    refine x_iload_n C 2 dX9_letter_15 rfl ?_
    refine x_callVi (K := 10) (rm := rmv 0 0 0 0) (As := [iV (x1)]) (rest := [jV (0), jV (w32 x2), .ref (d.ad (50))]) C hA hR0 mf_X9_bytesOf lk_X9_106 rfl (isK_lit hdm rfl rfl) (by decide) ⟨rfl, rfl⟩ ⟨Nat.le_of_ble_eq_true rfl, Nat.le_of_ble_eq_true rfl⟩ rfl rfl (Nat.le_of_ble_eq_true rfl) hce dX9_letter_16 hq (fun _ _ h => c_X9_bytesOf g.l g.G hdm  h) (fun r4 w3 _ hq => ?_)
    refine x_iconst C dX9_letter_19 ?_
    refine x_isub C dX9_letter_20 ?_
    refine x_i2l C dX9_letter_21 ?_
    refine x_callSi (rm := rmv 0 0 0 0) (As := [jV (w32 x2), jV (0), jV (w32 (r4 - 1))]) (rest := [.ref (d.ad (50))]) C hA hR0 mf_X9_in lk_X9_75 ⟨rfl, rfl⟩ ⟨Nat.le_of_ble_eq_true rfl, Nat.le_of_ble_eq_true rfl⟩ rfl rfl (Nat.le_of_ble_eq_true rfl) hce dX9_letter_22 hq (fun _ _ h => c_X9_in g.l g.G hdm  h) (fun r6 w5 _ hq => ?_)
    refine x_if_eq (tgt := 32) C dX9_letter_25 (by decide) hq (fun hq => ?_) (fun hq => ?_)
    · refine XG.sub [1, 2, 3] rfl ?_
      exact L_X9_letter_32 C hdm hA hR0 hce hR _ _ _ hq
    · refine x_iconst C dX9_letter_28 ?_
      refine x_goto (tgt := 33) C dX9_letter_29 (by decide) ?_
      refine XG.sub [1, 2, 3] rfl ?_
      exact L_X9_letter_33 C hdm hA hR0 hce hR _ _ _ _ hq
set_option maxRecDepth 100000 in
set_option maxHeartbeats 4000000 in
theorem c_X9_letter (l : Launch) (G : Gd) {dm na : Nat} {ad : Nat → Nat} (hdm : dm = 1) {x1 : Int} {x2 : Int} {w w' : Wd} {r : Int}  (hq : p_X9_letter x1 x2 w = some (r, w')) : mI l yX9_letter cX9_letter 4 (some .int) (rmv 2 46 0 0) G dm na ad [.ref (ad (50)), iV (x1), iV (x2)] w r w' := by
  refine met_I [(0, .ref (ad (50))), (1, iV (x1)), (2, iV (x2))] (by decide) (Nat.le_of_ble_eq_true rfl) rfl .int rfl (fun g d C S hR => ?_)
  obtain ⟨rfl, hR0, rfl, rfl, rfl, hA⟩ := S
  exact L_X9_letter (d := (na, ad, 0, 0)) C hdm hA hR0 ⟨Nat.zero_le _, Nat.zero_le _⟩ hR  _ _ w hq
set_option maxRecDepth 100000 in
set_option maxHeartbeats 4000000 in
theorem L_X9_cell {g : Cx} {d : Dl} (C : CX g cX9_cell 5 (some .int) RX9) (hdm : g.dm = 1) (hA : ∀ q : Nat, g.s.heap.size ≤ q → g.A q) (hR0 : g.R = rmv 9 213 0 0) (hce : d.ce ≤ g.R.cells ∧ d.so ≤ g.R.slots) {res : Int × Wd} (hR : rtI g d cX9_cell .int res) (x1 : Int) (x2 : Int) (w : Wd) (hq : p_X9_cell x1 x2 w = some res) : XG g d (hP g d w) [(0, .ref (d.ad (50))), (1, iV (x1)), (2, iV (x2))] [] 0 := by
  refine x_aload_n C 0 dX9_cell_0 rfl ?_
  refine x_aload_n C 0 dX9_cell_1 rfl ?_
  refine x_iload_n C 1 dX9_cell_2 rfl ?_
  refine x_iload_n C 2 dX9_cell_3 rfl ?_
  refine x_callVi (K := 10) (rm := rmv 1 25 0 0) (As := [iV (x1), iV (x2)]) (rest := [.ref (d.ad (50))]) C hA hR0 mf_X9_isCell lk_X9_82 rfl (isK_lit hdm rfl rfl) (by decide) ⟨rfl, rfl⟩ ⟨Nat.le_of_ble_eq_true rfl, Nat.le_of_ble_eq_true rfl⟩ rfl rfl (Nat.le_of_ble_eq_true rfl) hce dX9_cell_4 hq (fun _ _ h => c_X9_isCell g.l g.G hdm  h) (fun r2 w1 _ hq => ?_)
  refine x_callVi (K := 10) (rm := rmv 1 23 0 0) (As := [iV (r2)]) (rest := []) C hA hR0 mf_X9_passes lk_X9_191 rfl (isK_lit hdm rfl rfl) (by decide) ⟨rfl, rfl⟩ ⟨Nat.le_of_ble_eq_true rfl, Nat.le_of_ble_eq_true rfl⟩ rfl rfl (Nat.le_of_ble_eq_true rfl) hce dX9_cell_7 hq (fun _ _ h => c_X9_passes g.l g.G hdm  h) (fun r4 w3 _ hq => ?_)
  refine x_if_ne (tgt := 15) C dX9_cell_10 (by decide) hq (fun hq => ?_) (fun hq => ?_)
  · refine x_aload_n C 0 dX9_cell_15 rfl ?_
    refine x_callVi (K := 10) (rm := rmv 8 192 0 0) (As := []) (rest := []) C hA hR0 mf_X9_lay lk_X9_179 rfl (isK_lit hdm rfl rfl) (by decide) ⟨rfl, rfl⟩ ⟨Nat.le_of_ble_eq_true rfl, Nat.le_of_ble_eq_true rfl⟩ rfl rfl (Nat.le_of_ble_eq_true rfl) hce dX9_cell_16 hq (fun _ _ h => c_X9_lay g.l g.G hdm  h) (fun r6 w5 _ hq => ?_)
    refine x_istore_n (lv' := [(3, iV (r6)), (0, .ref (d.ad (50))), (1, iV (x1)), (2, iV (x2))]) C dX9_cell_19 (by decide) rfl ?_
    refine x_aload_n C 1 dX9_cell_20 rfl ?_
    refine x_iload_n C 2 dX9_cell_21 rfl ?_
    refine x_iload_n C 3 dX9_cell_22 rfl ?_
    refine x_callVi (K := 10) (rm := rmv 1 25 0 0) (As := [iV (x1), iV (x2)]) (rest := []) C hA hR0 mf_X9_wordIn lk_X9_365 rfl (isK_lit hdm rfl rfl) (by decide) ⟨rfl, rfl⟩ ⟨Nat.le_of_ble_eq_true rfl, Nat.le_of_ble_eq_true rfl⟩ rfl rfl (Nat.le_of_ble_eq_true rfl) hce dX9_cell_23 hq (fun _ _ h => c_X9_wordIn g.l g.G hdm  h) (fun r8 w7 _ hq => ?_)
    refine x_istore (lv' := [(4, iV (r8)), (3, iV (r6)), (0, .ref (d.ad (50))), (1, iV (x1)), (2, iV (x2))]) C dX9_cell_26 (by decide) rfl ?_
    refine x_aload_n C 2 dX9_cell_28 rfl ?_
    refine x_iload_n C 3 dX9_cell_29 rfl ?_
    refine x_iload_n C 4 dX9_cell_30 rfl ?_
    refine x_callVi (K := 10) (rm := rmv 2 47 0 0) (As := [iV (x1), iV (x2)]) (rest := []) C hA hR0 mf_X9_hasFlaw lk_X9_93 rfl (isK_lit hdm rfl rfl) (by decide) ⟨rfl, rfl⟩ ⟨Nat.le_of_ble_eq_true rfl, Nat.le_of_ble_eq_true rfl⟩ rfl rfl (Nat.le_of_ble_eq_true rfl) hce dX9_cell_31 hq (fun _ _ h => c_X9_hasFlaw g.l g.G hdm  h) (fun r10 w9 _ hq => ?_)
    refine x_if_eq (tgt := 41) C dX9_cell_34 (by decide) hq (fun hq => ?_) (fun hq => ?_)
    · refine x_iload C 0 dX9_cell_41 rfl ?_
      refine x_iconst C dX9_cell_43 ?_
      refine x_icmp_ne (tgt := 51) C dX9_cell_44 (by decide) hq (fun hq => ?_) (fun hq => ?_)
      · refine x_aload_n C 2 dX9_cell_51 rfl ?_
        refine x_iload C 0 dX9_cell_52 rfl ?_
        refine x_iload_n C 3 dX9_cell_54 rfl ?_
        refine x_aload_n C 2 dX9_cell_55 rfl ?_
        refine x_getr (K := 10) (k := 5) (o2 := 54) C (isK_lit hdm rfl rfl) (by decide) cl_X9 (by decide) ⟨rfl, rfl, rfl⟩ fl_X9_30 rfl dX9_cell_56 ?_
        refine x_iload C 0 dX9_cell_59 rfl ?_
        refine inb_2 hq (fun hi hq => ?_)
        refine x_iald C (isK_lit hdm rfl rfl) hi dX9_cell_61 ?_
        refine x_isub C dX9_cell_62 ?_
        refine x_callVi (K := 10) (rm := rmv 0 0 0 0) (As := [iV (r8), iV (x1 - (gA w9 54 r8))]) (rest := []) C hA hR0 mf_X9_byteOf lk_X9_132 rfl (isK_lit hdm rfl rfl) (by decide) ⟨rfl, rfl⟩ ⟨Nat.le_of_ble_eq_true rfl, Nat.le_of_ble_eq_true rfl⟩ rfl rfl (Nat.le_of_ble_eq_true rfl) hce dX9_cell_63 hq (fun _ _ h => c_X9_byteOf g.l g.G hdm  h) (fun r12 w11 _ hq => ?_)
        exact hR _ _ _ _ hq rfl dX9_cell_66
      · refine x_iconst C dX9_cell_47 ?_
        refine x_goto (tgt := 66) C dX9_cell_48 (by decide) ?_
        exact hR _ _ _ _ hq rfl dX9_cell_66
    · refine x_iconst C dX9_cell_37 ?_
      refine x_goto (tgt := 66) C dX9_cell_38 (by decide) ?_
      exact hR _ _ _ _ hq rfl dX9_cell_66
  · refine x_iconst C dX9_cell_13 ?_
    exact hR _ _ _ _ hq rfl dX9_cell_14
set_option maxRecDepth 100000 in
set_option maxHeartbeats 4000000 in
theorem c_X9_cell (l : Launch) (G : Gd) {dm na : Nat} {ad : Nat → Nat} (hdm : dm = 1) {x1 : Int} {x2 : Int} {w w' : Wd} {r : Int}  (hq : p_X9_cell x1 x2 w = some (r, w')) : mI l yX9_cell cX9_cell 5 (some .int) (rmv 9 213 0 0) G dm na ad [.ref (ad (50)), iV (x1), iV (x2)] w r w' := by
  refine met_I [(0, .ref (ad (50))), (1, iV (x1)), (2, iV (x2))] (by decide) (Nat.le_of_ble_eq_true rfl) rfl .int rfl (fun g d C S hR => ?_)
  obtain ⟨rfl, hR0, rfl, rfl, rfl, hA⟩ := S
  exact L_X9_cell (d := (na, ad, 0, 0)) C hdm hA hR0 ⟨Nat.zero_le _, Nat.zero_le _⟩ hR  _ _ w hq
set_option maxRecDepth 100000 in
set_option maxHeartbeats 4000000 in
theorem L_X9_wordAt {g : Cx} {d : Dl} (C : CX g cX9_wordAt 4 (some .int) RX9) (hdm : g.dm = 1) (hA : ∀ q : Nat, g.s.heap.size ≤ q → g.A q) (hR0 : g.R = rmv 9 213 0 0) (hce : d.ce ≤ g.R.cells ∧ d.so ≤ g.R.slots) {res : Int × Wd} (hR : rtI g d cX9_wordAt .int res) (x1 : Int) (x2 : Int) (w : Wd) (hq : p_X9_wordAt x1 x2 w = some res) : XG g d (hP g d w) [(0, .ref (d.ad (50))), (1, iV (x1)), (2, iV (x2))] [] 0 := by
  refine x_aload_n C 0 dX9_wordAt_0 rfl ?_
  refine x_aload_n C 0 dX9_wordAt_1 rfl ?_
  refine x_iload_n C 1 dX9_wordAt_2 rfl ?_
  refine x_iload_n C 2 dX9_wordAt_3 rfl ?_
  refine x_callVi (K := 10) (rm := rmv 1 25 0 0) (As := [iV (x1), iV (x2)]) (rest := [.ref (d.ad (50))]) C hA hR0 mf_X9_isCell lk_X9_82 rfl (isK_lit hdm rfl rfl) (by decide) ⟨rfl, rfl⟩ ⟨Nat.le_of_ble_eq_true rfl, Nat.le_of_ble_eq_true rfl⟩ rfl rfl (Nat.le_of_ble_eq_true rfl) hce dX9_wordAt_4 hq (fun _ _ h => c_X9_isCell g.l g.G hdm  h) (fun r2 w1 _ hq => ?_)
  refine x_callVi (K := 10) (rm := rmv 1 23 0 0) (As := [iV (r2)]) (rest := []) C hA hR0 mf_X9_passes lk_X9_191 rfl (isK_lit hdm rfl rfl) (by decide) ⟨rfl, rfl⟩ ⟨Nat.le_of_ble_eq_true rfl, Nat.le_of_ble_eq_true rfl⟩ rfl rfl (Nat.le_of_ble_eq_true rfl) hce dX9_wordAt_7 hq (fun _ _ h => c_X9_passes g.l g.G hdm  h) (fun r4 w3 _ hq => ?_)
  refine x_if_ne (tgt := 15) C dX9_wordAt_10 (by decide) hq (fun hq => ?_) (fun hq => ?_)
  · refine x_aload_n C 0 dX9_wordAt_15 rfl ?_
    refine x_callVi (K := 10) (rm := rmv 8 192 0 0) (As := []) (rest := []) C hA hR0 mf_X9_lay lk_X9_179 rfl (isK_lit hdm rfl rfl) (by decide) ⟨rfl, rfl⟩ ⟨Nat.le_of_ble_eq_true rfl, Nat.le_of_ble_eq_true rfl⟩ rfl rfl (Nat.le_of_ble_eq_true rfl) hce dX9_wordAt_16 hq (fun _ _ h => c_X9_lay g.l g.G hdm  h) (fun r6 w5 _ hq => ?_)
    refine x_istore_n (lv' := [(3, iV (r6)), (0, .ref (d.ad (50))), (1, iV (x1)), (2, iV (x2))]) C dX9_wordAt_19 (by decide) rfl ?_
    refine x_aload_n C 1 dX9_wordAt_20 rfl ?_
    refine x_iload_n C 2 dX9_wordAt_21 rfl ?_
    refine x_iload_n C 3 dX9_wordAt_22 rfl ?_
    refine x_callVi (K := 10) (rm := rmv 1 25 0 0) (As := [iV (x1), iV (x2)]) (rest := []) C hA hR0 mf_X9_wordIn lk_X9_365 rfl (isK_lit hdm rfl rfl) (by decide) ⟨rfl, rfl⟩ ⟨Nat.le_of_ble_eq_true rfl, Nat.le_of_ble_eq_true rfl⟩ rfl rfl (Nat.le_of_ble_eq_true rfl) hce dX9_wordAt_23 hq (fun _ _ h => c_X9_wordIn g.l g.G hdm  h) (fun r8 w7 _ hq => ?_)
    exact hR _ _ _ _ hq rfl dX9_wordAt_26
  · refine x_iconst C dX9_wordAt_13 ?_
    exact hR _ _ _ _ hq rfl dX9_wordAt_14
set_option maxRecDepth 100000 in
set_option maxHeartbeats 4000000 in
theorem c_X9_wordAt (l : Launch) (G : Gd) {dm na : Nat} {ad : Nat → Nat} (hdm : dm = 1) {x1 : Int} {x2 : Int} {w w' : Wd} {r : Int}  (hq : p_X9_wordAt x1 x2 w = some (r, w')) : mI l yX9_wordAt cX9_wordAt 4 (some .int) (rmv 9 213 0 0) G dm na ad [.ref (ad (50)), iV (x1), iV (x2)] w r w' := by
  refine met_I [(0, .ref (ad (50))), (1, iV (x1)), (2, iV (x2))] (by decide) (Nat.le_of_ble_eq_true rfl) rfl .int rfl (fun g d C S hR => ?_)
  obtain ⟨rfl, hR0, rfl, rfl, rfl, hA⟩ := S
  exact L_X9_wordAt (d := (na, ad, 0, 0)) C hdm hA hR0 ⟨Nat.zero_le _, Nat.zero_le _⟩ hR  _ _ w hq
set_option maxRecDepth 100000 in
set_option maxHeartbeats 4000000 in
theorem L_X9_isRow {g : Cx} {d : Dl} (C : CX g cX9_isRow 2 (some .boolean) RX9) (hdm : g.dm = 1) (hA : ∀ q : Nat, g.s.heap.size ≤ q → g.A q) (hR0 : g.R = rmv 1 25 0 0) (hce : d.ce ≤ g.R.cells ∧ d.so ≤ g.R.slots) {res : Int × Wd} (hR : rtI g d cX9_isRow .boolean res) (x1 : Int) (w : Wd) (hq : p_X9_isRow x1 w = some res) : XG g d (hP g d w) [(0, .ref (d.ad (50))), (1, iV (x1))] [] 0 := by
  refine x_iload_n C 1 dX9_isRow_0 rfl ?_
  refine x_i2l C dX9_isRow_1 ?_
  refine x_lconst C dX9_isRow_2 ?_
  refine x_aload_n C 0 dX9_isRow_3 rfl ?_
  refine x_callVi (K := 10) (rm := rmv 0 0 0 0) (As := []) (rest := [jV (0), jV (w32 x1)]) C hA hR0 mf_X9_high lk_X9_79 rfl (isK_lit hdm rfl rfl) (by decide) ⟨rfl, rfl⟩ ⟨Nat.le_of_ble_eq_true rfl, Nat.le_of_ble_eq_true rfl⟩ rfl rfl (Nat.le_of_ble_eq_true rfl) hce dX9_isRow_4 hq (fun _ _ h => c_X9_high g.l g.G hdm  h) (fun r2 w1 _ hq => ?_)
  refine x_iconst C dX9_isRow_7 ?_
  refine x_isub C dX9_isRow_8 ?_
  refine x_i2l C dX9_isRow_9 ?_
  refine x_callSi (rm := rmv 0 0 0 0) (As := [jV (w32 x1), jV (0), jV (w32 (r2 - 1))]) (rest := []) C hA hR0 mf_X9_in lk_X9_75 ⟨rfl, rfl⟩ ⟨Nat.le_of_ble_eq_true rfl, Nat.le_of_ble_eq_true rfl⟩ rfl rfl (Nat.le_of_ble_eq_true rfl) hce dX9_isRow_10 hq (fun _ _ h => c_X9_in g.l g.G hdm  h) (fun r4 w3 _ hq => ?_)
  exact hR _ _ _ _ (zr_2 hq) (zr_1 hq) dX9_isRow_13
set_option maxRecDepth 100000 in
set_option maxHeartbeats 4000000 in
theorem c_X9_isRow (l : Launch) (G : Gd) {dm na : Nat} {ad : Nat → Nat} (hdm : dm = 1) {x1 : Int} {w w' : Wd} {r : Int}  (hq : p_X9_isRow x1 w = some (r, w')) : mI l yX9_isRow cX9_isRow 2 (some .boolean) (rmv 1 25 0 0) G dm na ad [.ref (ad (50)), iV (x1)] w r w' := by
  refine met_I [(0, .ref (ad (50))), (1, iV (x1))] (by decide) (Nat.le_of_ble_eq_true rfl) rfl .boolean rfl (fun g d C S hR => ?_)
  obtain ⟨rfl, hR0, rfl, rfl, rfl, hA⟩ := S
  exact L_X9_isRow (d := (na, ad, 0, 0)) C hdm hA hR0 ⟨Nat.zero_le _, Nat.zero_le _⟩ hR  _ w hq
set_option maxRecDepth 100000 in
set_option maxHeartbeats 4000000 in
theorem L_X9_freeIn_60 {g : Cx} {d : Dl} (C : CX g cX9_freeIn 5 (some .int) RX9) (hdm : g.dm = 1) (hA : ∀ q : Nat, g.s.heap.size ≤ q → g.A q) (hR0 : g.R = rmv 9 213 0 0) (hce : d.ce ≤ g.R.cells ∧ d.so ≤ g.R.slots) {res : Int × Wd} (hR : rtI g d cX9_freeIn .int res) {k24 : Int → Int → Int → Wd → Option (Int × Wd)} (hk24 : ∀ (x1 : Int) (x3 : Int) (x4 : Int) (w : Wd), k24 x1 x3 x4 w = some res → XG g d (hP g d w) [(0, .ref (d.ad (50))), (1, iV (x1)), (3, iV (x3)), (4, iV (x4))] [] 24) (x1 : Int) (x4 : Int) (s0 : Int) (s1 : Int) (w : Wd) (hq : p_X9_freeIn_60 k24 x1 x4 s0 s1 w = some res) : XG g d (hP g d w) [(0, .ref (d.ad (50))), (1, iV (x1)), (4, iV (x4))] [iV (s0), iV (s1)] 60 := by
  refine x_iadd C dX9_freeIn_60 ?_
  refine x_istore_n (lv' := [(3, iV (s1 + s0)), (0, .ref (d.ad (50))), (1, iV (x1)), (4, iV (x4))]) C dX9_freeIn_61 (by decide) rfl ?_
  refine x_iinc (lv' := [(4, iV (x4 + 1)), (3, iV (s1 + s0)), (0, .ref (d.ad (50))), (1, iV (x1))]) C 3 dX9_freeIn_62 rfl (by decide) rfl ?_
  refine x_goto (tgt := 24) C dX9_freeIn_65 (by decide) ?_
  refine XG.sub [2, 3, 1, 0] rfl ?_
  exact hk24 _ _ _ _ hq
set_option maxRecDepth 100000 in
set_option maxHeartbeats 4000000 in
theorem L_X9_freeIn_59 {g : Cx} {d : Dl} (C : CX g cX9_freeIn 5 (some .int) RX9) (hdm : g.dm = 1) (hA : ∀ q : Nat, g.s.heap.size ≤ q → g.A q) (hR0 : g.R = rmv 9 213 0 0) (hce : d.ce ≤ g.R.cells ∧ d.so ≤ g.R.slots) {res : Int × Wd} (hR : rtI g d cX9_freeIn .int res) {k24 : Int → Int → Int → Wd → Option (Int × Wd)} (hk24 : ∀ (x1 : Int) (x3 : Int) (x4 : Int) (w : Wd), k24 x1 x3 x4 w = some res → XG g d (hP g d w) [(0, .ref (d.ad (50))), (1, iV (x1)), (3, iV (x3)), (4, iV (x4))] [] 24) (x1 : Int) (x4 : Int) (s0 : Int) (w : Wd) (hq : p_X9_freeIn_59 k24 x1 x4 s0 w = some res) : XG g d (hP g d w) [(0, .ref (d.ad (50))), (1, iV (x1)), (4, iV (x4))] [iV (s0)] 59 := by
  refine x_iconst C dX9_freeIn_59 ?_
  exact L_X9_freeIn_60 C hdm hA hR0 hce hR hk24 _ _ _ _ _ hq
set_option maxRecDepth 100000 in
set_option maxHeartbeats 4000000 in
theorem L_X9_freeIn_24 {g : Cx} {d : Dl} (C : CX g cX9_freeIn 5 (some .int) RX9) (hdm : g.dm = 1) (hA : ∀ q : Nat, g.s.heap.size ≤ q → g.A q) (hR0 : g.R = rmv 9 213 0 0) (hce : d.ce ≤ g.R.cells ∧ d.so ≤ g.R.slots) {res : Int × Wd} (hR : rtI g d cX9_freeIn .int res) : ∀ (n : Nat) (x1 : Int) (x3 : Int) (x4 : Int) (w : Wd), p_X9_freeIn_24 n x1 x3 x4 w = some res → XG g d (hP g d w) [(0, .ref (d.ad (50))), (1, iV (x1)), (3, iV (x3)), (4, iV (x4))] [] 24 := by
  intro n
  induction n with
  | zero => intro x1 x3 x4 w  hq; exact nomatch (show none = some _ from hq)
  | succ n ih =>
    intro x1 x3 x4 w  hq
    refine x_iload C 3 dX9_freeIn_24 rfl ?_
    refine x_aload_n C 0 dX9_freeIn_26 rfl ?_
    refine x_callVi (K := 10) (rm := rmv 0 0 0 0) (As := []) (rest := [iV (x4)]) C hA hR0 mf_X9_wide lk_X9_71 rfl (isK_lit hdm rfl rfl) (by decide) ⟨rfl, rfl⟩ ⟨Nat.le_of_ble_eq_true rfl, Nat.le_of_ble_eq_true rfl⟩ rfl rfl (Nat.le_of_ble_eq_true rfl) hce dX9_freeIn_27 hq (fun _ _ h => c_X9_wide g.l g.G hdm  h) (fun r2 w1 _ hq => ?_)
    refine x_icmp_ge (tgt := 68) C dX9_freeIn_30 (by decide) hq (fun hq => ?_) (fun hq => ?_)
    · refine x_iload_n C 2 dX9_freeIn_68 rfl ?_
      exact hR _ _ _ _ hq rfl dX9_freeIn_69
    · refine x_iload_n C 2 dX9_freeIn_33 rfl ?_
      refine x_aload_n C 0 dX9_freeIn_34 rfl ?_
      refine x_iload C 3 dX9_freeIn_35 rfl ?_
      refine x_iload_n C 1 dX9_freeIn_37 rfl ?_
      refine x_callVi (K := 10) (rm := rmv 2 47 0 0) (As := [iV (x4), iV (x1)]) (rest := [iV (x3)]) C hA hR0 mf_X9_hasFlaw lk_X9_93 rfl (isK_lit hdm rfl rfl) (by decide) ⟨rfl, rfl⟩ ⟨Nat.le_of_ble_eq_true rfl, Nat.le_of_ble_eq_true rfl⟩ rfl rfl (Nat.le_of_ble_eq_true rfl) hce dX9_freeIn_38 hq (fun _ _ h => c_X9_hasFlaw g.l g.G hdm  h) (fun r4 w3 _ hq => ?_)
      refine x_if_ne (tgt := 59) C dX9_freeIn_41 (by decide) hq (fun hq => ?_) (fun hq => ?_)
      · refine XG.sub [0, 1, 3] rfl ?_
        exact L_X9_freeIn_59 C hdm hA hR0 hce hR ih _ _ _ _ hq
      · refine x_aload_n C 0 dX9_freeIn_44 rfl ?_
        refine x_iload C 3 dX9_freeIn_45 rfl ?_
        refine x_iload_n C 1 dX9_freeIn_47 rfl ?_
        refine x_callVi (K := 10) (rm := rmv 1 25 0 0) (As := [iV (x4), iV (x1)]) (rest := [iV (x3)]) C hA hR0 mf_X9_wordIn lk_X9_365 rfl (isK_lit hdm rfl rfl) (by decide) ⟨rfl, rfl⟩ ⟨Nat.le_of_ble_eq_true rfl, Nat.le_of_ble_eq_true rfl⟩ rfl rfl (Nat.le_of_ble_eq_true rfl) hce dX9_freeIn_48 hq (fun _ _ h => c_X9_wordIn g.l g.G hdm  h) (fun r6 w5 _ hq => ?_)
        refine x_iconst C dX9_freeIn_51 ?_
        refine x_icmp_ne (tgt := 59) C dX9_freeIn_52 (by decide) hq (fun hq => ?_) (fun hq => ?_)
        · refine XG.sub [0, 1, 3] rfl ?_
          exact L_X9_freeIn_59 C hdm hA hR0 hce hR ih _ _ _ _ hq
        · refine x_iconst C dX9_freeIn_55 ?_
          refine x_goto (tgt := 60) C dX9_freeIn_56 (by decide) ?_
          refine XG.sub [0, 1, 3] rfl ?_
          exact L_X9_freeIn_60 C hdm hA hR0 hce hR ih _ _ _ _ _ hq
set_option maxRecDepth 100000 in
set_option maxHeartbeats 4000000 in
theorem L_X9_freeIn {g : Cx} {d : Dl} (C : CX g cX9_freeIn 5 (some .int) RX9) (hdm : g.dm = 1) (hA : ∀ q : Nat, g.s.heap.size ≤ q → g.A q) (hR0 : g.R = rmv 9 213 0 0) (hce : d.ce ≤ g.R.cells ∧ d.so ≤ g.R.slots) {res : Int × Wd} (hR : rtI g d cX9_freeIn .int res) (x1 : Int) (w : Wd) (hq : p_X9_freeIn x1 w = some res) : XG g d (hP g d w) [(0, .ref (d.ad (50))), (1, iV (x1))] [] 0 := by
  refine x_aload_n C 0 dX9_freeIn_0 rfl ?_
  refine x_aload_n C 0 dX9_freeIn_1 rfl ?_
  refine x_iload_n C 1 dX9_freeIn_2 rfl ?_
  refine x_callVi (K := 10) (rm := rmv 1 25 0 0) (As := [iV (x1)]) (rest := [.ref (d.ad (50))]) C hA hR0 mf_X9_isRow lk_X9_368 rfl (isK_lit hdm rfl rfl) (by decide) ⟨rfl, rfl⟩ ⟨Nat.le_of_ble_eq_true rfl, Nat.le_of_ble_eq_true rfl⟩ rfl rfl (Nat.le_of_ble_eq_true rfl) hce dX9_freeIn_3 hq (fun _ _ h => c_X9_isRow g.l g.G hdm  h) (fun r2 w1 _ hq => ?_)
  refine x_callVi (K := 10) (rm := rmv 1 23 0 0) (As := [iV (r2)]) (rest := []) C hA hR0 mf_X9_passes lk_X9_191 rfl (isK_lit hdm rfl rfl) (by decide) ⟨rfl, rfl⟩ ⟨Nat.le_of_ble_eq_true rfl, Nat.le_of_ble_eq_true rfl⟩ rfl rfl (Nat.le_of_ble_eq_true rfl) hce dX9_freeIn_6 hq (fun _ _ h => c_X9_passes g.l g.G hdm  h) (fun r4 w3 _ hq => ?_)
  refine x_if_ne (tgt := 14) C dX9_freeIn_9 (by decide) hq (fun hq => ?_) (fun hq => ?_)
  · refine x_aload_n C 0 dX9_freeIn_14 rfl ?_
    refine x_callVi (K := 10) (rm := rmv 8 192 0 0) (As := []) (rest := []) C hA hR0 mf_X9_lay lk_X9_179 rfl (isK_lit hdm rfl rfl) (by decide) ⟨rfl, rfl⟩ ⟨Nat.le_of_ble_eq_true rfl, Nat.le_of_ble_eq_true rfl⟩ rfl rfl (Nat.le_of_ble_eq_true rfl) hce dX9_freeIn_15 hq (fun _ _ h => c_X9_lay g.l g.G hdm  h) (fun r6 w5 _ hq => ?_)
    refine x_istore_n (lv' := [(2, iV (r6)), (0, .ref (d.ad (50))), (1, iV (x1))]) C dX9_freeIn_18 (by decide) rfl ?_
    refine x_iconst C dX9_freeIn_19 ?_
    refine x_istore_n (lv' := [(3, iV (0)), (2, iV (r6)), (0, .ref (d.ad (50))), (1, iV (x1))]) C dX9_freeIn_20 (by decide) rfl ?_
    refine x_iconst C dX9_freeIn_21 ?_
    refine x_istore (lv' := [(4, iV (0)), (3, iV (0)), (2, iV (r6)), (0, .ref (d.ad (50))), (1, iV (x1))]) C dX9_freeIn_22 (by decide) rfl ?_
    refine XG.sub [3, 4, 1, 0] rfl ?_
    exact L_X9_freeIn_24 C hdm hA hR0 hce hR _ _ _ _ _ hq
  · refine x_iconst C dX9_freeIn_12 ?_
    exact hR _ _ _ _ hq rfl dX9_freeIn_13
set_option maxRecDepth 100000 in
set_option maxHeartbeats 4000000 in
theorem c_X9_freeIn (l : Launch) (G : Gd) {dm na : Nat} {ad : Nat → Nat} (hdm : dm = 1) {x1 : Int} {w w' : Wd} {r : Int}  (hq : p_X9_freeIn x1 w = some (r, w')) : mI l yX9_freeIn cX9_freeIn 5 (some .int) (rmv 9 213 0 0) G dm na ad [.ref (ad (50)), iV (x1)] w r w' := by
  refine met_I [(0, .ref (ad (50))), (1, iV (x1))] (by decide) (Nat.le_of_ble_eq_true rfl) rfl .int rfl (fun g d C S hR => ?_)
  obtain ⟨rfl, hR0, rfl, rfl, rfl, hA⟩ := S
  exact L_X9_freeIn (d := (na, ad, 0, 0)) C hdm hA hR0 ⟨Nat.zero_le _, Nat.zero_le _⟩ hR  _ w hq
set_option maxRecDepth 100000 in
set_option maxHeartbeats 4000000 in
theorem L_X9_longestRun_47 {g : Cx} {d : Dl} (C : CX g cX9_longestRun 5 (some .int) RX9) (hdm : g.dm = 1) (hA : ∀ q : Nat, g.s.heap.size ≤ q → g.A q) (hR0 : g.R = rmv 3 69 0 0) (hce : d.ce ≤ g.R.cells ∧ d.so ≤ g.R.slots) {res : Int × Wd} (hR : rtI g d cX9_longestRun .int res) {k21 : Int → Int → Int → Int → Wd → Option (Int × Wd)} (hk21 : ∀ (x1 : Int) (x2 : Int) (x3 : Int) (x4 : Int) (w : Wd), k21 x1 x2 x3 x4 w = some res → XG g d (hP g d w) [(0, .ref (d.ad (50))), (1, iV (x1)), (2, iV (x2)), (3, iV (x3)), (4, iV (x4))] [] 21) (x1 : Int) (x2 : Int) (x4 : Int) (s0 : Int) (w : Wd) (hq : p_X9_longestRun_47 k21 x1 x2 x4 s0 w = some res) : XG g d (hP g d w) [(0, .ref (d.ad (50))), (1, iV (x1)), (2, iV (x2)), (4, iV (x4))] [iV (s0)] 47 := by
  refine x_istore_n (lv' := [(3, iV (s0)), (0, .ref (d.ad (50))), (1, iV (x1)), (2, iV (x2)), (4, iV (x4))]) C dX9_longestRun_47 (by decide) rfl ?_
  refine x_iload_n C 3 dX9_longestRun_48 rfl ?_
  refine x_iload_n C 0 dX9_longestRun_49 rfl ?_
  refine x_max C hR0 lk_X9_160 jm_max_s jm_i jm_max_c ⟨Nat.le_of_ble_eq_true rfl, Nat.le_of_ble_eq_true rfl⟩ hce dX9_longestRun_50 ?_
  refine x_istore_n (lv' := [(2, iV (mx32 x2 s0)), (3, iV (s0)), (0, .ref (d.ad (50))), (1, iV (x1)), (4, iV (x4))]) C dX9_longestRun_53 (by decide) rfl ?_
  refine x_iinc (lv' := [(4, iV (x4 + 1)), (2, iV (mx32 x2 s0)), (3, iV (s0)), (0, .ref (d.ad (50))), (1, iV (x1))]) C 4 dX9_longestRun_54 rfl (by decide) rfl ?_
  refine x_goto (tgt := 21) C dX9_longestRun_57 (by decide) ?_
  refine XG.sub [3, 4, 1, 2, 0] rfl ?_
  exact hk21 _ _ _ _ _ hq
set_option maxRecDepth 100000 in
set_option maxHeartbeats 4000000 in
theorem L_X9_longestRun_21 {g : Cx} {d : Dl} (C : CX g cX9_longestRun 5 (some .int) RX9) (hdm : g.dm = 1) (hA : ∀ q : Nat, g.s.heap.size ≤ q → g.A q) (hR0 : g.R = rmv 3 69 0 0) (hce : d.ce ≤ g.R.cells ∧ d.so ≤ g.R.slots) {res : Int × Wd} (hR : rtI g d cX9_longestRun .int res) : ∀ (n : Nat) (x1 : Int) (x2 : Int) (x3 : Int) (x4 : Int) (w : Wd), p_X9_longestRun_21 n x1 x2 x3 x4 w = some res → XG g d (hP g d w) [(0, .ref (d.ad (50))), (1, iV (x1)), (2, iV (x2)), (3, iV (x3)), (4, iV (x4))] [] 21 := by
  intro n
  induction n with
  | zero => intro x1 x2 x3 x4 w  hq; exact nomatch (show none = some _ from hq)
  | succ n ih =>
    intro x1 x2 x3 x4 w  hq
    refine x_iload C 4 dX9_longestRun_21 rfl ?_
    refine x_aload_n C 0 dX9_longestRun_23 rfl ?_
    refine x_callVi (K := 10) (rm := rmv 0 0 0 0) (As := []) (rest := [iV (x4)]) C hA hR0 mf_X9_wide lk_X9_71 rfl (isK_lit hdm rfl rfl) (by decide) ⟨rfl, rfl⟩ ⟨Nat.le_of_ble_eq_true rfl, Nat.le_of_ble_eq_true rfl⟩ rfl rfl (Nat.le_of_ble_eq_true rfl) hce dX9_longestRun_24 hq (fun _ _ h => c_X9_wide g.l g.G hdm  h) (fun r2 w1 _ hq => ?_)
    refine x_icmp_ge (tgt := 60) C dX9_longestRun_27 (by decide) hq (fun hq => ?_) (fun hq => ?_)
    · refine x_iload_n C 2 dX9_longestRun_60 rfl ?_
      exact hR _ _ _ _ hq rfl dX9_longestRun_61
    · refine x_aload_n C 0 dX9_longestRun_30 rfl ?_
      refine x_iload C 4 dX9_longestRun_31 rfl ?_
      refine x_iload_n C 1 dX9_longestRun_33 rfl ?_
      refine x_callVi (K := 10) (rm := rmv 2 47 0 0) (As := [iV (x4), iV (x1)]) (rest := []) C hA hR0 mf_X9_hasFlaw lk_X9_93 rfl (isK_lit hdm rfl rfl) (by decide) ⟨rfl, rfl⟩ ⟨Nat.le_of_ble_eq_true rfl, Nat.le_of_ble_eq_true rfl⟩ rfl rfl (Nat.le_of_ble_eq_true rfl) hce dX9_longestRun_34 hq (fun _ _ h => c_X9_hasFlaw g.l g.G hdm  h) (fun r4 w3 _ hq => ?_)
      refine x_if_eq (tgt := 44) C dX9_longestRun_37 (by decide) hq (fun hq => ?_) (fun hq => ?_)
      · refine x_iload_n C 3 dX9_longestRun_44 rfl ?_
        refine x_iconst C dX9_longestRun_45 ?_
        refine x_iadd C dX9_longestRun_46 ?_
        refine XG.sub [0, 1, 2, 4] rfl ?_
        exact L_X9_longestRun_47 C hdm hA hR0 hce hR ih _ _ _ _ _ hq
      · refine x_iconst C dX9_longestRun_40 ?_
        refine x_goto (tgt := 47) C dX9_longestRun_41 (by decide) ?_
        refine XG.sub [0, 1, 2, 4] rfl ?_
        exact L_X9_longestRun_47 C hdm hA hR0 hce hR ih _ _ _ _ _ hq
set_option maxRecDepth 100000 in
set_option maxHeartbeats 4000000 in
theorem L_X9_longestRun {g : Cx} {d : Dl} (C : CX g cX9_longestRun 5 (some .int) RX9) (hdm : g.dm = 1) (hA : ∀ q : Nat, g.s.heap.size ≤ q → g.A q) (hR0 : g.R = rmv 3 69 0 0) (hce : d.ce ≤ g.R.cells ∧ d.so ≤ g.R.slots) {res : Int × Wd} (hR : rtI g d cX9_longestRun .int res) (x1 : Int) (w : Wd) (hq : p_X9_longestRun x1 w = some res) : XG g d (hP g d w) [(0, .ref (d.ad (50))), (1, iV (x1))] [] 0 := by
  refine x_aload_n C 0 dX9_longestRun_0 rfl ?_
  refine x_aload_n C 0 dX9_longestRun_1 rfl ?_
  refine x_iload_n C 1 dX9_longestRun_2 rfl ?_
  refine x_callVi (K := 10) (rm := rmv 1 25 0 0) (As := [iV (x1)]) (rest := [.ref (d.ad (50))]) C hA hR0 mf_X9_isRow lk_X9_368 rfl (isK_lit hdm rfl rfl) (by decide) ⟨rfl, rfl⟩ ⟨Nat.le_of_ble_eq_true rfl, Nat.le_of_ble_eq_true rfl⟩ rfl rfl (Nat.le_of_ble_eq_true rfl) hce dX9_longestRun_3 hq (fun _ _ h => c_X9_isRow g.l g.G hdm  h) (fun r2 w1 _ hq => ?_)
  refine x_callVi (K := 10) (rm := rmv 1 23 0 0) (As := [iV (r2)]) (rest := []) C hA hR0 mf_X9_passes lk_X9_191 rfl (isK_lit hdm rfl rfl) (by decide) ⟨rfl, rfl⟩ ⟨Nat.le_of_ble_eq_true rfl, Nat.le_of_ble_eq_true rfl⟩ rfl rfl (Nat.le_of_ble_eq_true rfl) hce dX9_longestRun_6 hq (fun _ _ h => c_X9_passes g.l g.G hdm  h) (fun r4 w3 _ hq => ?_)
  refine x_if_ne (tgt := 14) C dX9_longestRun_9 (by decide) hq (fun hq => ?_) (fun hq => ?_)
  · refine x_iconst C dX9_longestRun_14 ?_
    refine x_istore_n (lv' := [(2, iV (0)), (0, .ref (d.ad (50))), (1, iV (x1))]) C dX9_longestRun_15 (by decide) rfl ?_
    refine x_iconst C dX9_longestRun_16 ?_
    refine x_istore_n (lv' := [(3, iV (0)), (2, iV (0)), (0, .ref (d.ad (50))), (1, iV (x1))]) C dX9_longestRun_17 (by decide) rfl ?_
    refine x_iconst C dX9_longestRun_18 ?_
    refine x_istore (lv' := [(4, iV (0)), (3, iV (0)), (2, iV (0)), (0, .ref (d.ad (50))), (1, iV (x1))]) C dX9_longestRun_19 (by decide) rfl ?_
    refine XG.sub [3, 4, 2, 1, 0] rfl ?_
    exact L_X9_longestRun_21 C hdm hA hR0 hce hR _ _ _ _ _ _ hq
  · refine x_iconst C dX9_longestRun_12 ?_
    exact hR _ _ _ _ hq rfl dX9_longestRun_13
set_option maxRecDepth 100000 in
set_option maxHeartbeats 4000000 in
theorem c_X9_longestRun (l : Launch) (G : Gd) {dm na : Nat} {ad : Nat → Nat} (hdm : dm = 1) {x1 : Int} {w w' : Wd} {r : Int}  (hq : p_X9_longestRun x1 w = some (r, w')) : mI l yX9_longestRun cX9_longestRun 5 (some .int) (rmv 3 69 0 0) G dm na ad [.ref (ad (50)), iV (x1)] w r w' := by
  refine met_I [(0, .ref (ad (50))), (1, iV (x1))] (by decide) (Nat.le_of_ble_eq_true rfl) rfl .int rfl (fun g d C S hR => ?_)
  obtain ⟨rfl, hR0, rfl, rfl, rfl, hA⟩ := S
  exact L_X9_longestRun (d := (na, ad, 0, 0)) C hdm hA hR0 ⟨Nat.zero_le _, Nat.zero_le _⟩ hR  _ w hq
set_option maxRecDepth 100000 in
set_option maxHeartbeats 4000000 in
theorem L_X9_rowsUsed_46 {g : Cx} {d : Dl} (C : CX g cX9_rowsUsed 4 (some .int) RX9) (hdm : g.dm = 1) (hA : ∀ q : Nat, g.s.heap.size ≤ q → g.A q) (hR0 : g.R = rmv 9 213 0 0) (hce : d.ce ≤ g.R.cells ∧ d.so ≤ g.R.slots) {res : Int × Wd} (hR : rtI g d cX9_rowsUsed .int res) {k14 : Int → Int → Int → Wd → Option (Int × Wd)} (hk14 : ∀ (x1 : Int) (x2 : Int) (x3 : Int) (w : Wd), k14 x1 x2 x3 w = some res → XG g d (hP g d w) [(0, .ref (d.ad (50))), (1, iV (x1)), (2, iV (x2)), (3, iV (x3))] [] 14) (x1 : Int) (x3 : Int) (s0 : Int) (s1 : Int) (w : Wd) (hq : p_X9_rowsUsed_46 k14 x1 x3 s0 s1 w = some res) : XG g d (hP g d w) [(0, .ref (d.ad (50))), (1, iV (x1)), (3, iV (x3))] [iV (s0), iV (s1)] 46 := by
  refine x_iadd C dX9_rowsUsed_46 ?_
  refine x_istore_n (lv' := [(2, iV (s1 + s0)), (0, .ref (d.ad (50))), (1, iV (x1)), (3, iV (x3))]) C dX9_rowsUsed_47 (by decide) rfl ?_
  refine x_iinc (lv' := [(3, iV (x3 + 1)), (2, iV (s1 + s0)), (0, .ref (d.ad (50))), (1, iV (x1))]) C 3 dX9_rowsUsed_48 rfl (by decide) rfl ?_
  refine x_goto (tgt := 14) C dX9_rowsUsed_51 (by decide) ?_
  refine XG.sub [2, 3, 1, 0] rfl ?_
  exact hk14 _ _ _ _ hq
set_option maxRecDepth 100000 in
set_option maxHeartbeats 4000000 in
theorem L_X9_rowsUsed_41 {g : Cx} {d : Dl} (C : CX g cX9_rowsUsed 4 (some .int) RX9) (hdm : g.dm = 1) (hA : ∀ q : Nat, g.s.heap.size ≤ q → g.A q) (hR0 : g.R = rmv 9 213 0 0) (hce : d.ce ≤ g.R.cells ∧ d.so ≤ g.R.slots) {res : Int × Wd} (hR : rtI g d cX9_rowsUsed .int res) {k14 : Int → Int → Int → Wd → Option (Int × Wd)} (hk14 : ∀ (x1 : Int) (x2 : Int) (x3 : Int) (w : Wd), k14 x1 x2 x3 w = some res → XG g d (hP g d w) [(0, .ref (d.ad (50))), (1, iV (x1)), (2, iV (x2)), (3, iV (x3))] [] 14) (x1 : Int) (x3 : Int) (s0 : Int) (w : Wd) (hq : p_X9_rowsUsed_41 k14 x1 x3 s0 w = some res) : XG g d (hP g d w) [(0, .ref (d.ad (50))), (1, iV (x1)), (3, iV (x3))] [iV (s0)] 41 := by
  refine x_iconst C dX9_rowsUsed_41 ?_
  refine x_goto (tgt := 46) C dX9_rowsUsed_42 (by decide) ?_
  exact L_X9_rowsUsed_46 C hdm hA hR0 hce hR hk14 _ _ _ _ _ hq
set_option maxRecDepth 100000 in
set_option maxHeartbeats 4000000 in
theorem L_X9_rowsUsed_14 {g : Cx} {d : Dl} (C : CX g cX9_rowsUsed 4 (some .int) RX9) (hdm : g.dm = 1) (hA : ∀ q : Nat, g.s.heap.size ≤ q → g.A q) (hR0 : g.R = rmv 9 213 0 0) (hce : d.ce ≤ g.R.cells ∧ d.so ≤ g.R.slots) {res : Int × Wd} (hR : rtI g d cX9_rowsUsed .int res) : ∀ (n : Nat) (x1 : Int) (x2 : Int) (x3 : Int) (w : Wd), p_X9_rowsUsed_14 n x1 x2 x3 w = some res → XG g d (hP g d w) [(0, .ref (d.ad (50))), (1, iV (x1)), (2, iV (x2)), (3, iV (x3))] [] 14 := by
  intro n
  induction n with
  | zero => intro x1 x2 x3 w  hq; exact nomatch (show none = some _ from hq)
  | succ n ih =>
    intro x1 x2 x3 w  hq
    refine x_iload_n C 3 dX9_rowsUsed_14 rfl ?_
    refine x_iload_n C 1 dX9_rowsUsed_15 rfl ?_
    refine x_icmp_ge (tgt := 54) C dX9_rowsUsed_16 (by decide) hq (fun hq => ?_) (fun hq => ?_)
    · refine x_iload_n C 2 dX9_rowsUsed_54 rfl ?_
      exact hR _ _ _ _ hq rfl dX9_rowsUsed_55
    · refine x_iload_n C 2 dX9_rowsUsed_19 rfl ?_
      refine x_iload_n C 3 dX9_rowsUsed_20 rfl ?_
      refine x_if_eq (tgt := 41) C dX9_rowsUsed_21 (by decide) hq (fun hq => ?_) (fun hq => ?_)
      · refine XG.sub [0, 1, 3] rfl ?_
        exact L_X9_rowsUsed_41 C hdm hA hR0 hce hR ih _ _ _ _ hq
      · refine x_aload_n C 0 dX9_rowsUsed_24 rfl ?_
        refine x_getr (K := 10) (k := 4) (o2 := 53) C (isK_lit hdm rfl rfl) (by decide) cl_X9 (by decide) ⟨rfl, rfl, rfl⟩ fl_X9_27 rfl dX9_rowsUsed_25 ?_
        refine x_iload_n C 3 dX9_rowsUsed_28 rfl ?_
        refine inb_2 hq (fun hi hq => ?_)
        refine x_iald C (isK_lit hdm rfl rfl) hi dX9_rowsUsed_29 ?_
        refine x_aload_n C 0 dX9_rowsUsed_30 rfl ?_
        refine x_getr (K := 10) (k := 4) (o2 := 53) C (isK_lit hdm rfl rfl) (by decide) cl_X9 (by decide) ⟨rfl, rfl, rfl⟩ fl_X9_27 rfl dX9_rowsUsed_31 ?_
        refine x_iload_n C 3 dX9_rowsUsed_34 rfl ?_
        refine x_iconst C dX9_rowsUsed_35 ?_
        refine x_isub C dX9_rowsUsed_36 ?_
        refine inb_2 hq (fun hi hq => ?_)
        refine x_iald C (isK_lit hdm rfl rfl) hi dX9_rowsUsed_37 ?_
        refine x_icmp_eq (tgt := 45) C dX9_rowsUsed_38 (by decide) hq (fun hq => ?_) (fun hq => ?_)
        · refine x_iconst C dX9_rowsUsed_45 ?_
          refine XG.sub [0, 1, 3] rfl ?_
          exact L_X9_rowsUsed_46 C hdm hA hR0 hce hR ih _ _ _ _ _ hq
        · refine XG.sub [0, 1, 3] rfl ?_
          exact L_X9_rowsUsed_41 C hdm hA hR0 hce hR ih _ _ _ _ hq
set_option maxRecDepth 100000 in
set_option maxHeartbeats 4000000 in
theorem L_X9_rowsUsed {g : Cx} {d : Dl} (C : CX g cX9_rowsUsed 4 (some .int) RX9) (hdm : g.dm = 1) (hA : ∀ q : Nat, g.s.heap.size ≤ q → g.A q) (hR0 : g.R = rmv 9 213 0 0) (hce : d.ce ≤ g.R.cells ∧ d.so ≤ g.R.slots) {res : Int × Wd} (hR : rtI g d cX9_rowsUsed .int res)  (w : Wd) (hq : p_X9_rowsUsed  w = some res) : XG g d (hP g d w) [(0, .ref (d.ad (50)))] [] 0 := by
  refine x_aload_n C 0 dX9_rowsUsed_0 rfl ?_
  refine x_iconst C dX9_rowsUsed_1 ?_
  refine x_put (K := 10) (k := 0) C (isK_lit hdm rfl rfl) (by decide) cl_X9 (by decide) ⟨rfl, rfl, rfl, rfl⟩ fl_X9_3 ⟨rfl, rfl⟩ dX9_rowsUsed_2 ?_
  refine x_aload_n C 0 dX9_rowsUsed_5 rfl ?_
  refine x_callVi (K := 10) (rm := rmv 8 192 0 0) (As := []) (rest := []) C hA hR0 mf_X9_lay lk_X9_179 rfl (isK_lit hdm rfl rfl) (by decide) ⟨rfl, rfl⟩ ⟨Nat.le_of_ble_eq_true rfl, Nat.le_of_ble_eq_true rfl⟩ rfl rfl (Nat.le_of_ble_eq_true rfl) hce dX9_rowsUsed_6 hq (fun _ _ h => c_X9_lay g.l g.G hdm  h) (fun r2 w1 _ hq => ?_)
  refine x_istore_n (lv' := [(1, iV (r2)), (0, .ref (d.ad (50)))]) C dX9_rowsUsed_9 (by decide) rfl ?_
  refine x_iconst C dX9_rowsUsed_10 ?_
  refine x_istore_n (lv' := [(2, iV (0)), (1, iV (r2)), (0, .ref (d.ad (50)))]) C dX9_rowsUsed_11 (by decide) rfl ?_
  refine x_iconst C dX9_rowsUsed_12 ?_
  refine x_istore_n (lv' := [(3, iV (0)), (2, iV (0)), (1, iV (r2)), (0, .ref (d.ad (50)))]) C dX9_rowsUsed_13 (by decide) rfl ?_
  refine XG.sub [3, 2, 1, 0] rfl ?_
  exact L_X9_rowsUsed_14 C hdm hA hR0 hce hR _ _ _ _ _ hq
set_option maxRecDepth 100000 in
set_option maxHeartbeats 4000000 in
theorem c_X9_rowsUsed (l : Launch) (G : Gd) {dm na : Nat} {ad : Nat → Nat} (hdm : dm = 1)  {w w' : Wd} {r : Int}  (hq : p_X9_rowsUsed  w = some (r, w')) : mI l yX9_rowsUsed cX9_rowsUsed 4 (some .int) (rmv 9 213 0 0) G dm na ad [.ref (ad (50))] w r w' := by
  refine met_I [(0, .ref (ad (50)))] (by decide) (Nat.le_of_ble_eq_true rfl) rfl .int rfl (fun g d C S hR => ?_)
  obtain ⟨rfl, hR0, rfl, rfl, rfl, hA⟩ := S
  exact L_X9_rowsUsed (d := (na, ad, 0, 0)) C hdm hA hR0 ⟨Nat.zero_le _, Nat.zero_le _⟩ hR   w hq
set_option maxRecDepth 100000 in
set_option maxHeartbeats 4000000 in
theorem L_X9_firstMissing {g : Cx} {d : Dl} (C : CX g cX9_firstMissing 2 (some .int) RX9) (hdm : g.dm = 1) (hA : ∀ q : Nat, g.s.heap.size ≤ q → g.A q) (hR0 : g.R = rmv 9 213 0 0) (hce : d.ce ≤ g.R.cells ∧ d.so ≤ g.R.slots) {res : Int × Wd} (hR : rtI g d cX9_firstMissing .int res)  (w : Wd) (hq : p_X9_firstMissing  w = some res) : XG g d (hP g d w) [(0, .ref (d.ad (50)))] [] 0 := by
  refine x_aload_n C 0 dX9_firstMissing_0 rfl ?_
  refine x_iconst C dX9_firstMissing_1 ?_
  refine x_put (K := 10) (k := 0) C (isK_lit hdm rfl rfl) (by decide) cl_X9 (by decide) ⟨rfl, rfl, rfl, rfl⟩ fl_X9_3 ⟨rfl, rfl⟩ dX9_firstMissing_2 ?_
  refine x_aload_n C 0 dX9_firstMissing_5 rfl ?_
  refine x_callVi (K := 10) (rm := rmv 8 192 0 0) (As := []) (rest := []) C hA hR0 mf_X9_lay lk_X9_179 rfl (isK_lit hdm rfl rfl) (by decide) ⟨rfl, rfl⟩ ⟨Nat.le_of_ble_eq_true rfl, Nat.le_of_ble_eq_true rfl⟩ rfl rfl (Nat.le_of_ble_eq_true rfl) hce dX9_firstMissing_6 hq (fun _ _ h => c_X9_lay g.l g.G hdm  h) (fun r2 w1 _ hq => ?_)
  refine x_istore_n (lv' := [(1, iV (r2)), (0, .ref (d.ad (50)))]) C dX9_firstMissing_9 (by decide) rfl ?_
  refine x_iload_n C 0 dX9_firstMissing_10 rfl ?_
  refine x_aload_n C 1 dX9_firstMissing_11 rfl ?_
  refine x_getr (K := 10) (k := 1) (o2 := 51) C (isK_lit hdm rfl rfl) (by decide) cl_X9 (by decide) ⟨rfl, rfl, rfl⟩ fl_X9_17 rfl dX9_firstMissing_12 ?_
  refine x_bipush (v := 10) C dX9_firstMissing_15 (by decide +kernel) ?_
  refine inb_2 hq (fun hi hq => ?_)
  refine x_iald C (isK_lit hdm rfl rfl) hi dX9_firstMissing_17 ?_
  refine x_icmp_ne (tgt := 25) C dX9_firstMissing_18 (by decide) hq (fun hq => ?_) (fun hq => ?_)
  · refine x_iload_n C 0 dX9_firstMissing_25 rfl ?_
    exact hR _ _ _ _ hq rfl dX9_firstMissing_26
  · refine x_iconst C dX9_firstMissing_21 ?_
    refine x_goto (tgt := 26) C dX9_firstMissing_22 (by decide) ?_
    exact hR _ _ _ _ hq rfl dX9_firstMissing_26
set_option maxRecDepth 100000 in
set_option maxHeartbeats 4000000 in
theorem c_X9_firstMissing (l : Launch) (G : Gd) {dm na : Nat} {ad : Nat → Nat} (hdm : dm = 1)  {w w' : Wd} {r : Int}  (hq : p_X9_firstMissing  w = some (r, w')) : mI l yX9_firstMissing cX9_firstMissing 2 (some .int) (rmv 9 213 0 0) G dm na ad [.ref (ad (50))] w r w' := by
  refine met_I [(0, .ref (ad (50)))] (by decide) (Nat.le_of_ble_eq_true rfl) rfl .int rfl (fun g d C S hR => ?_)
  obtain ⟨rfl, hR0, rfl, rfl, rfl, hA⟩ := S
  exact L_X9_firstMissing (d := (na, ad, 0, 0)) C hdm hA hR0 ⟨Nat.zero_le _, Nat.zero_le _⟩ hR   w hq
set_option maxRecDepth 100000 in
set_option maxHeartbeats 4000000 in
theorem L_X9_strokesFrom_4 {g : Cx} {d : Dl} (C : CX g cX9_strokesFrom 4 (some .int) RX9) (hdm : g.dm = 1) (hA : ∀ q : Nat, g.s.heap.size ≤ q → g.A q) (hR0 : g.R = rmv 6 136 0 0) (hce : d.ce ≤ g.R.cells ∧ d.so ≤ g.R.slots) {res : Int × Wd} (hR : rtI g d cX9_strokesFrom .int res) : ∀ (n : Nat) (x2 : Int) (x3 : Int) (w : Wd), p_X9_strokesFrom_4 n x2 x3 w = some res → XG g d (hP g d w) [(0, .ref (d.ad (50))), (2, iV (x2)), (3, iV (x3))] [] 4 := by
  intro n
  induction n with
  | zero => intro x2 x3 w  hq; exact nomatch (show none = some _ from hq)
  | succ n ih =>
    intro x2 x3 w  hq
    refine x_iload_n C 2 dX9_strokesFrom_4 rfl ?_
    refine x_aload_n C 0 dX9_strokesFrom_5 rfl ?_
    refine x_callVi (K := 10) (rm := rmv 2 44 0 0) (As := []) (rest := [iV (x3)]) C hA hR0 mf_X9_letters lk_X9_341 rfl (isK_lit hdm rfl rfl) (by decide) ⟨rfl, rfl⟩ ⟨Nat.le_of_ble_eq_true rfl, Nat.le_of_ble_eq_true rfl⟩ rfl rfl (Nat.le_of_ble_eq_true rfl) hce dX9_strokesFrom_6 hq (fun _ _ h => c_X9_letters g.l g.G hdm  h) (fun r2 w1 _ hq => ?_)
    refine x_icmp_ge (tgt := 26) C dX9_strokesFrom_9 (by decide) hq (fun hq => ?_) (fun hq => ?_)
    · refine x_iload_n C 1 dX9_strokesFrom_26 rfl ?_
      exact hR _ _ _ _ hq rfl dX9_strokesFrom_27
    · refine x_iload_n C 1 dX9_strokesFrom_12 rfl ?_
      refine x_aload_n C 0 dX9_strokesFrom_13 rfl ?_
      refine x_iload_n C 2 dX9_strokesFrom_14 rfl ?_
      refine x_callVi (K := 10) (rm := rmv 5 114 0 0) (As := [iV (x3)]) (rest := [iV (x2)]) C hA hR0 mf_X9_strokesOfLetter lk_X9_151 rfl (isK_lit hdm rfl rfl) (by decide) ⟨rfl, rfl⟩ ⟨Nat.le_of_ble_eq_true rfl, Nat.le_of_ble_eq_true rfl⟩ rfl rfl (Nat.le_of_ble_eq_true rfl) hce dX9_strokesFrom_15 hq (fun _ _ h => c_X9_strokesOfLetter g.l g.G hdm  h) (fun r4 w3 _ hq => ?_)
      refine x_iadd C dX9_strokesFrom_18 ?_
      refine x_istore_n (lv' := [(2, iV (x2 + r4)), (0, .ref (d.ad (50))), (3, iV (x3))]) C dX9_strokesFrom_19 (by decide) rfl ?_
      refine x_iinc (lv' := [(3, iV (x3 + 1)), (2, iV (x2 + r4)), (0, .ref (d.ad (50)))]) C 2 dX9_strokesFrom_20 rfl (by decide) rfl ?_
      refine x_goto (tgt := 4) C dX9_strokesFrom_23 (by decide) ?_
      refine XG.sub [2, 1, 0] rfl ?_
      exact ih _ _ _ hq
set_option maxRecDepth 100000 in
set_option maxHeartbeats 4000000 in
theorem L_X9_strokesFrom {g : Cx} {d : Dl} (C : CX g cX9_strokesFrom 4 (some .int) RX9) (hdm : g.dm = 1) (hA : ∀ q : Nat, g.s.heap.size ≤ q → g.A q) (hR0 : g.R = rmv 6 136 0 0) (hce : d.ce ≤ g.R.cells ∧ d.so ≤ g.R.slots) {res : Int × Wd} (hR : rtI g d cX9_strokesFrom .int res) (x1 : Int) (w : Wd) (hq : p_X9_strokesFrom x1 w = some res) : XG g d (hP g d w) [(0, .ref (d.ad (50))), (1, iV (x1))] [] 0 := by
  refine x_iconst C dX9_strokesFrom_0 ?_
  refine x_istore_n (lv' := [(2, iV (0)), (0, .ref (d.ad (50))), (1, iV (x1))]) C dX9_strokesFrom_1 (by decide) rfl ?_
  refine x_iload_n C 2 dX9_strokesFrom_2 rfl ?_
  refine x_istore_n (lv' := [(3, iV (x1)), (2, iV (0)), (0, .ref (d.ad (50))), (1, iV (x1))]) C dX9_strokesFrom_3 (by decide) rfl ?_
  refine XG.sub [2, 1, 0] rfl ?_
  exact L_X9_strokesFrom_4 C hdm hA hR0 hce hR _ _ _ _ hq
set_option maxRecDepth 100000 in
set_option maxHeartbeats 4000000 in
theorem c_X9_strokesFrom (l : Launch) (G : Gd) {dm na : Nat} {ad : Nat → Nat} (hdm : dm = 1) {x1 : Int} {w w' : Wd} {r : Int}  (hq : p_X9_strokesFrom x1 w = some (r, w')) : mI l yX9_strokesFrom cX9_strokesFrom 4 (some .int) (rmv 6 136 0 0) G dm na ad [.ref (ad (50)), iV (x1)] w r w' := by
  refine met_I [(0, .ref (ad (50))), (1, iV (x1))] (by decide) (Nat.le_of_ble_eq_true rfl) rfl .int rfl (fun g d C S hR => ?_)
  obtain ⟨rfl, hR0, rfl, rfl, rfl, hA⟩ := S
  exact L_X9_strokesFrom (d := (na, ad, 0, 0)) C hdm hA hR0 ⟨Nat.zero_le _, Nat.zero_le _⟩ hR  _ w hq
set_option maxRecDepth 100000 in
set_option maxHeartbeats 4000000 in
theorem L_X9_strokesLeft {g : Cx} {d : Dl} (C : CX g cX9_strokesLeft 2 (some .int) RX9) (hdm : g.dm = 1) (hA : ∀ q : Nat, g.s.heap.size ≤ q → g.A q) (hR0 : g.R = rmv 9 213 0 0) (hce : d.ce ≤ g.R.cells ∧ d.so ≤ g.R.slots) {res : Int × Wd} (hR : rtI g d cX9_strokesLeft .int res)  (w : Wd) (hq : p_X9_strokesLeft  w = some res) : XG g d (hP g d w) [(0, .ref (d.ad (50)))] [] 0 := by
  refine x_aload_n C 0 dX9_strokesLeft_0 rfl ?_
  refine x_iconst C dX9_strokesLeft_1 ?_
  refine x_put (K := 10) (k := 0) C (isK_lit hdm rfl rfl) (by decide) cl_X9 (by decide) ⟨rfl, rfl, rfl, rfl⟩ fl_X9_3 ⟨rfl, rfl⟩ dX9_strokesLeft_2 ?_
  refine x_aload_n C 0 dX9_strokesLeft_5 rfl ?_
  refine x_callVi (K := 10) (rm := rmv 8 192 0 0) (As := []) (rest := []) C hA hR0 mf_X9_lay lk_X9_179 rfl (isK_lit hdm rfl rfl) (by decide) ⟨rfl, rfl⟩ ⟨Nat.le_of_ble_eq_true rfl, Nat.le_of_ble_eq_true rfl⟩ rfl rfl (Nat.le_of_ble_eq_true rfl) hce dX9_strokesLeft_6 hq (fun _ _ h => c_X9_lay g.l g.G hdm  h) (fun r2 w1 _ hq => ?_)
  refine x_istore_n (lv' := [(1, iV (r2)), (0, .ref (d.ad (50)))]) C dX9_strokesLeft_9 (by decide) rfl ?_
  refine x_aload_n C 1 dX9_strokesLeft_10 rfl ?_
  refine x_aload_n C 1 dX9_strokesLeft_11 rfl ?_
  refine x_getr (K := 10) (k := 1) (o2 := 51) C (isK_lit hdm rfl rfl) (by decide) cl_X9 (by decide) ⟨rfl, rfl, rfl⟩ fl_X9_17 rfl dX9_strokesLeft_12 ?_
  refine x_bipush (v := 8) C dX9_strokesLeft_15 (by decide +kernel) ?_
  refine inb_2 hq (fun hi hq => ?_)
  refine x_iald C (isK_lit hdm rfl rfl) hi dX9_strokesLeft_17 ?_
  refine x_callVi (K := 10) (rm := rmv 6 136 0 0) (As := [iV (gA w1 51 8)]) (rest := []) C hA hR0 mf_X9_strokesFrom lk_X9_371 rfl (isK_lit hdm rfl rfl) (by decide) ⟨rfl, rfl⟩ ⟨Nat.le_of_ble_eq_true rfl, Nat.le_of_ble_eq_true rfl⟩ rfl rfl (Nat.le_of_ble_eq_true rfl) hce dX9_strokesLeft_18 hq (fun _ _ h => c_X9_strokesFrom g.l g.G hdm  h) (fun r4 w3 _ hq => ?_)
  exact hR _ _ _ _ hq rfl dX9_strokesLeft_21
set_option maxRecDepth 100000 in
set_option maxHeartbeats 4000000 in
theorem c_X9_strokesLeft (l : Launch) (G : Gd) {dm na : Nat} {ad : Nat → Nat} (hdm : dm = 1)  {w w' : Wd} {r : Int}  (hq : p_X9_strokesLeft  w = some (r, w')) : mI l yX9_strokesLeft cX9_strokesLeft 2 (some .int) (rmv 9 213 0 0) G dm na ad [.ref (ad (50))] w r w' := by
  refine met_I [(0, .ref (ad (50)))] (by decide) (Nat.le_of_ble_eq_true rfl) rfl .int rfl (fun g d C S hR => ?_)
  obtain ⟨rfl, hR0, rfl, rfl, rfl, hA⟩ := S
  exact L_X9_strokesLeft (d := (na, ad, 0, 0)) C hdm hA hR0 ⟨Nat.zero_le _, Nat.zero_le _⟩ hR   w hq
set_option maxRecDepth 100000 in
set_option maxHeartbeats 4000000 in
theorem L_X9_endOf {g : Cx} {d : Dl} (C : CX g cX9_endOf 2 (some .int) RX9) (hdm : g.dm = 1) (hA : ∀ q : Nat, g.s.heap.size ≤ q → g.A q) (hR0 : g.R = rmv 3 64 0 0) (hce : d.ce ≤ g.R.cells ∧ d.so ≤ g.R.slots) {res : Int × Wd} (hR : rtI g d cX9_endOf .int res) (x1 : Int) (w : Wd) (hq : p_X9_endOf x1 w = some res) : XG g d (hP g d w) [(0, .ref (d.ad (50))), (1, iV (x1))] [] 0 := by
  refine x_aload_n C 0 dX9_endOf_0 rfl ?_
  refine x_getr (K := 10) (k := 1) (o2 := 51) C (isK_lit hdm rfl rfl) (by decide) cl_X9 (by decide) ⟨rfl, rfl, rfl⟩ fl_X9_17 rfl dX9_endOf_1 ?_
  refine x_bipush (v := 8) C dX9_endOf_4 (by decide +kernel) ?_
  refine inb_2 hq (fun hi hq => ?_)
  refine x_iald C (isK_lit hdm rfl rfl) hi dX9_endOf_6 ?_
  refine x_iload_n C 1 dX9_endOf_7 rfl ?_
  refine x_aload_n C 0 dX9_endOf_8 rfl ?_
  refine x_callVi (K := 10) (rm := rmv 2 44 0 0) (As := []) (rest := [iV (x1), iV (gA w 51 8)]) C hA hR0 mf_X9_letters lk_X9_341 rfl (isK_lit hdm rfl rfl) (by decide) ⟨rfl, rfl⟩ ⟨Nat.le_of_ble_eq_true rfl, Nat.le_of_ble_eq_true rfl⟩ rfl rfl (Nat.le_of_ble_eq_true rfl) hce dX9_endOf_9 hq (fun _ _ h => c_X9_letters g.l g.G hdm  h) (fun r2 w1 _ hq => ?_)
  refine x_aload_n C 0 dX9_endOf_12 rfl ?_
  refine x_getr (K := 10) (k := 1) (o2 := 51) C (isK_lit hdm rfl rfl) (by decide) cl_X9 (by decide) ⟨rfl, rfl, rfl⟩ fl_X9_17 rfl dX9_endOf_13 ?_
  refine x_bipush (v := 8) C dX9_endOf_16 (by decide +kernel) ?_
  refine inb_2 hq (fun hi hq => ?_)
  refine x_iald C (isK_lit hdm rfl rfl) hi dX9_endOf_18 ?_
  refine x_isub C dX9_endOf_19 ?_
  refine x_min C hR0 lk_X9_231 jm_min_s jm_i jm_min_c ⟨Nat.le_of_ble_eq_true rfl, Nat.le_of_ble_eq_true rfl⟩ hce dX9_endOf_20 ?_
  refine x_iadd C dX9_endOf_23 ?_
  exact hR _ _ _ _ hq rfl dX9_endOf_24
set_option maxRecDepth 100000 in
set_option maxHeartbeats 4000000 in
theorem c_X9_endOf (l : Launch) (G : Gd) {dm na : Nat} {ad : Nat → Nat} (hdm : dm = 1) {x1 : Int} {w w' : Wd} {r : Int}  (hq : p_X9_endOf x1 w = some (r, w')) : mI l yX9_endOf cX9_endOf 2 (some .int) (rmv 3 64 0 0) G dm na ad [.ref (ad (50)), iV (x1)] w r w' := by
  refine met_I [(0, .ref (ad (50))), (1, iV (x1))] (by decide) (Nat.le_of_ble_eq_true rfl) rfl .int rfl (fun g d C S hR => ?_)
  obtain ⟨rfl, hR0, rfl, rfl, rfl, hA⟩ := S
  exact L_X9_endOf (d := (na, ad, 0, 0)) C hdm hA hR0 ⟨Nat.zero_le _, Nat.zero_le _⟩ hR  _ w hq
set_option maxRecDepth 100000 in
set_option maxHeartbeats 4000000 in
theorem L_X9_timeFor_10 {g : Cx} {d : Dl} (C : CX g cX9_timeFor 3 (some .int) RX9) (hdm : g.dm = 1) (hA : ∀ q : Nat, g.s.heap.size ≤ q → g.A q) (hR0 : g.R = rmv 9 213 0 0) (hce : d.ce ≤ g.R.cells ∧ d.so ≤ g.R.slots) {res : Int × Wd} (hR : rtI g d cX9_timeFor .int res) (x1 : Int) (s0 : Int) (w : Wd) (hq : p_X9_timeFor_10 x1 s0 w = some res) : XG g d (hP g d w) [(0, .ref (d.ad (50))), (1, iV (x1))] [iV (s0), .ref (d.ad (50))] 10 := by
  refine x_callVi (K := 10) (rm := rmv 1 23 0 0) (As := [iV (s0)]) (rest := []) C hA hR0 mf_X9_passes lk_X9_191 rfl (isK_lit hdm rfl rfl) (by decide) ⟨rfl, rfl⟩ ⟨Nat.le_of_ble_eq_true rfl, Nat.le_of_ble_eq_true rfl⟩ rfl rfl (Nat.le_of_ble_eq_true rfl) hce dX9_timeFor_10 hq (fun _ _ h => c_X9_passes g.l g.G hdm  h) (fun r2 w1 _ hq => ?_)
  refine x_if_ne (tgt := 18) C dX9_timeFor_13 (by decide) hq (fun hq => ?_) (fun hq => ?_)
  · refine x_aload_n C 0 dX9_timeFor_18 rfl ?_
    refine x_callVi (K := 10) (rm := rmv 8 192 0 0) (As := []) (rest := []) C hA hR0 mf_X9_lay lk_X9_179 rfl (isK_lit hdm rfl rfl) (by decide) ⟨rfl, rfl⟩ ⟨Nat.le_of_ble_eq_true rfl, Nat.le_of_ble_eq_true rfl⟩ rfl rfl (Nat.le_of_ble_eq_true rfl) hce dX9_timeFor_19 hq (fun _ _ h => c_X9_lay g.l g.G hdm  h) (fun r4 w3 _ hq => ?_)
    refine x_istore_n (lv' := [(2, iV (r4)), (0, .ref (d.ad (50))), (1, iV (x1))]) C dX9_timeFor_22 (by decide) rfl ?_
    refine x_aload_n C 1 dX9_timeFor_23 rfl ?_
    refine x_aload_n C 1 dX9_timeFor_24 rfl ?_
    refine x_getr (K := 10) (k := 1) (o2 := 51) C (isK_lit hdm rfl rfl) (by decide) cl_X9 (by decide) ⟨rfl, rfl, rfl⟩ fl_X9_17 rfl dX9_timeFor_25 ?_
    refine x_bipush (v := 8) C dX9_timeFor_28 (by decide +kernel) ?_
    refine inb_2 hq (fun hi hq => ?_)
    refine x_iald C (isK_lit hdm rfl rfl) hi dX9_timeFor_30 ?_
    refine x_aload_n C 1 dX9_timeFor_31 rfl ?_
    refine x_iload_n C 2 dX9_timeFor_32 rfl ?_
    refine x_callVi (K := 10) (rm := rmv 3 64 0 0) (As := [iV (x1)]) (rest := [iV (gA w3 51 8), .ref (d.ad (50))]) C hA hR0 mf_X9_endOf lk_X9_374 rfl (isK_lit hdm rfl rfl) (by decide) ⟨rfl, rfl⟩ ⟨Nat.le_of_ble_eq_true rfl, Nat.le_of_ble_eq_true rfl⟩ rfl rfl (Nat.le_of_ble_eq_true rfl) hce dX9_timeFor_33 hq (fun _ _ h => c_X9_endOf g.l g.G hdm  h) (fun r6 w5 _ hq => ?_)
    refine x_callVi (K := 10) (rm := rmv 7 160 0 0) (As := [iV (gA w3 51 8), iV (r6)]) (rest := []) C hA hR0 mf_X9_timeFromTo lk_X9_377 rfl (isK_lit hdm rfl rfl) (by decide) ⟨rfl, rfl⟩ ⟨Nat.le_of_ble_eq_true rfl, Nat.le_of_ble_eq_true rfl⟩ rfl rfl (Nat.le_of_ble_eq_true rfl) hce dX9_timeFor_36 hq (fun _ _ h => c_X9_timeFromTo g.l g.G hdm  h) (fun r8 w7 _ hq => ?_)
    exact hR _ _ _ _ hq rfl dX9_timeFor_39
  · refine x_iconst C dX9_timeFor_16 ?_
    exact hR _ _ _ _ hq rfl dX9_timeFor_17
set_option maxRecDepth 100000 in
set_option maxHeartbeats 4000000 in
theorem L_X9_timeFor {g : Cx} {d : Dl} (C : CX g cX9_timeFor 3 (some .int) RX9) (hdm : g.dm = 1) (hA : ∀ q : Nat, g.s.heap.size ≤ q → g.A q) (hR0 : g.R = rmv 9 213 0 0) (hce : d.ce ≤ g.R.cells ∧ d.so ≤ g.R.slots) {res : Int × Wd} (hR : rtI g d cX9_timeFor .int res) (x1 : Int) (w : Wd) (hq : p_X9_timeFor x1 w = some res) : XG g d (hP g d w) [(0, .ref (d.ad (50))), (1, iV (x1))] [] 0 := by
  refine x_aload_n C 0 dX9_timeFor_0 rfl ?_
  refine x_iload_n C 1 dX9_timeFor_1 rfl ?_
  refine x_if_lt (tgt := 9) C dX9_timeFor_2 (by decide) hq (fun hq => ?_) (fun hq => ?_)
  · refine x_iconst C dX9_timeFor_9 ?_
    exact L_X9_timeFor_10 C hdm hA hR0 hce hR _ _ _ hq
  · refine x_iconst C dX9_timeFor_5 ?_
    refine x_goto (tgt := 10) C dX9_timeFor_6 (by decide) ?_
    exact L_X9_timeFor_10 C hdm hA hR0 hce hR _ _ _ hq
set_option maxRecDepth 100000 in
set_option maxHeartbeats 4000000 in
theorem c_X9_timeFor (l : Launch) (G : Gd) {dm na : Nat} {ad : Nat → Nat} (hdm : dm = 1) {x1 : Int} {w w' : Wd} {r : Int}  (hq : p_X9_timeFor x1 w = some (r, w')) : mI l yX9_timeFor cX9_timeFor 3 (some .int) (rmv 9 213 0 0) G dm na ad [.ref (ad (50)), iV (x1)] w r w' := by
  refine met_I [(0, .ref (ad (50))), (1, iV (x1))] (by decide) (Nat.le_of_ble_eq_true rfl) rfl .int rfl (fun g d C S hR => ?_)
  obtain ⟨rfl, hR0, rfl, rfl, rfl, hA⟩ := S
  exact L_X9_timeFor (d := (na, ad, 0, 0)) C hdm hA hR0 ⟨Nat.zero_le _, Nat.zero_le _⟩ hR  _ w hq
set_option maxRecDepth 100000 in
set_option maxHeartbeats 4000000 in
theorem L_X9_lettersIn_78 {g : Cx} {d : Dl} (C : CX g cX9_lettersIn 6 (some .int) RX9) (hdm : g.dm = 1) (hA : ∀ q : Nat, g.s.heap.size ≤ q → g.A q) (hR0 : g.R = rmv 9 213 0 0) (hce : d.ce ≤ g.R.cells ∧ d.so ≤ g.R.slots) {res : Int × Wd} (hR : rtI g d cX9_lettersIn .int res) (x5 : Int) (w : Wd) (hq : p_X9_lettersIn_78 x5 w = some res) : XG g d (hP g d w) [(0, .ref (d.ad (50))), (5, iV (x5))] [] 78 := by
  refine x_iload C 1 dX9_lettersIn_78 rfl ?_
  refine x_aload_n C 0 dX9_lettersIn_80 rfl ?_
  refine x_getr (K := 10) (k := 1) (o2 := 51) C (isK_lit hdm rfl rfl) (by decide) cl_X9 (by decide) ⟨rfl, rfl, rfl⟩ fl_X9_17 rfl dX9_lettersIn_81 ?_
  refine x_bipush (v := 8) C dX9_lettersIn_84 (by decide +kernel) ?_
  refine inb_2 hq (fun hi hq => ?_)
  refine x_iald C (isK_lit hdm rfl rfl) hi dX9_lettersIn_86 ?_
  refine x_isub C dX9_lettersIn_87 ?_
  exact hR _ _ _ _ hq rfl dX9_lettersIn_88
set_option maxRecDepth 100000 in
set_option maxHeartbeats 4000000 in
theorem L_X9_lettersIn_95 {g : Cx} {d : Dl} (C : CX g cX9_lettersIn 6 (some .int) RX9) (hdm : g.dm = 1) (hA : ∀ q : Nat, g.s.heap.size ≤ q → g.A q) (hR0 : g.R = rmv 9 213 0 0) (hce : d.ce ≤ g.R.cells ∧ d.so ≤ g.R.slots) {res : Int × Wd} (hR : rtI g d cX9_lettersIn .int res) (x3 : Int) (w : Wd) (hq : p_X9_lettersIn_95 x3 w = some res) : XG g d (hP g d w) [(0, .ref (d.ad (50))), (3, iV (x3))] [] 95 := by
  refine x_iload_n C 1 dX9_lettersIn_95 rfl ?_
  refine x_aload_n C 0 dX9_lettersIn_96 rfl ?_
  refine x_getr (K := 10) (k := 1) (o2 := 51) C (isK_lit hdm rfl rfl) (by decide) cl_X9 (by decide) ⟨rfl, rfl, rfl⟩ fl_X9_17 rfl dX9_lettersIn_97 ?_
  refine x_bipush (v := 8) C dX9_lettersIn_100 (by decide +kernel) ?_
  refine inb_2 hq (fun hi hq => ?_)
  refine x_iald C (isK_lit hdm rfl rfl) hi dX9_lettersIn_102 ?_
  refine x_isub C dX9_lettersIn_103 ?_
  exact hR _ _ _ _ hq rfl dX9_lettersIn_104
set_option maxRecDepth 100000 in
set_option maxHeartbeats 4000000 in
theorem L_X9_lettersIn_50 {g : Cx} {d : Dl} (C : CX g cX9_lettersIn 6 (some .int) RX9) (hdm : g.dm = 1) (hA : ∀ q : Nat, g.s.heap.size ≤ q → g.A q) (hR0 : g.R = rmv 9 213 0 0) (hce : d.ce ≤ g.R.cells ∧ d.so ≤ g.R.slots) {res : Int × Wd} (hR : rtI g d cX9_lettersIn .int res) : ∀ (n : Nat) (x3 : Int) (x4 : Int) (x5 : Int) (w : Wd), p_X9_lettersIn_50 n x3 x4 x5 w = some res → XG g d (hP g d w) [(0, .ref (d.ad (50))), (3, iV (x3)), (4, iV (x4)), (5, iV (x5))] [] 50 := by
  intro n
  induction n with
  | zero => intro x3 x4 x5 w  hq; exact nomatch (show none = some _ from hq)
  | succ n ih =>
    intro x3 x4 x5 w  hq
    refine x_iload C 3 dX9_lettersIn_50 rfl ?_
    refine x_iload_n C 1 dX9_lettersIn_52 rfl ?_
    refine x_icmp_ge (tgt := 95) C dX9_lettersIn_53 (by decide) hq (fun hq => ?_) (fun hq => ?_)
    · refine XG.sub [0, 1] rfl ?_
      exact L_X9_lettersIn_95 C hdm hA hR0 hce hR _ _ hq
    · refine x_iload C 2 dX9_lettersIn_56 rfl ?_
      refine x_aload_n C 0 dX9_lettersIn_58 rfl ?_
      refine x_iload C 3 dX9_lettersIn_59 rfl ?_
      refine x_aload_n C 0 dX9_lettersIn_61 rfl ?_
      refine x_getr (K := 10) (k := 1) (o2 := 51) C (isK_lit hdm rfl rfl) (by decide) cl_X9 (by decide) ⟨rfl, rfl, rfl⟩ fl_X9_17 rfl dX9_lettersIn_62 ?_
      refine x_iconst C dX9_lettersIn_65 ?_
      refine inb_2 hq (fun hi hq => ?_)
      refine x_iald C (isK_lit hdm rfl rfl) hi dX9_lettersIn_66 ?_
      refine x_callVi (K := 10) (rm := rmv 6 136 0 0) (As := [iV (x5), iV (gA w 51 3)]) (rest := [iV (x4)]) C hA hR0 mf_X9_timeForLetter lk_X9_165 rfl (isK_lit hdm rfl rfl) (by decide) ⟨rfl, rfl⟩ ⟨Nat.le_of_ble_eq_true rfl, Nat.le_of_ble_eq_true rfl⟩ rfl rfl (Nat.le_of_ble_eq_true rfl) hce dX9_lettersIn_67 hq (fun _ _ h => c_X9_timeForLetter g.l g.G hdm  h) (fun r2 w1 _ hq => ?_)
      refine x_isub C dX9_lettersIn_70 ?_
      refine x_istore (lv' := [(4, iV (x4 - r2)), (0, .ref (d.ad (50))), (3, iV (x3)), (5, iV (x5))]) C dX9_lettersIn_71 (by decide) rfl ?_
      refine x_iload C 0 dX9_lettersIn_73 rfl ?_
      refine x_if_ge (tgt := 89) C dX9_lettersIn_75 (by decide) hq (fun hq => ?_) (fun hq => ?_)
      · refine x_iinc (lv' := [(5, iV (x5 + 1)), (4, iV (x4 - r2)), (0, .ref (d.ad (50))), (3, iV (x3))]) C 3 dX9_lettersIn_89 rfl (by decide) rfl ?_
        refine x_goto (tgt := 50) C dX9_lettersIn_92 (by decide) ?_
        refine XG.sub [2, 3, 1, 0] rfl ?_
        exact ih _ _ _ _ hq
      · refine XG.sub [1, 3] rfl ?_
        exact L_X9_lettersIn_78 C hdm hA hR0 hce hR _ _ hq
set_option maxRecDepth 100000 in
set_option maxHeartbeats 4000000 in
theorem L_X9_lettersIn_10 {g : Cx} {d : Dl} (C : CX g cX9_lettersIn 6 (some .int) RX9) (hdm : g.dm = 1) (hA : ∀ q : Nat, g.s.heap.size ≤ q → g.A q) (hR0 : g.R = rmv 9 213 0 0) (hce : d.ce ≤ g.R.cells ∧ d.so ≤ g.R.slots) {res : Int × Wd} (hR : rtI g d cX9_lettersIn .int res) (x1 : Int) (s0 : Int) (w : Wd) (hq : p_X9_lettersIn_10 x1 s0 w = some res) : XG g d (hP g d w) [(0, .ref (d.ad (50))), (1, iV (x1))] [iV (s0), .ref (d.ad (50))] 10 := by
  refine x_callVi (K := 10) (rm := rmv 1 23 0 0) (As := [iV (s0)]) (rest := []) C hA hR0 mf_X9_passes lk_X9_191 rfl (isK_lit hdm rfl rfl) (by decide) ⟨rfl, rfl⟩ ⟨Nat.le_of_ble_eq_true rfl, Nat.le_of_ble_eq_true rfl⟩ rfl rfl (Nat.le_of_ble_eq_true rfl) hce dX9_lettersIn_10 hq (fun _ _ h => c_X9_passes g.l g.G hdm  h) (fun r2 w1 _ hq => ?_)
  refine x_if_ne (tgt := 18) C dX9_lettersIn_13 (by decide) hq (fun hq => ?_) (fun hq => ?_)
  · refine x_aload_n C 0 dX9_lettersIn_18 rfl ?_
    refine x_callVi (K := 10) (rm := rmv 8 192 0 0) (As := []) (rest := []) C hA hR0 mf_X9_lay lk_X9_179 rfl (isK_lit hdm rfl rfl) (by decide) ⟨rfl, rfl⟩ ⟨Nat.le_of_ble_eq_true rfl, Nat.le_of_ble_eq_true rfl⟩ rfl rfl (Nat.le_of_ble_eq_true rfl) hce dX9_lettersIn_19 hq (fun _ _ h => c_X9_lay g.l g.G hdm  h) (fun r4 w3 _ hq => ?_)
    refine x_istore_n (lv' := [(2, iV (r4)), (0, .ref (d.ad (50))), (1, iV (x1))]) C dX9_lettersIn_22 (by decide) rfl ?_
    refine x_aload_n C 1 dX9_lettersIn_23 rfl ?_
    refine x_aload_n C 1 dX9_lettersIn_24 rfl ?_
    refine x_getr (K := 10) (k := 1) (o2 := 51) C (isK_lit hdm rfl rfl) (by decide) cl_X9 (by decide) ⟨rfl, rfl, rfl⟩ fl_X9_17 rfl dX9_lettersIn_25 ?_
    refine x_iconst C dX9_lettersIn_28 ?_
    refine inb_2 hq (fun hi hq => ?_)
    refine x_iald C (isK_lit hdm rfl rfl) hi dX9_lettersIn_29 ?_
    refine x_put (K := 10) (k := 9) C (isK_lit hdm rfl rfl) (by decide) cl_X9 (by decide) ⟨rfl, rfl, rfl, rfl⟩ fl_X9_154 ⟨rfl, rfl⟩ dX9_lettersIn_30 ?_
    refine x_aload_n C 1 dX9_lettersIn_33 rfl ?_
    refine x_callVi (K := 10) (rm := rmv 2 44 0 0) (As := []) (rest := []) C hA hR0 mf_X9_letters lk_X9_341 rfl (isK_lit hdm rfl rfl) (by decide) ⟨rfl, rfl⟩ ⟨Nat.le_of_ble_eq_true rfl, Nat.le_of_ble_eq_true rfl⟩ rfl rfl (Nat.le_of_ble_eq_true rfl) hce dX9_lettersIn_34 hq (fun _ _ h => c_X9_letters g.l g.G hdm  h) (fun r6 w5 _ hq => ?_)
    refine x_istore_n (lv' := [(3, iV (r6)), (2, iV (r4)), (0, .ref (d.ad (50))), (1, iV (x1))]) C dX9_lettersIn_37 (by decide) rfl ?_
    refine x_iload_n C 3 dX9_lettersIn_38 rfl ?_
    refine x_istore (lv' := [(4, iV (x1)), (3, iV (r6)), (2, iV (r4)), (0, .ref (d.ad (50))), (1, iV (x1))]) C dX9_lettersIn_39 (by decide) rfl ?_
    refine x_aload_n C 3 dX9_lettersIn_41 rfl ?_
    refine x_getr (K := 10) (k := 1) (o2 := 51) C (isK_lit hdm rfl rfl) (by decide) cl_X9 (by decide) ⟨rfl, rfl, rfl⟩ fl_X9_17 rfl dX9_lettersIn_42 ?_
    refine x_bipush (v := 8) C dX9_lettersIn_45 (by decide +kernel) ?_
    refine inb_2 hq (fun hi hq => ?_)
    refine x_iald C (isK_lit hdm rfl rfl) hi dX9_lettersIn_47 ?_
    refine x_istore (lv' := [(5, iV (gA w5 51 8)), (4, iV (x1)), (3, iV (r6)), (2, iV (r4)), (0, .ref (d.ad (50))), (1, iV (x1))]) C dX9_lettersIn_48 (by decide) rfl ?_
    refine XG.sub [4, 2, 1, 0] rfl ?_
    exact L_X9_lettersIn_50 C hdm hA hR0 hce hR _ _ _ _ _ hq
  · refine x_iconst C dX9_lettersIn_16 ?_
    exact hR _ _ _ _ hq rfl dX9_lettersIn_17
set_option maxRecDepth 100000 in
set_option maxHeartbeats 4000000 in
theorem L_X9_lettersIn {g : Cx} {d : Dl} (C : CX g cX9_lettersIn 6 (some .int) RX9) (hdm : g.dm = 1) (hA : ∀ q : Nat, g.s.heap.size ≤ q → g.A q) (hR0 : g.R = rmv 9 213 0 0) (hce : d.ce ≤ g.R.cells ∧ d.so ≤ g.R.slots) {res : Int × Wd} (hR : rtI g d cX9_lettersIn .int res) (x1 : Int) (w : Wd) (hq : p_X9_lettersIn x1 w = some res) : XG g d (hP g d w) [(0, .ref (d.ad (50))), (1, iV (x1))] [] 0 := by
  refine x_aload_n C 0 dX9_lettersIn_0 rfl ?_
  refine x_iload_n C 1 dX9_lettersIn_1 rfl ?_
  refine x_if_lt (tgt := 9) C dX9_lettersIn_2 (by decide) hq (fun hq => ?_) (fun hq => ?_)
  · refine x_iconst C dX9_lettersIn_9 ?_
    exact L_X9_lettersIn_10 C hdm hA hR0 hce hR _ _ _ hq
  · refine x_iconst C dX9_lettersIn_5 ?_
    refine x_goto (tgt := 10) C dX9_lettersIn_6 (by decide) ?_
    exact L_X9_lettersIn_10 C hdm hA hR0 hce hR _ _ _ hq
set_option maxRecDepth 100000 in
set_option maxHeartbeats 4000000 in
theorem c_X9_lettersIn (l : Launch) (G : Gd) {dm na : Nat} {ad : Nat → Nat} (hdm : dm = 1) {x1 : Int} {w w' : Wd} {r : Int}  (hq : p_X9_lettersIn x1 w = some (r, w')) : mI l yX9_lettersIn cX9_lettersIn 6 (some .int) (rmv 9 213 0 0) G dm na ad [.ref (ad (50)), iV (x1)] w r w' := by
  refine met_I [(0, .ref (ad (50))), (1, iV (x1))] (by decide) (Nat.le_of_ble_eq_true rfl) rfl .int rfl (fun g d C S hR => ?_)
  obtain ⟨rfl, hR0, rfl, rfl, rfl, hA⟩ := S
  exact L_X9_lettersIn (d := (na, ad, 0, 0)) C hdm hA hR0 ⟨Nat.zero_le _, Nat.zero_le _⟩ hR  _ w hq
set_option maxRecDepth 100000 in
set_option maxHeartbeats 4000000 in
theorem L_X9_sharpenings {g : Cx} {d : Dl} (C : CX g cX9_sharpenings 3 (some .int) RX9) (hdm : g.dm = 1) (hA : ∀ q : Nat, g.s.heap.size ≤ q → g.A q) (hR0 : g.R = rmv 9 213 0 0) (hce : d.ce ≤ g.R.cells ∧ d.so ≤ g.R.slots) {res : Int × Wd} (hR : rtI g d cX9_sharpenings .int res)  (w : Wd) (hq : p_X9_sharpenings  w = some res) : XG g d (hP g d w) [(0, .ref (d.ad (50)))] [] 0 := by
  refine x_aload_n C 0 dX9_sharpenings_0 rfl ?_
  refine x_iconst C dX9_sharpenings_1 ?_
  refine x_put (K := 10) (k := 0) C (isK_lit hdm rfl rfl) (by decide) cl_X9 (by decide) ⟨rfl, rfl, rfl, rfl⟩ fl_X9_3 ⟨rfl, rfl⟩ dX9_sharpenings_2 ?_
  refine x_aload_n C 0 dX9_sharpenings_5 rfl ?_
  refine x_callVi (K := 10) (rm := rmv 8 192 0 0) (As := []) (rest := []) C hA hR0 mf_X9_lay lk_X9_179 rfl (isK_lit hdm rfl rfl) (by decide) ⟨rfl, rfl⟩ ⟨Nat.le_of_ble_eq_true rfl, Nat.le_of_ble_eq_true rfl⟩ rfl rfl (Nat.le_of_ble_eq_true rfl) hce dX9_sharpenings_6 hq (fun _ _ h => c_X9_lay g.l g.G hdm  h) (fun r2 w1 _ hq => ?_)
  refine x_istore_n (lv' := [(1, iV (r2)), (0, .ref (d.ad (50)))]) C dX9_sharpenings_9 (by decide) rfl ?_
  refine x_aload_n C 1 dX9_sharpenings_10 rfl ?_
  refine x_aload_n C 1 dX9_sharpenings_11 rfl ?_
  refine x_getr (K := 10) (k := 1) (o2 := 51) C (isK_lit hdm rfl rfl) (by decide) cl_X9 (by decide) ⟨rfl, rfl, rfl⟩ fl_X9_17 rfl dX9_sharpenings_12 ?_
  refine x_bipush (v := 8) C dX9_sharpenings_15 (by decide +kernel) ?_
  refine inb_2 hq (fun hi hq => ?_)
  refine x_iald C (isK_lit hdm rfl rfl) hi dX9_sharpenings_17 ?_
  refine x_aload_n C 1 dX9_sharpenings_18 rfl ?_
  refine x_callVi (K := 10) (rm := rmv 2 44 0 0) (As := []) (rest := [iV (gA w1 51 8), .ref (d.ad (50))]) C hA hR0 mf_X9_letters lk_X9_341 rfl (isK_lit hdm rfl rfl) (by decide) ⟨rfl, rfl⟩ ⟨Nat.le_of_ble_eq_true rfl, Nat.le_of_ble_eq_true rfl⟩ rfl rfl (Nat.le_of_ble_eq_true rfl) hce dX9_sharpenings_19 hq (fun _ _ h => c_X9_letters g.l g.G hdm  h) (fun r4 w3 _ hq => ?_)
  refine x_callVi (K := 10) (rm := rmv 7 160 0 0) (As := [iV (gA w1 51 8), iV (r4)]) (rest := []) C hA hR0 mf_X9_timeFromTo lk_X9_377 rfl (isK_lit hdm rfl rfl) (by decide) ⟨rfl, rfl⟩ ⟨Nat.le_of_ble_eq_true rfl, Nat.le_of_ble_eq_true rfl⟩ rfl rfl (Nat.le_of_ble_eq_true rfl) hce dX9_sharpenings_22 hq (fun _ _ h => c_X9_timeFromTo g.l g.G hdm  h) (fun r6 w5 _ hq => ?_)
  refine x_istore_n (lv' := [(2, iV (r6)), (1, iV (r2)), (0, .ref (d.ad (50)))]) C dX9_sharpenings_25 (by decide) rfl ?_
  refine x_aload_n C 2 dX9_sharpenings_26 rfl ?_
  refine x_get (K := 10) (k := 10) C (isK_lit hdm rfl rfl) (by decide) cl_X9 (by decide) ⟨rfl, rfl, rfl⟩ fl_X9_157 dX9_sharpenings_27 ?_
  exact hR _ _ _ _ hq rfl dX9_sharpenings_30
set_option maxRecDepth 100000 in
set_option maxHeartbeats 4000000 in
theorem c_X9_sharpenings (l : Launch) (G : Gd) {dm na : Nat} {ad : Nat → Nat} (hdm : dm = 1)  {w w' : Wd} {r : Int}  (hq : p_X9_sharpenings  w = some (r, w')) : mI l yX9_sharpenings cX9_sharpenings 3 (some .int) (rmv 9 213 0 0) G dm na ad [.ref (ad (50))] w r w' := by
  refine met_I [(0, .ref (ad (50)))] (by decide) (Nat.le_of_ble_eq_true rfl) rfl .int rfl (fun g d C S hR => ?_)
  obtain ⟨rfl, hR0, rfl, rfl, rfl, hA⟩ := S
  exact L_X9_sharpenings (d := (na, ad, 0, 0)) C hdm hA hR0 ⟨Nat.zero_le _, Nat.zero_le _⟩ hR   w hq
set_option maxRecDepth 100000 in
set_option maxHeartbeats 4000000 in
theorem L_X9_isSharp {g : Cx} {d : Dl} (C : CX g cX9_isSharp 1 (some .boolean) RX9) (hdm : g.dm = 1) (hA : ∀ q : Nat, g.s.heap.size ≤ q → g.A q) (hR0 : g.R = rmv 1 25 0 0) (hce : d.ce ≤ g.R.cells ∧ d.so ≤ g.R.slots) {res : Int × Wd} (hR : rtI g d cX9_isSharp .boolean res) (x0 : Int) (w : Wd) (hq : p_X9_isSharp x0 w = some res) : XG g d (hP g d w) [(0, iV (x0))] [] 0 := by
  refine x_iload_n C 0 dX9_isSharp_0 rfl ?_
  refine x_i2l C dX9_isSharp_1 ?_
  refine x_lconst C dX9_isSharp_2 ?_
  refine x_ldc2 (v := 999) C rfl kl_X9_380 dX9_isSharp_3 ?_
  refine x_callSi (rm := rmv 0 0 0 0) (As := [jV (w32 x0), jV (1), jV (999)]) (rest := []) C hA hR0 mf_X9_in lk_X9_75 ⟨rfl, rfl⟩ ⟨Nat.le_of_ble_eq_true rfl, Nat.le_of_ble_eq_true rfl⟩ rfl rfl (Nat.le_of_ble_eq_true rfl) hce dX9_isSharp_6 hq (fun _ _ h => c_X9_in g.l g.G hdm  h) (fun r2 w1 _ hq => ?_)
  exact hR _ _ _ _ (zr_2 hq) (zr_1 hq) dX9_isSharp_9
set_option maxRecDepth 100000 in
set_option maxHeartbeats 4000000 in
theorem c_X9_isSharp (l : Launch) (G : Gd) {dm na : Nat} {ad : Nat → Nat} (hdm : dm = 1) {x0 : Int} {w w' : Wd} {r : Int}  (hq : p_X9_isSharp x0 w = some (r, w')) : mI l yX9_isSharp cX9_isSharp 1 (some .boolean) (rmv 1 25 0 0) G dm na ad [iV (x0)] w r w' := by
  refine met_I [(0, iV (x0))] (by decide) (Nat.le_of_ble_eq_true rfl) rfl .boolean rfl (fun g d C S hR => ?_)
  obtain ⟨rfl, hR0, rfl, rfl, rfl, hA⟩ := S
  exact L_X9_isSharp (d := (na, ad, 0, 0)) C hdm hA hR0 ⟨Nat.zero_le _, Nat.zero_le _⟩ hR  _ w hq
set_option maxRecDepth 100000 in
set_option maxHeartbeats 4000000 in
theorem L_X9_timeWith_28 {g : Cx} {d : Dl} (C : CX g cX9_timeWith 5 (some .int) RX9) (hdm : g.dm = 1) (hA : ∀ q : Nat, g.s.heap.size ≤ q → g.A q) (hR0 : g.R = rmv 9 213 0 0) (hce : d.ce ≤ g.R.cells ∧ d.so ≤ g.R.slots) {res : Int × Wd} (hR : rtI g d cX9_timeWith .int res) : ∀ (n : Nat) (x1 : Int) (x3 : Int) (x4 : Int) (w : Wd), p_X9_timeWith_28 n x1 x3 x4 w = some res → XG g d (hP g d w) [(0, .ref (d.ad (50))), (1, iV (x1)), (3, iV (x3)), (4, iV (x4))] [] 28 := by
  intro n
  induction n with
  | zero => intro x1 x3 x4 w  hq; exact nomatch (show none = some _ from hq)
  | succ n ih =>
    intro x1 x3 x4 w  hq
    refine x_iload C 3 dX9_timeWith_28 rfl ?_
    refine x_aload_n C 0 dX9_timeWith_30 rfl ?_
    refine x_callVi (K := 10) (rm := rmv 2 44 0 0) (As := []) (rest := [iV (x4)]) C hA hR0 mf_X9_letters lk_X9_341 rfl (isK_lit hdm rfl rfl) (by decide) ⟨rfl, rfl⟩ ⟨Nat.le_of_ble_eq_true rfl, Nat.le_of_ble_eq_true rfl⟩ rfl rfl (Nat.le_of_ble_eq_true rfl) hce dX9_timeWith_31 hq (fun _ _ h => c_X9_letters g.l g.G hdm  h) (fun r2 w1 _ hq => ?_)
    refine x_icmp_ge (tgt := 53) C dX9_timeWith_34 (by decide) hq (fun hq => ?_) (fun hq => ?_)
    · refine x_iload_n C 2 dX9_timeWith_53 rfl ?_
      exact hR _ _ _ _ hq rfl dX9_timeWith_54
    · refine x_iload_n C 2 dX9_timeWith_37 rfl ?_
      refine x_aload_n C 0 dX9_timeWith_38 rfl ?_
      refine x_iload C 3 dX9_timeWith_39 rfl ?_
      refine x_iload_n C 1 dX9_timeWith_41 rfl ?_
      refine x_callVi (K := 10) (rm := rmv 6 136 0 0) (As := [iV (x4), iV (x1)]) (rest := [iV (x3)]) C hA hR0 mf_X9_timeForLetter lk_X9_165 rfl (isK_lit hdm rfl rfl) (by decide) ⟨rfl, rfl⟩ ⟨Nat.le_of_ble_eq_true rfl, Nat.le_of_ble_eq_true rfl⟩ rfl rfl (Nat.le_of_ble_eq_true rfl) hce dX9_timeWith_42 hq (fun _ _ h => c_X9_timeForLetter g.l g.G hdm  h) (fun r4 w3 _ hq => ?_)
      refine x_iadd C dX9_timeWith_45 ?_
      refine x_istore_n (lv' := [(3, iV (x3 + r4)), (0, .ref (d.ad (50))), (1, iV (x1)), (4, iV (x4))]) C dX9_timeWith_46 (by decide) rfl ?_
      refine x_iinc (lv' := [(4, iV (x4 + 1)), (3, iV (x3 + r4)), (0, .ref (d.ad (50))), (1, iV (x1))]) C 3 dX9_timeWith_47 rfl (by decide) rfl ?_
      refine x_goto (tgt := 28) C dX9_timeWith_50 (by decide) ?_
      refine XG.sub [2, 3, 1, 0] rfl ?_
      exact ih _ _ _ _ hq
set_option maxRecDepth 100000 in
set_option maxHeartbeats 4000000 in
theorem L_X9_timeWith {g : Cx} {d : Dl} (C : CX g cX9_timeWith 5 (some .int) RX9) (hdm : g.dm = 1) (hA : ∀ q : Nat, g.s.heap.size ≤ q → g.A q) (hR0 : g.R = rmv 9 213 0 0) (hce : d.ce ≤ g.R.cells ∧ d.so ≤ g.R.slots) {res : Int × Wd} (hR : rtI g d cX9_timeWith .int res) (x1 : Int) (w : Wd) (hq : p_X9_timeWith x1 w = some res) : XG g d (hP g d w) [(0, .ref (d.ad (50))), (1, iV (x1))] [] 0 := by
  refine x_aload_n C 0 dX9_timeWith_0 rfl ?_
  refine x_iload_n C 1 dX9_timeWith_1 rfl ?_
  refine x_callSi (rm := rmv 1 25 0 0) (As := [iV (x1)]) (rest := [.ref (d.ad (50))]) C hA hR0 mf_X9_isSharp lk_X9_382 ⟨rfl, rfl⟩ ⟨Nat.le_of_ble_eq_true rfl, Nat.le_of_ble_eq_true rfl⟩ rfl rfl (Nat.le_of_ble_eq_true rfl) hce dX9_timeWith_2 hq (fun _ _ h => c_X9_isSharp g.l g.G hdm  h) (fun r2 w1 _ hq => ?_)
  refine x_callVi (K := 10) (rm := rmv 1 23 0 0) (As := [iV (r2)]) (rest := []) C hA hR0 mf_X9_passes lk_X9_191 rfl (isK_lit hdm rfl rfl) (by decide) ⟨rfl, rfl⟩ ⟨Nat.le_of_ble_eq_true rfl, Nat.le_of_ble_eq_true rfl⟩ rfl rfl (Nat.le_of_ble_eq_true rfl) hce dX9_timeWith_5 hq (fun _ _ h => c_X9_passes g.l g.G hdm  h) (fun r4 w3 _ hq => ?_)
  refine x_if_ne (tgt := 13) C dX9_timeWith_8 (by decide) hq (fun hq => ?_) (fun hq => ?_)
  · refine x_aload_n C 0 dX9_timeWith_13 rfl ?_
    refine x_callVi (K := 10) (rm := rmv 8 192 0 0) (As := []) (rest := []) C hA hR0 mf_X9_lay lk_X9_179 rfl (isK_lit hdm rfl rfl) (by decide) ⟨rfl, rfl⟩ ⟨Nat.le_of_ble_eq_true rfl, Nat.le_of_ble_eq_true rfl⟩ rfl rfl (Nat.le_of_ble_eq_true rfl) hce dX9_timeWith_14 hq (fun _ _ h => c_X9_lay g.l g.G hdm  h) (fun r6 w5 _ hq => ?_)
    refine x_istore_n (lv' := [(2, iV (r6)), (0, .ref (d.ad (50))), (1, iV (x1))]) C dX9_timeWith_17 (by decide) rfl ?_
    refine x_aload_n C 1 dX9_timeWith_18 rfl ?_
    refine x_iload_n C 2 dX9_timeWith_19 rfl ?_
    refine x_put (K := 10) (k := 9) C (isK_lit hdm rfl rfl) (by decide) cl_X9 (by decide) ⟨rfl, rfl, rfl, rfl⟩ fl_X9_154 ⟨rfl, rfl⟩ dX9_timeWith_20 ?_
    refine x_iconst C dX9_timeWith_23 ?_
    refine x_istore_n (lv' := [(3, iV (0)), (2, iV (r6)), (0, .ref (d.ad (50))), (1, iV (x1))]) C dX9_timeWith_24 (by decide) rfl ?_
    refine x_iconst C dX9_timeWith_25 ?_
    refine x_istore (lv' := [(4, iV (0)), (3, iV (0)), (2, iV (r6)), (0, .ref (d.ad (50))), (1, iV (x1))]) C dX9_timeWith_26 (by decide) rfl ?_
    refine XG.sub [3, 4, 1, 0] rfl ?_
    exact L_X9_timeWith_28 C hdm hA hR0 hce hR _ _ _ _ _ hq
  · refine x_iconst C dX9_timeWith_11 ?_
    exact hR _ _ _ _ hq rfl dX9_timeWith_12
set_option maxRecDepth 100000 in
set_option maxHeartbeats 4000000 in
theorem c_X9_timeWith (l : Launch) (G : Gd) {dm na : Nat} {ad : Nat → Nat} (hdm : dm = 1) {x1 : Int} {w w' : Wd} {r : Int}  (hq : p_X9_timeWith x1 w = some (r, w')) : mI l yX9_timeWith cX9_timeWith 5 (some .int) (rmv 9 213 0 0) G dm na ad [.ref (ad (50)), iV (x1)] w r w' := by
  refine met_I [(0, .ref (ad (50))), (1, iV (x1))] (by decide) (Nat.le_of_ble_eq_true rfl) rfl .int rfl (fun g d C S hR => ?_)
  obtain ⟨rfl, hR0, rfl, rfl, rfl, hA⟩ := S
  exact L_X9_timeWith (d := (na, ad, 0, 0)) C hdm hA hR0 ⟨Nat.zero_le _, Nat.zero_le _⟩ hR  _ w hq
set_option maxRecDepth 100000 in
set_option maxHeartbeats 4000000 in
theorem L_X9_nextCell {g : Cx} {d : Dl} (C : CX g cX9_nextCell 4 (some .int) RX9) (hdm : g.dm = 1) (hA : ∀ q : Nat, g.s.heap.size ≤ q → g.A q) (hR0 : g.R = rmv 9 213 0 0) (hce : d.ce ≤ g.R.cells ∧ d.so ≤ g.R.slots) {res : Int × Wd} (hR : rtI g d cX9_nextCell .int res)  (w : Wd) (hq : p_X9_nextCell  w = some res) : XG g d (hP g d w) [(0, .ref (d.ad (50)))] [] 0 := by
  refine x_aload_n C 0 dX9_nextCell_0 rfl ?_
  refine x_iconst C dX9_nextCell_1 ?_
  refine x_put (K := 10) (k := 0) C (isK_lit hdm rfl rfl) (by decide) cl_X9 (by decide) ⟨rfl, rfl, rfl, rfl⟩ fl_X9_3 ⟨rfl, rfl⟩ dX9_nextCell_2 ?_
  refine x_aload_n C 0 dX9_nextCell_5 rfl ?_
  refine x_callVi (K := 10) (rm := rmv 8 192 0 0) (As := []) (rest := []) C hA hR0 mf_X9_lay lk_X9_179 rfl (isK_lit hdm rfl rfl) (by decide) ⟨rfl, rfl⟩ ⟨Nat.le_of_ble_eq_true rfl, Nat.le_of_ble_eq_true rfl⟩ rfl rfl (Nat.le_of_ble_eq_true rfl) hce dX9_nextCell_6 hq (fun _ _ h => c_X9_lay g.l g.G hdm  h) (fun r2 w1 _ hq => ?_)
  refine x_istore_n (lv' := [(1, iV (r2)), (0, .ref (d.ad (50)))]) C dX9_nextCell_9 (by decide) rfl ?_
  refine x_aload_n C 1 dX9_nextCell_10 rfl ?_
  refine x_getr (K := 10) (k := 1) (o2 := 51) C (isK_lit hdm rfl rfl) (by decide) cl_X9 (by decide) ⟨rfl, rfl, rfl⟩ fl_X9_17 rfl dX9_nextCell_11 ?_
  refine x_bipush (v := 8) C dX9_nextCell_14 (by decide +kernel) ?_
  refine inb_2 hq (fun hi hq => ?_)
  refine x_iald C (isK_lit hdm rfl rfl) hi dX9_nextCell_16 ?_
  refine x_istore_n (lv' := [(2, iV (gA w1 51 8)), (1, iV (r2)), (0, .ref (d.ad (50)))]) C dX9_nextCell_17 (by decide) rfl ?_
  refine x_iload_n C 0 dX9_nextCell_18 rfl ?_
  refine x_aload_n C 2 dX9_nextCell_19 rfl ?_
  refine x_callVi (K := 10) (rm := rmv 2 44 0 0) (As := []) (rest := [iV (gA w1 51 8)]) C hA hR0 mf_X9_letters lk_X9_341 rfl (isK_lit hdm rfl rfl) (by decide) ⟨rfl, rfl⟩ ⟨Nat.le_of_ble_eq_true rfl, Nat.le_of_ble_eq_true rfl⟩ rfl rfl (Nat.le_of_ble_eq_true rfl) hce dX9_nextCell_20 hq (fun _ _ h => c_X9_letters g.l g.G hdm  h) (fun r4 w3 _ hq => ?_)
  refine x_icmp_ne (tgt := 28) C dX9_nextCell_23 (by decide) hq (fun hq => ?_) (fun hq => ?_)
  · refine x_aload_n C 2 dX9_nextCell_28 rfl ?_
    refine x_iload_n C 0 dX9_nextCell_29 rfl ?_
    refine x_callVi (K := 10) (rm := rmv 2 44 0 0) (As := [iV (gA w1 51 8)]) (rest := []) C hA hR0 mf_X9_wordOfLetter lk_X9_148 rfl (isK_lit hdm rfl rfl) (by decide) ⟨rfl, rfl⟩ ⟨Nat.le_of_ble_eq_true rfl, Nat.le_of_ble_eq_true rfl⟩ rfl rfl (Nat.le_of_ble_eq_true rfl) hce dX9_nextCell_30 hq (fun _ _ h => c_X9_wordOfLetter g.l g.G hdm  h) (fun r6 w5 _ hq => ?_)
    refine x_istore_n (lv' := [(3, iV (r6)), (2, iV (gA w1 51 8)), (1, iV (r2)), (0, .ref (d.ad (50)))]) C dX9_nextCell_33 (by decide) rfl ?_
    refine x_bipush (v := 100) C dX9_nextCell_34 (by decide +kernel) ?_
    refine x_aload_n C 3 dX9_nextCell_36 rfl ?_
    refine x_getr (K := 10) (k := 4) (o2 := 53) C (isK_lit hdm rfl rfl) (by decide) cl_X9 (by decide) ⟨rfl, rfl, rfl⟩ fl_X9_27 rfl dX9_nextCell_37 ?_
    refine x_iload_n C 0 dX9_nextCell_40 rfl ?_
    refine inb_2 hq (fun hi hq => ?_)
    refine x_iald C (isK_lit hdm rfl rfl) hi dX9_nextCell_41 ?_
    refine x_imul C dX9_nextCell_42 ?_
    refine x_aload_n C 3 dX9_nextCell_43 rfl ?_
    refine x_getr (K := 10) (k := 5) (o2 := 54) C (isK_lit hdm rfl rfl) (by decide) cl_X9 (by decide) ⟨rfl, rfl, rfl⟩ fl_X9_30 rfl dX9_nextCell_44 ?_
    refine x_iload_n C 0 dX9_nextCell_47 rfl ?_
    refine inb_2 hq (fun hi hq => ?_)
    refine x_iald C (isK_lit hdm rfl rfl) hi dX9_nextCell_48 ?_
    refine x_iadd C dX9_nextCell_49 ?_
    refine x_iload_n C 1 dX9_nextCell_50 rfl ?_
    refine x_iadd C dX9_nextCell_51 ?_
    refine x_aload_n C 3 dX9_nextCell_52 rfl ?_
    refine x_iload_n C 0 dX9_nextCell_53 rfl ?_
    refine x_callVi (K := 10) (rm := rmv 1 21 0 0) (As := [iV (r6)]) (rest := [iV (((100 * (gA w5 53 r6)) + (gA w5 54 r6)) + (gA w1 51 8))]) C hA hR0 mf_X9_lettersAhead lk_X9_145 rfl (isK_lit hdm rfl rfl) (by decide) ⟨rfl, rfl⟩ ⟨Nat.le_of_ble_eq_true rfl, Nat.le_of_ble_eq_true rfl⟩ rfl rfl (Nat.le_of_ble_eq_true rfl) hce dX9_nextCell_54 hq (fun _ _ h => c_X9_lettersAhead g.l g.G hdm  h) (fun r8 w7 _ hq => ?_)
    refine x_isub C dX9_nextCell_57 ?_
    exact hR _ _ _ _ hq rfl dX9_nextCell_58
  · refine x_iconst C dX9_nextCell_26 ?_
    exact hR _ _ _ _ hq rfl dX9_nextCell_27
set_option maxRecDepth 100000 in
set_option maxHeartbeats 4000000 in
theorem c_X9_nextCell (l : Launch) (G : Gd) {dm na : Nat} {ad : Nat → Nat} (hdm : dm = 1)  {w w' : Wd} {r : Int}  (hq : p_X9_nextCell  w = some (r, w')) : mI l yX9_nextCell cX9_nextCell 4 (some .int) (rmv 9 213 0 0) G dm na ad [.ref (ad (50))] w r w' := by
  refine met_I [(0, .ref (ad (50)))] (by decide) (Nat.le_of_ble_eq_true rfl) rfl .int rfl (fun g d C S hR => ?_)
  obtain ⟨rfl, hR0, rfl, rfl, rfl, hA⟩ := S
  exact L_X9_nextCell (d := (na, ad, 0, 0)) C hdm hA hR0 ⟨Nat.zero_le _, Nat.zero_le _⟩ hR   w hq
set_option maxRecDepth 100000 in
set_option maxHeartbeats 4000000 in
theorem L_X9_laidIf_36 {g : Cx} {d : Dl} (C : CX g cX9_laidIf 3 (some .int) RX9) (hdm : g.dm = 1) (hA : ∀ q : Nat, g.s.heap.size ≤ q → g.A q) (hR0 : g.R = rmv 9 213 0 0) (hce : d.ce ≤ g.R.cells ∧ d.so ≤ g.R.slots) {res : Int × Wd} (hR : rtI g d cX9_laidIf .int res) (s0 : Int) (s1 : Int) (s2 : Int) (w : Wd) (hq : p_X9_laidIf_36 s0 s1 s2 w = some res) : XG g d (hP g d w) [(0, .ref (d.ad (50)))] [iV (s0), iV (s1), iV (s2), .ref (d.ad (50))] 36 := by
  refine x_callVv (K := 10) (rm := rmv 0 0 0 0) (As := [iV (s2), iV (s1), iV (s0)]) (rest := []) C hA hR0 mf_X9_putFlaw lk_X9_175 rfl (isK_lit hdm rfl rfl) (by decide) ⟨rfl, rfl⟩ ⟨Nat.le_of_ble_eq_true rfl, Nat.le_of_ble_eq_true rfl⟩ rfl rfl (Nat.le_of_ble_eq_true rfl) hce dX9_laidIf_36 hq (fun _ h => c_X9_putFlaw g.l g.G hdm  h) (fun w1 _ hq => ?_)
  refine x_aload_n C 0 dX9_laidIf_39 rfl ?_
  refine x_aload_n C 0 dX9_laidIf_40 rfl ?_
  refine x_callVi (K := 10) (rm := rmv 8 192 0 0) (As := []) (rest := [.ref (d.ad (50))]) C hA hR0 mf_X9_lay lk_X9_179 rfl (isK_lit hdm rfl rfl) (by decide) ⟨rfl, rfl⟩ ⟨Nat.le_of_ble_eq_true rfl, Nat.le_of_ble_eq_true rfl⟩ rfl rfl (Nat.le_of_ble_eq_true rfl) hce dX9_laidIf_41 hq (fun _ _ h => c_X9_lay g.l g.G hdm  h) (fun r3 w2 _ hq => ?_)
  refine x_callVi (K := 10) (rm := rmv 0 0 0 0) (As := [iV (r3)]) (rest := []) C hA hR0 mf_X9_layBack lk_X9_388 rfl (isK_lit hdm rfl rfl) (by decide) ⟨rfl, rfl⟩ ⟨Nat.le_of_ble_eq_true rfl, Nat.le_of_ble_eq_true rfl⟩ rfl rfl (Nat.le_of_ble_eq_true rfl) hce dX9_laidIf_44 hq (fun _ _ h => c_X9_layBack g.l g.G hdm  h) (fun r5 w4 _ hq => ?_)
  exact hR _ _ _ _ hq rfl dX9_laidIf_47
set_option maxRecDepth 100000 in
set_option maxHeartbeats 4000000 in
theorem L_X9_laidIf {g : Cx} {d : Dl} (C : CX g cX9_laidIf 3 (some .int) RX9) (hdm : g.dm = 1) (hA : ∀ q : Nat, g.s.heap.size ≤ q → g.A q) (hR0 : g.R = rmv 9 213 0 0) (hce : d.ce ≤ g.R.cells ∧ d.so ≤ g.R.slots) {res : Int × Wd} (hR : rtI g d cX9_laidIf .int res) (x1 : Int) (x2 : Int) (w : Wd) (hq : p_X9_laidIf x1 x2 w = some res) : XG g d (hP g d w) [(0, .ref (d.ad (50))), (1, iV (x1)), (2, iV (x2))] [] 0 := by
  refine x_aload_n C 0 dX9_laidIf_0 rfl ?_
  refine x_aload_n C 0 dX9_laidIf_1 rfl ?_
  refine x_iload_n C 1 dX9_laidIf_2 rfl ?_
  refine x_iload_n C 2 dX9_laidIf_3 rfl ?_
  refine x_callVi (K := 10) (rm := rmv 1 25 0 0) (As := [iV (x1), iV (x2)]) (rest := [.ref (d.ad (50))]) C hA hR0 mf_X9_isCell lk_X9_82 rfl (isK_lit hdm rfl rfl) (by decide) ⟨rfl, rfl⟩ ⟨Nat.le_of_ble_eq_true rfl, Nat.le_of_ble_eq_true rfl⟩ rfl rfl (Nat.le_of_ble_eq_true rfl) hce dX9_laidIf_4 hq (fun _ _ h => c_X9_isCell g.l g.G hdm  h) (fun r2 w1 _ hq => ?_)
  refine x_callVi (K := 10) (rm := rmv 1 23 0 0) (As := [iV (r2)]) (rest := []) C hA hR0 mf_X9_passes lk_X9_191 rfl (isK_lit hdm rfl rfl) (by decide) ⟨rfl, rfl⟩ ⟨Nat.le_of_ble_eq_true rfl, Nat.le_of_ble_eq_true rfl⟩ rfl rfl (Nat.le_of_ble_eq_true rfl) hce dX9_laidIf_7 hq (fun _ _ h => c_X9_passes g.l g.G hdm  h) (fun r4 w3 _ hq => ?_)
  refine x_if_ne (tgt := 15) C dX9_laidIf_10 (by decide) hq (fun hq => ?_) (fun hq => ?_)
  · refine x_aload_n C 0 dX9_laidIf_15 rfl ?_
    refine x_callVv (K := 10) (rm := rmv 0 0 0 0) (As := []) (rest := []) C hA hR0 mf_X9_keepAside lk_X9_385 rfl (isK_lit hdm rfl rfl) (by decide) ⟨rfl, rfl⟩ ⟨Nat.le_of_ble_eq_true rfl, Nat.le_of_ble_eq_true rfl⟩ rfl rfl (Nat.le_of_ble_eq_true rfl) hce dX9_laidIf_16 hq (fun _ h => c_X9_keepAside g.l g.G hdm  h) (fun w5 _ hq => ?_)
    refine x_aload_n C 0 dX9_laidIf_19 rfl ?_
    refine x_iload_n C 1 dX9_laidIf_20 rfl ?_
    refine x_iload_n C 2 dX9_laidIf_21 rfl ?_
    refine x_aload_n C 0 dX9_laidIf_22 rfl ?_
    refine x_iload_n C 1 dX9_laidIf_23 rfl ?_
    refine x_iload_n C 2 dX9_laidIf_24 rfl ?_
    refine x_callVi (K := 10) (rm := rmv 2 47 0 0) (As := [iV (x1), iV (x2)]) (rest := [iV (x2), iV (x1), .ref (d.ad (50))]) C hA hR0 mf_X9_hasFlaw lk_X9_93 rfl (isK_lit hdm rfl rfl) (by decide) ⟨rfl, rfl⟩ ⟨Nat.le_of_ble_eq_true rfl, Nat.le_of_ble_eq_true rfl⟩ rfl rfl (Nat.le_of_ble_eq_true rfl) hce dX9_laidIf_25 hq (fun _ _ h => c_X9_hasFlaw g.l g.G hdm  h) (fun r7 w6 _ hq => ?_)
    refine x_if_eq (tgt := 35) C dX9_laidIf_28 (by decide) hq (fun hq => ?_) (fun hq => ?_)
    · refine x_iconst C dX9_laidIf_35 ?_
      refine XG.sub [0] rfl ?_
      exact L_X9_laidIf_36 C hdm hA hR0 hce hR _ _ _ _ hq
    · refine x_iconst C dX9_laidIf_31 ?_
      refine x_goto (tgt := 36) C dX9_laidIf_32 (by decide) ?_
      refine XG.sub [0] rfl ?_
      exact L_X9_laidIf_36 C hdm hA hR0 hce hR _ _ _ _ hq
  · refine x_iconst C dX9_laidIf_13 ?_
    exact hR _ _ _ _ hq rfl dX9_laidIf_14
set_option maxRecDepth 100000 in
set_option maxHeartbeats 4000000 in
theorem c_X9_laidIf (l : Launch) (G : Gd) {dm na : Nat} {ad : Nat → Nat} (hdm : dm = 1) {x1 : Int} {x2 : Int} {w w' : Wd} {r : Int}  (hq : p_X9_laidIf x1 x2 w = some (r, w')) : mI l yX9_laidIf cX9_laidIf 3 (some .int) (rmv 9 213 0 0) G dm na ad [.ref (ad (50)), iV (x1), iV (x2)] w r w' := by
  refine met_I [(0, .ref (ad (50))), (1, iV (x1)), (2, iV (x2))] (by decide) (Nat.le_of_ble_eq_true rfl) rfl .int rfl (fun g d C S hR => ?_)
  obtain ⟨rfl, hR0, rfl, rfl, rfl, hA⟩ := S
  exact L_X9_laidIf (d := (na, ad, 0, 0)) C hdm hA hR0 ⟨Nat.zero_le _, Nat.zero_le _⟩ hR  _ _ w hq
set_option maxRecDepth 100000 in
set_option maxHeartbeats 4000000 in
theorem L_X9_worstFlaw_71 {g : Cx} {d : Dl} (C : CX g cX9_worstFlaw 6 (some .int) RX9) (hdm : g.dm = 1) (hA : ∀ q : Nat, g.s.heap.size ≤ q → g.A q) (hR0 : g.R = rmv 10 235 0 0) (hce : d.ce ≤ g.R.cells ∧ d.so ≤ g.R.slots) {res : Int × Wd} (hR : rtI g d cX9_worstFlaw .int res) {k11 : Int → Int → Int → Wd → Option (Int × Wd)} {k22 : Int → Int → Int → Int → Wd → Option (Int × Wd)} (hk11 : ∀ (x1 : Int) (x2 : Int) (x3 : Int) (w : Wd), k11 x1 x2 x3 w = some res → XG g d (hP g d w) [(0, .ref (d.ad (50))), (1, iV (x1)), (2, iV (x2)), (3, iV (x3))] [] 11) (hk22 : ∀ (x1 : Int) (x2 : Int) (x3 : Int) (x4 : Int) (w : Wd), k22 x1 x2 x3 x4 w = some res → XG g d (hP g d w) [(0, .ref (d.ad (50))), (1, iV (x1)), (2, iV (x2)), (3, iV (x3)), (4, iV (x4))] [] 22) (x2 : Int) (x3 : Int) (x4 : Int) (x5 : Int) (s0 : Int) (w : Wd) (hq : p_X9_worstFlaw_71 k11 k22 x2 x3 x4 x5 s0 w = some res) : XG g d (hP g d w) [(0, .ref (d.ad (50))), (2, iV (x2)), (3, iV (x3)), (4, iV (x4)), (5, iV (x5))] [iV (s0)] 71 := by
  refine x_istore_n (lv' := [(1, iV (s0)), (0, .ref (d.ad (50))), (2, iV (x2)), (3, iV (x3)), (4, iV (x4)), (5, iV (x5))]) C dX9_worstFlaw_71 (by decide) rfl ?_
  refine x_iload_n C 2 dX9_worstFlaw_72 rfl ?_
  refine x_iload C 5 dX9_worstFlaw_73 rfl ?_
  refine x_max C hR0 lk_X9_160 jm_max_s jm_i jm_max_c ⟨Nat.le_of_ble_eq_true rfl, Nat.le_of_ble_eq_true rfl⟩ hce dX9_worstFlaw_75 ?_
  refine x_istore_n (lv' := [(2, iV (mx32 x2 x5)), (1, iV (s0)), (0, .ref (d.ad (50))), (3, iV (x3)), (4, iV (x4)), (5, iV (x5))]) C dX9_worstFlaw_78 (by decide) rfl ?_
  refine x_iinc (lv' := [(4, iV (x4 + 1)), (2, iV (mx32 x2 x5)), (1, iV (s0)), (0, .ref (d.ad (50))), (3, iV (x3)), (5, iV (x5))]) C 4 dX9_worstFlaw_79 rfl (by decide) rfl ?_
  refine x_goto (tgt := 22) C dX9_worstFlaw_82 (by decide) ?_
  refine XG.sub [3, 2, 1, 4, 0] rfl ?_
  exact hk22 _ _ _ _ _ hq
set_option maxRecDepth 100000 in
set_option maxHeartbeats 4000000 in
theorem L_X9_worstFlaw_52 {g : Cx} {d : Dl} (C : CX g cX9_worstFlaw 6 (some .int) RX9) (hdm : g.dm = 1) (hA : ∀ q : Nat, g.s.heap.size ≤ q → g.A q) (hR0 : g.R = rmv 10 235 0 0) (hce : d.ce ≤ g.R.cells ∧ d.so ≤ g.R.slots) {res : Int × Wd} (hR : rtI g d cX9_worstFlaw .int res) {k11 : Int → Int → Int → Wd → Option (Int × Wd)} {k22 : Int → Int → Int → Int → Wd → Option (Int × Wd)} (hk11 : ∀ (x1 : Int) (x2 : Int) (x3 : Int) (w : Wd), k11 x1 x2 x3 w = some res → XG g d (hP g d w) [(0, .ref (d.ad (50))), (1, iV (x1)), (2, iV (x2)), (3, iV (x3))] [] 11) (hk22 : ∀ (x1 : Int) (x2 : Int) (x3 : Int) (x4 : Int) (w : Wd), k22 x1 x2 x3 x4 w = some res → XG g d (hP g d w) [(0, .ref (d.ad (50))), (1, iV (x1)), (2, iV (x2)), (3, iV (x3)), (4, iV (x4))] [] 22) (x1 : Int) (x2 : Int) (x3 : Int) (x4 : Int) (s0 : Int) (w : Wd) (hq : p_X9_worstFlaw_52 k11 k22 x1 x2 x3 x4 s0 w = some res) : XG g d (hP g d w) [(0, .ref (d.ad (50))), (1, iV (x1)), (2, iV (x2)), (3, iV (x3)), (4, iV (x4))] [iV (s0)] 52 := by
  refine x_istore (lv' := [(5, iV (s0)), (0, .ref (d.ad (50))), (1, iV (x1)), (2, iV (x2)), (3, iV (x3)), (4, iV (x4))]) C dX9_worstFlaw_52 (by decide) rfl ?_
  refine x_iload C 0 dX9_worstFlaw_54 rfl ?_
  refine x_iload_n C 3 dX9_worstFlaw_56 rfl ?_
  refine x_icmp_le (tgt := 70) C dX9_worstFlaw_57 (by decide) hq (fun hq => ?_) (fun hq => ?_)
  · refine x_iload_n C 2 dX9_worstFlaw_70 rfl ?_
    refine XG.sub [1, 3, 4, 5, 0] rfl ?_
    exact L_X9_worstFlaw_71 C hdm hA hR0 hce hR hk11 hk22 _ _ _ _ _ _ hq
  · refine x_bipush (v := 100) C dX9_worstFlaw_60 (by decide +kernel) ?_
    refine x_iload_n C 4 dX9_worstFlaw_62 rfl ?_
    refine x_imul C dX9_worstFlaw_63 ?_
    refine x_iload C 5 dX9_worstFlaw_64 rfl ?_
    refine x_iadd C dX9_worstFlaw_66 ?_
    refine x_goto (tgt := 71) C dX9_worstFlaw_67 (by decide) ?_
    refine XG.sub [1, 3, 4, 5, 0] rfl ?_
    exact L_X9_worstFlaw_71 C hdm hA hR0 hce hR hk11 hk22 _ _ _ _ _ _ hq
set_option maxRecDepth 100000 in
set_option maxHeartbeats 4000000 in
theorem L_X9_worstFlaw_85 {g : Cx} {d : Dl} (C : CX g cX9_worstFlaw 6 (some .int) RX9) (hdm : g.dm = 1) (hA : ∀ q : Nat, g.s.heap.size ≤ q → g.A q) (hR0 : g.R = rmv 10 235 0 0) (hce : d.ce ≤ g.R.cells ∧ d.so ≤ g.R.slots) {res : Int × Wd} (hR : rtI g d cX9_worstFlaw .int res) {k11 : Int → Int → Int → Wd → Option (Int × Wd)} (hk11 : ∀ (x1 : Int) (x2 : Int) (x3 : Int) (w : Wd), k11 x1 x2 x3 w = some res → XG g d (hP g d w) [(0, .ref (d.ad (50))), (1, iV (x1)), (2, iV (x2)), (3, iV (x3))] [] 11) (x1 : Int) (x2 : Int) (x3 : Int) (w : Wd) (hq : p_X9_worstFlaw_85 k11 x1 x2 x3 w = some res) : XG g d (hP g d w) [(0, .ref (d.ad (50))), (1, iV (x1)), (2, iV (x2)), (3, iV (x3))] [] 85 := by
  refine x_iinc (lv' := [(3, iV (x3 + 1)), (0, .ref (d.ad (50))), (1, iV (x1)), (2, iV (x2))]) C 3 dX9_worstFlaw_85 rfl (by decide) rfl ?_
  refine x_goto (tgt := 11) C dX9_worstFlaw_88 (by decide) ?_
  refine XG.sub [1, 2, 3, 0] rfl ?_
  exact hk11 _ _ _ _ hq
set_option maxRecDepth 100000 in
set_option maxHeartbeats 4000000 in
theorem L_X9_worstFlaw_22 {g : Cx} {d : Dl} (C : CX g cX9_worstFlaw 6 (some .int) RX9) (hdm : g.dm = 1) (hA : ∀ q : Nat, g.s.heap.size ≤ q → g.A q) (hR0 : g.R = rmv 10 235 0 0) (hce : d.ce ≤ g.R.cells ∧ d.so ≤ g.R.slots) {res : Int × Wd} (hR : rtI g d cX9_worstFlaw .int res) {k11 : Int → Int → Int → Wd → Option (Int × Wd)} (hk11 : ∀ (x1 : Int) (x2 : Int) (x3 : Int) (w : Wd), k11 x1 x2 x3 w = some res → XG g d (hP g d w) [(0, .ref (d.ad (50))), (1, iV (x1)), (2, iV (x2)), (3, iV (x3))] [] 11) : ∀ (n : Nat) (x1 : Int) (x2 : Int) (x3 : Int) (x4 : Int) (w : Wd), p_X9_worstFlaw_22 k11 n x1 x2 x3 x4 w = some res → XG g d (hP g d w) [(0, .ref (d.ad (50))), (1, iV (x1)), (2, iV (x2)), (3, iV (x3)), (4, iV (x4))] [] 22 := by
  intro n
  induction n with
  | zero => intro x1 x2 x3 x4 w  hq; exact nomatch (show none = some _ from hq)
  | succ n ih =>
    intro x1 x2 x3 x4 w  hq
    refine x_iload C 4 dX9_worstFlaw_22 rfl ?_
    refine x_aload_n C 0 dX9_worstFlaw_24 rfl ?_
    refine x_callVi (K := 10) (rm := rmv 0 0 0 0) (As := []) (rest := [iV (x4)]) C hA hR0 mf_X9_wide lk_X9_71 rfl (isK_lit hdm rfl rfl) (by decide) ⟨rfl, rfl⟩ ⟨Nat.le_of_ble_eq_true rfl, Nat.le_of_ble_eq_true rfl⟩ rfl rfl (Nat.le_of_ble_eq_true rfl) hce dX9_worstFlaw_25 hq (fun _ _ h => c_X9_wide g.l g.G hdm  h) (fun r2 w1 _ hq => ?_)
    refine x_icmp_ge (tgt := 85) C dX9_worstFlaw_28 (by decide) hq (fun hq => ?_) (fun hq => ?_)
    · refine XG.sub [0, 1, 2, 3] rfl ?_
      exact L_X9_worstFlaw_85 C hdm hA hR0 hce hR hk11 _ _ _ _ hq
    · refine x_aload_n C 0 dX9_worstFlaw_31 rfl ?_
      refine x_iload C 4 dX9_worstFlaw_32 rfl ?_
      refine x_iload_n C 3 dX9_worstFlaw_34 rfl ?_
      refine x_callVi (K := 10) (rm := rmv 2 47 0 0) (As := [iV (x4), iV (x3)]) (rest := []) C hA hR0 mf_X9_hasFlaw lk_X9_93 rfl (isK_lit hdm rfl rfl) (by decide) ⟨rfl, rfl⟩ ⟨Nat.le_of_ble_eq_true rfl, Nat.le_of_ble_eq_true rfl⟩ rfl rfl (Nat.le_of_ble_eq_true rfl) hce dX9_worstFlaw_35 hq (fun _ _ h => c_X9_hasFlaw g.l g.G hdm  h) (fun r4 w3 _ hq => ?_)
      refine x_if_eq (tgt := 51) C dX9_worstFlaw_38 (by decide) hq (fun hq => ?_) (fun hq => ?_)
      · refine x_iconst C dX9_worstFlaw_51 ?_
        exact L_X9_worstFlaw_52 C hdm hA hR0 hce hR hk11 ih _ _ _ _ _ _ hq
      · refine x_aload_n C 0 dX9_worstFlaw_41 rfl ?_
        refine x_iload C 4 dX9_worstFlaw_42 rfl ?_
        refine x_iload_n C 3 dX9_worstFlaw_44 rfl ?_
        refine x_callVi (K := 10) (rm := rmv 9 213 0 0) (As := [iV (x4), iV (x3)]) (rest := []) C hA hR0 mf_X9_laidIf lk_X9_391 rfl (isK_lit hdm rfl rfl) (by decide) ⟨rfl, rfl⟩ ⟨Nat.le_of_ble_eq_true rfl, Nat.le_of_ble_eq_true rfl⟩ rfl rfl (Nat.le_of_ble_eq_true rfl) hce dX9_worstFlaw_45 hq (fun _ _ h => c_X9_laidIf g.l g.G hdm  h) (fun r6 w5 _ hq => ?_)
        refine x_goto (tgt := 52) C dX9_worstFlaw_48 (by decide) ?_
        exact L_X9_worstFlaw_52 C hdm hA hR0 hce hR hk11 ih _ _ _ _ _ _ hq
set_option maxRecDepth 100000 in
set_option maxHeartbeats 4000000 in
theorem L_X9_worstFlaw_11 {g : Cx} {d : Dl} (C : CX g cX9_worstFlaw 6 (some .int) RX9) (hdm : g.dm = 1) (hA : ∀ q : Nat, g.s.heap.size ≤ q → g.A q) (hR0 : g.R = rmv 10 235 0 0) (hce : d.ce ≤ g.R.cells ∧ d.so ≤ g.R.slots) {res : Int × Wd} (hR : rtI g d cX9_worstFlaw .int res) : ∀ (n : Nat) (x1 : Int) (x2 : Int) (x3 : Int) (w : Wd), p_X9_worstFlaw_11 n x1 x2 x3 w = some res → XG g d (hP g d w) [(0, .ref (d.ad (50))), (1, iV (x1)), (2, iV (x2)), (3, iV (x3))] [] 11 := by
  intro n
  induction n with
  | zero => intro x1 x2 x3 w  hq; exact nomatch (show none = some _ from hq)
  | succ n ih =>
    intro x1 x2 x3 w  hq
    refine x_iload_n C 3 dX9_worstFlaw_11 rfl ?_
    refine x_aload_n C 0 dX9_worstFlaw_12 rfl ?_
    refine x_callVi (K := 10) (rm := rmv 0 0 0 0) (As := []) (rest := [iV (x3)]) C hA hR0 mf_X9_high lk_X9_79 rfl (isK_lit hdm rfl rfl) (by decide) ⟨rfl, rfl⟩ ⟨Nat.le_of_ble_eq_true rfl, Nat.le_of_ble_eq_true rfl⟩ rfl rfl (Nat.le_of_ble_eq_true rfl) hce dX9_worstFlaw_13 hq (fun _ _ h => c_X9_high g.l g.G hdm  h) (fun r2 w1 _ hq => ?_)
    refine x_icmp_ge (tgt := 91) C dX9_worstFlaw_16 (by decide) hq (fun hq => ?_) (fun hq => ?_)
    · refine x_iload_n C 1 dX9_worstFlaw_91 rfl ?_
      exact hR _ _ _ _ hq rfl dX9_worstFlaw_92
    · refine x_iconst C dX9_worstFlaw_19 ?_
      refine x_istore (lv' := [(4, iV (0)), (0, .ref (d.ad (50))), (1, iV (x1)), (2, iV (x2)), (3, iV (x3))]) C dX9_worstFlaw_20 (by decide) rfl ?_
      refine XG.sub [1, 2, 3, 4, 0] rfl ?_
      exact L_X9_worstFlaw_22 C hdm hA hR0 hce hR ih _ _ _ _ _ _ hq
set_option maxRecDepth 100000 in
set_option maxHeartbeats 4000000 in
theorem L_X9_worstFlaw {g : Cx} {d : Dl} (C : CX g cX9_worstFlaw 6 (some .int) RX9) (hdm : g.dm = 1) (hA : ∀ q : Nat, g.s.heap.size ≤ q → g.A q) (hR0 : g.R = rmv 10 235 0 0) (hce : d.ce ≤ g.R.cells ∧ d.so ≤ g.R.slots) {res : Int × Wd} (hR : rtI g d cX9_worstFlaw .int res)  (w : Wd) (hq : p_X9_worstFlaw  w = some res) : XG g d (hP g d w) [(0, .ref (d.ad (50)))] [] 0 := by
  refine x_aload_n C 0 dX9_worstFlaw_0 rfl ?_
  refine x_iconst C dX9_worstFlaw_1 ?_
  refine x_put (K := 10) (k := 0) C (isK_lit hdm rfl rfl) (by decide) cl_X9 (by decide) ⟨rfl, rfl, rfl, rfl⟩ fl_X9_3 ⟨rfl, rfl⟩ dX9_worstFlaw_2 ?_
  refine x_iconst C dX9_worstFlaw_5 ?_
  refine x_istore_n (lv' := [(1, iV (-1)), (0, .ref (d.ad (50)))]) C dX9_worstFlaw_6 (by decide) rfl ?_
  refine x_iconst C dX9_worstFlaw_7 ?_
  refine x_istore_n (lv' := [(2, iV (-1)), (1, iV (-1)), (0, .ref (d.ad (50)))]) C dX9_worstFlaw_8 (by decide) rfl ?_
  refine x_iconst C dX9_worstFlaw_9 ?_
  refine x_istore_n (lv' := [(3, iV (0)), (2, iV (-1)), (1, iV (-1)), (0, .ref (d.ad (50)))]) C dX9_worstFlaw_10 (by decide) rfl ?_
  refine XG.sub [3, 2, 1, 0] rfl ?_
  exact L_X9_worstFlaw_11 C hdm hA hR0 hce hR _ _ _ _ _ hq
set_option maxRecDepth 100000 in
set_option maxHeartbeats 4000000 in
theorem c_X9_worstFlaw (l : Launch) (G : Gd) {dm na : Nat} {ad : Nat → Nat} (hdm : dm = 1)  {w w' : Wd} {r : Int}  (hq : p_X9_worstFlaw  w = some (r, w')) : mI l yX9_worstFlaw cX9_worstFlaw 6 (some .int) (rmv 10 235 0 0) G dm na ad [.ref (ad (50))] w r w' := by
  refine met_I [(0, .ref (ad (50)))] (by decide) (Nat.le_of_ble_eq_true rfl) rfl .int rfl (fun g d C S hR => ?_)
  obtain ⟨rfl, hR0, rfl, rfl, rfl, hA⟩ := S
  exact L_X9_worstFlaw (d := (na, ad, 0, 0)) C hdm hA hR0 ⟨Nat.zero_le _, Nat.zero_le _⟩ hR   w hq
set_option maxRecDepth 100000 in
set_option maxHeartbeats 4000000 in
theorem L_X9_laidWithout_34 {g : Cx} {d : Dl} (C : CX g cX9_laidWithout 2 (some .int) RX9) (hdm : g.dm = 1) (hA : ∀ q : Nat, g.s.heap.size ≤ q → g.A q) (hR0 : g.R = rmv 9 213 0 0) (hce : d.ce ≤ g.R.cells ∧ d.so ≤ g.R.slots) {res : Int × Wd} (hR : rtI g d cX9_laidWithout .int res)  (w : Wd) (hq : p_X9_laidWithout_34 w = some res) : XG g d (hP g d w) [(0, .ref (d.ad (50)))] [] 34 := by
  refine x_aload_n C 0 dX9_laidWithout_34 rfl ?_
  refine x_aload_n C 0 dX9_laidWithout_35 rfl ?_
  refine x_callVi (K := 10) (rm := rmv 8 192 0 0) (As := []) (rest := [.ref (d.ad (50))]) C hA hR0 mf_X9_lay lk_X9_179 rfl (isK_lit hdm rfl rfl) (by decide) ⟨rfl, rfl⟩ ⟨Nat.le_of_ble_eq_true rfl, Nat.le_of_ble_eq_true rfl⟩ rfl rfl (Nat.le_of_ble_eq_true rfl) hce dX9_laidWithout_36 hq (fun _ _ h => c_X9_lay g.l g.G hdm  h) (fun r2 w1 _ hq => ?_)
  refine x_callVi (K := 10) (rm := rmv 0 0 0 0) (As := [iV (r2)]) (rest := []) C hA hR0 mf_X9_layBack lk_X9_388 rfl (isK_lit hdm rfl rfl) (by decide) ⟨rfl, rfl⟩ ⟨Nat.le_of_ble_eq_true rfl, Nat.le_of_ble_eq_true rfl⟩ rfl rfl (Nat.le_of_ble_eq_true rfl) hce dX9_laidWithout_39 hq (fun _ _ h => c_X9_layBack g.l g.G hdm  h) (fun r4 w3 _ hq => ?_)
  exact hR _ _ _ _ hq rfl dX9_laidWithout_42
set_option maxRecDepth 100000 in
set_option maxHeartbeats 4000000 in
theorem L_X9_laidWithout_11 {g : Cx} {d : Dl} (C : CX g cX9_laidWithout 2 (some .int) RX9) (hdm : g.dm = 1) (hA : ∀ q : Nat, g.s.heap.size ≤ q → g.A q) (hR0 : g.R = rmv 9 213 0 0) (hce : d.ce ≤ g.R.cells ∧ d.so ≤ g.R.slots) {res : Int × Wd} (hR : rtI g d cX9_laidWithout .int res) : ∀ (n : Nat) (x1 : Int) (w : Wd), p_X9_laidWithout_11 n x1 w = some res → XG g d (hP g d w) [(0, .ref (d.ad (50))), (1, iV (x1))] [] 11 := by
  intro n
  induction n with
  | zero => intro x1 w  hq; exact nomatch (show none = some _ from hq)
  | succ n ih =>
    intro x1 w  hq
    refine x_iload_n C 1 dX9_laidWithout_11 rfl ?_
    refine x_sipush (v := 288) C dX9_laidWithout_12 (by decide +kernel) ?_
    refine x_icmp_ge (tgt := 34) C dX9_laidWithout_15 (by decide) hq (fun hq => ?_) (fun hq => ?_)
    · refine XG.sub [0] rfl ?_
      exact L_X9_laidWithout_34 C hdm hA hR0 hce hR _ hq
    · refine x_aload_n C 0 dX9_laidWithout_18 rfl ?_
      refine x_getr (K := 10) (k := 1) (o2 := 51) C (isK_lit hdm rfl rfl) (by decide) cl_X9 (by decide) ⟨rfl, rfl, rfl⟩ fl_X9_17 rfl dX9_laidWithout_19 ?_
      refine x_bipush (v := 11) C dX9_laidWithout_22 (by decide +kernel) ?_
      refine x_iload_n C 1 dX9_laidWithout_24 rfl ?_
      refine x_iadd C dX9_laidWithout_25 ?_
      refine x_iconst C dX9_laidWithout_26 ?_
      refine inb_2 hq (fun hi hq => ?_)
      refine x_iast C (isK_lit hdm rfl rfl) hi dX9_laidWithout_27 ?_
      refine x_iinc (lv' := [(1, iV (x1 + 1)), (0, .ref (d.ad (50)))]) C 1 dX9_laidWithout_28 rfl (by decide) rfl ?_
      refine x_goto (tgt := 11) C dX9_laidWithout_31 (by decide) ?_
      refine XG.sub [1, 0] rfl ?_
      exact ih _ _ hq
set_option maxRecDepth 100000 in
set_option maxHeartbeats 4000000 in
theorem L_X9_laidWithout {g : Cx} {d : Dl} (C : CX g cX9_laidWithout 2 (some .int) RX9) (hdm : g.dm = 1) (hA : ∀ q : Nat, g.s.heap.size ≤ q → g.A q) (hR0 : g.R = rmv 9 213 0 0) (hce : d.ce ≤ g.R.cells ∧ d.so ≤ g.R.slots) {res : Int × Wd} (hR : rtI g d cX9_laidWithout .int res)  (w : Wd) (hq : p_X9_laidWithout  w = some res) : XG g d (hP g d w) [(0, .ref (d.ad (50)))] [] 0 := by
  refine x_aload_n C 0 dX9_laidWithout_0 rfl ?_
  refine x_iconst C dX9_laidWithout_1 ?_
  refine x_put (K := 10) (k := 0) C (isK_lit hdm rfl rfl) (by decide) cl_X9 (by decide) ⟨rfl, rfl, rfl, rfl⟩ fl_X9_3 ⟨rfl, rfl⟩ dX9_laidWithout_2 ?_
  refine x_aload_n C 0 dX9_laidWithout_5 rfl ?_
  refine x_callVv (K := 10) (rm := rmv 0 0 0 0) (As := []) (rest := []) C hA hR0 mf_X9_keepAside lk_X9_385 rfl (isK_lit hdm rfl rfl) (by decide) ⟨rfl, rfl⟩ ⟨Nat.le_of_ble_eq_true rfl, Nat.le_of_ble_eq_true rfl⟩ rfl rfl (Nat.le_of_ble_eq_true rfl) hce dX9_laidWithout_6 hq (fun _ h => c_X9_keepAside g.l g.G hdm  h) (fun w1 _ hq => ?_)
  refine x_iconst C dX9_laidWithout_9 ?_
  refine x_istore_n (lv' := [(1, iV (0)), (0, .ref (d.ad (50)))]) C dX9_laidWithout_10 (by decide) rfl ?_
  refine XG.sub [1, 0] rfl ?_
  exact L_X9_laidWithout_11 C hdm hA hR0 hce hR _ _ _ hq
set_option maxRecDepth 100000 in
set_option maxHeartbeats 4000000 in
theorem c_X9_laidWithout (l : Launch) (G : Gd) {dm na : Nat} {ad : Nat → Nat} (hdm : dm = 1)  {w w' : Wd} {r : Int}  (hq : p_X9_laidWithout  w = some (r, w')) : mI l yX9_laidWithout cX9_laidWithout 2 (some .int) (rmv 9 213 0 0) G dm na ad [.ref (ad (50))] w r w' := by
  refine met_I [(0, .ref (ad (50)))] (by decide) (Nat.le_of_ble_eq_true rfl) rfl .int rfl (fun g d C S hR => ?_)
  obtain ⟨rfl, hR0, rfl, rfl, rfl, hA⟩ := S
  exact L_X9_laidWithout (d := (na, ad, 0, 0)) C hdm hA hR0 ⟨Nat.zero_le _, Nat.zero_le _⟩ hR   w hq
set_option maxRecDepth 100000 in
set_option maxHeartbeats 4000000 in
theorem L_X9_isGap {g : Cx} {d : Dl} (C : CX g cX9_isGap 1 (some .boolean) RX9) (hdm : g.dm = 1) (hA : ∀ q : Nat, g.s.heap.size ≤ q → g.A q) (hR0 : g.R = rmv 1 25 0 0) (hce : d.ce ≤ g.R.cells ∧ d.so ≤ g.R.slots) {res : Int × Wd} (hR : rtI g d cX9_isGap .boolean res) (x0 : Int) (w : Wd) (hq : p_X9_isGap x0 w = some res) : XG g d (hP g d w) [(0, iV (x0))] [] 0 := by
  refine x_iload_n C 0 dX9_isGap_0 rfl ?_
  refine x_i2l C dX9_isGap_1 ?_
  refine x_lconst C dX9_isGap_2 ?_
  refine x_ldc2 (v := 3) C rfl kl_X9_394 dX9_isGap_3 ?_
  refine x_callSi (rm := rmv 0 0 0 0) (As := [jV (w32 x0), jV (0), jV (3)]) (rest := []) C hA hR0 mf_X9_in lk_X9_75 ⟨rfl, rfl⟩ ⟨Nat.le_of_ble_eq_true rfl, Nat.le_of_ble_eq_true rfl⟩ rfl rfl (Nat.le_of_ble_eq_true rfl) hce dX9_isGap_6 hq (fun _ _ h => c_X9_in g.l g.G hdm  h) (fun r2 w1 _ hq => ?_)
  exact hR _ _ _ _ (zr_2 hq) (zr_1 hq) dX9_isGap_9
set_option maxRecDepth 100000 in
set_option maxHeartbeats 4000000 in
theorem c_X9_isGap (l : Launch) (G : Gd) {dm na : Nat} {ad : Nat → Nat} (hdm : dm = 1) {x0 : Int} {w w' : Wd} {r : Int}  (hq : p_X9_isGap x0 w = some (r, w')) : mI l yX9_isGap cX9_isGap 1 (some .boolean) (rmv 1 25 0 0) G dm na ad [iV (x0)] w r w' := by
  refine met_I [(0, iV (x0))] (by decide) (Nat.le_of_ble_eq_true rfl) rfl .boolean rfl (fun g d C S hR => ?_)
  obtain ⟨rfl, hR0, rfl, rfl, rfl, hA⟩ := S
  exact L_X9_isGap (d := (na, ad, 0, 0)) C hdm hA hR0 ⟨Nat.zero_le _, Nat.zero_le _⟩ hR  _ w hq
set_option maxRecDepth 100000 in
set_option maxHeartbeats 4000000 in
theorem L_X9_laidWith {g : Cx} {d : Dl} (C : CX g cX9_laidWith 2 (some .int) RX9) (hdm : g.dm = 1) (hA : ∀ q : Nat, g.s.heap.size ≤ q → g.A q) (hR0 : g.R = rmv 9 213 0 0) (hce : d.ce ≤ g.R.cells ∧ d.so ≤ g.R.slots) {res : Int × Wd} (hR : rtI g d cX9_laidWith .int res) (x1 : Int) (w : Wd) (hq : p_X9_laidWith x1 w = some res) : XG g d (hP g d w) [(0, .ref (d.ad (50))), (1, iV (x1))] [] 0 := by
  refine x_aload_n C 0 dX9_laidWith_0 rfl ?_
  refine x_iload_n C 1 dX9_laidWith_1 rfl ?_
  refine x_callSi (rm := rmv 1 25 0 0) (As := [iV (x1)]) (rest := [.ref (d.ad (50))]) C hA hR0 mf_X9_isGap lk_X9_396 ⟨rfl, rfl⟩ ⟨Nat.le_of_ble_eq_true rfl, Nat.le_of_ble_eq_true rfl⟩ rfl rfl (Nat.le_of_ble_eq_true rfl) hce dX9_laidWith_2 hq (fun _ _ h => c_X9_isGap g.l g.G hdm  h) (fun r2 w1 _ hq => ?_)
  refine x_callVi (K := 10) (rm := rmv 1 23 0 0) (As := [iV (r2)]) (rest := []) C hA hR0 mf_X9_passes lk_X9_191 rfl (isK_lit hdm rfl rfl) (by decide) ⟨rfl, rfl⟩ ⟨Nat.le_of_ble_eq_true rfl, Nat.le_of_ble_eq_true rfl⟩ rfl rfl (Nat.le_of_ble_eq_true rfl) hce dX9_laidWith_5 hq (fun _ _ h => c_X9_passes g.l g.G hdm  h) (fun r4 w3 _ hq => ?_)
  refine x_if_ne (tgt := 13) C dX9_laidWith_8 (by decide) hq (fun hq => ?_) (fun hq => ?_)
  · refine x_aload_n C 0 dX9_laidWith_13 rfl ?_
    refine x_callVv (K := 10) (rm := rmv 0 0 0 0) (As := []) (rest := []) C hA hR0 mf_X9_keepAside lk_X9_385 rfl (isK_lit hdm rfl rfl) (by decide) ⟨rfl, rfl⟩ ⟨Nat.le_of_ble_eq_true rfl, Nat.le_of_ble_eq_true rfl⟩ rfl rfl (Nat.le_of_ble_eq_true rfl) hce dX9_laidWith_14 hq (fun _ h => c_X9_keepAside g.l g.G hdm  h) (fun w5 _ hq => ?_)
    refine x_aload_n C 0 dX9_laidWith_17 rfl ?_
    refine x_getr (K := 10) (k := 1) (o2 := 51) C (isK_lit hdm rfl rfl) (by decide) cl_X9 (by decide) ⟨rfl, rfl, rfl⟩ fl_X9_17 rfl dX9_laidWith_18 ?_
    refine x_iconst C dX9_laidWith_21 ?_
    refine x_iload_n C 1 dX9_laidWith_22 rfl ?_
    refine inb_2 hq (fun hi hq => ?_)
    refine x_iast C (isK_lit hdm rfl rfl) hi dX9_laidWith_23 ?_
    refine x_aload_n C 0 dX9_laidWith_24 rfl ?_
    refine x_aload_n C 0 dX9_laidWith_25 rfl ?_
    refine x_callVi (K := 10) (rm := rmv 8 192 0 0) (As := []) (rest := [.ref (d.ad (50))]) C hA hR0 mf_X9_lay lk_X9_179 rfl (isK_lit hdm rfl rfl) (by decide) ⟨rfl, rfl⟩ ⟨Nat.le_of_ble_eq_true rfl, Nat.le_of_ble_eq_true rfl⟩ rfl rfl (Nat.le_of_ble_eq_true rfl) hce dX9_laidWith_26 hq (fun _ _ h => c_X9_lay g.l g.G hdm  h) (fun r7 w6 _ hq => ?_)
    refine x_callVi (K := 10) (rm := rmv 0 0 0 0) (As := [iV (r7)]) (rest := []) C hA hR0 mf_X9_layBack lk_X9_388 rfl (isK_lit hdm rfl rfl) (by decide) ⟨rfl, rfl⟩ ⟨Nat.le_of_ble_eq_true rfl, Nat.le_of_ble_eq_true rfl⟩ rfl rfl (Nat.le_of_ble_eq_true rfl) hce dX9_laidWith_29 hq (fun _ _ h => c_X9_layBack g.l g.G hdm  h) (fun r9 w8 _ hq => ?_)
    exact hR _ _ _ _ hq rfl dX9_laidWith_32
  · refine x_iconst C dX9_laidWith_11 ?_
    exact hR _ _ _ _ hq rfl dX9_laidWith_12
set_option maxRecDepth 100000 in
set_option maxHeartbeats 4000000 in
theorem c_X9_laidWith (l : Launch) (G : Gd) {dm na : Nat} {ad : Nat → Nat} (hdm : dm = 1) {x1 : Int} {w w' : Wd} {r : Int}  (hq : p_X9_laidWith x1 w = some (r, w')) : mI l yX9_laidWith cX9_laidWith 2 (some .int) (rmv 9 213 0 0) G dm na ad [.ref (ad (50)), iV (x1)] w r w' := by
  refine met_I [(0, .ref (ad (50))), (1, iV (x1))] (by decide) (Nat.le_of_ble_eq_true rfl) rfl .int rfl (fun g d C S hR => ?_)
  obtain ⟨rfl, hR0, rfl, rfl, rfl, hA⟩ := S
  exact L_X9_laidWith (d := (na, ad, 0, 0)) C hdm hA hR0 ⟨Nat.zero_le _, Nat.zero_le _⟩ hR  _ w hq
set_option maxRecDepth 100000 in
set_option maxHeartbeats 4000000 in
theorem L_X9_laidTurned {g : Cx} {d : Dl} (C : CX g cX9_laidTurned 1 (some .int) RX9) (hdm : g.dm = 1) (hA : ∀ q : Nat, g.s.heap.size ≤ q → g.A q) (hR0 : g.R = rmv 9 213 0 0) (hce : d.ce ≤ g.R.cells ∧ d.so ≤ g.R.slots) {res : Int × Wd} (hR : rtI g d cX9_laidTurned .int res)  (w : Wd) (hq : p_X9_laidTurned  w = some res) : XG g d (hP g d w) [(0, .ref (d.ad (50)))] [] 0 := by
  refine x_aload_n C 0 dX9_laidTurned_0 rfl ?_
  refine x_iconst C dX9_laidTurned_1 ?_
  refine x_put (K := 10) (k := 0) C (isK_lit hdm rfl rfl) (by decide) cl_X9 (by decide) ⟨rfl, rfl, rfl, rfl⟩ fl_X9_3 ⟨rfl, rfl⟩ dX9_laidTurned_2 ?_
  refine x_aload_n C 0 dX9_laidTurned_5 rfl ?_
  refine x_callVv (K := 10) (rm := rmv 0 0 0 0) (As := []) (rest := []) C hA hR0 mf_X9_keepAside lk_X9_385 rfl (isK_lit hdm rfl rfl) (by decide) ⟨rfl, rfl⟩ ⟨Nat.le_of_ble_eq_true rfl, Nat.le_of_ble_eq_true rfl⟩ rfl rfl (Nat.le_of_ble_eq_true rfl) hce dX9_laidTurned_6 hq (fun _ h => c_X9_keepAside g.l g.G hdm  h) (fun w1 _ hq => ?_)
  refine x_aload_n C 0 dX9_laidTurned_9 rfl ?_
  refine x_callVv (K := 10) (rm := rmv 1 20 0 0) (As := []) (rest := []) C hA hR0 mf_X9_turn lk_X9_399 rfl (isK_lit hdm rfl rfl) (by decide) ⟨rfl, rfl⟩ ⟨Nat.le_of_ble_eq_true rfl, Nat.le_of_ble_eq_true rfl⟩ rfl rfl (Nat.le_of_ble_eq_true rfl) hce dX9_laidTurned_10 hq (fun _ h => c_X9_turn g.l g.G hdm  h) (fun w2 _ hq => ?_)
  refine x_aload_n C 0 dX9_laidTurned_13 rfl ?_
  refine x_aload_n C 0 dX9_laidTurned_14 rfl ?_
  refine x_callVi (K := 10) (rm := rmv 8 192 0 0) (As := []) (rest := [.ref (d.ad (50))]) C hA hR0 mf_X9_lay lk_X9_179 rfl (isK_lit hdm rfl rfl) (by decide) ⟨rfl, rfl⟩ ⟨Nat.le_of_ble_eq_true rfl, Nat.le_of_ble_eq_true rfl⟩ rfl rfl (Nat.le_of_ble_eq_true rfl) hce dX9_laidTurned_15 hq (fun _ _ h => c_X9_lay g.l g.G hdm  h) (fun r4 w3 _ hq => ?_)
  refine x_callVi (K := 10) (rm := rmv 0 0 0 0) (As := [iV (r4)]) (rest := []) C hA hR0 mf_X9_layBack lk_X9_388 rfl (isK_lit hdm rfl rfl) (by decide) ⟨rfl, rfl⟩ ⟨Nat.le_of_ble_eq_true rfl, Nat.le_of_ble_eq_true rfl⟩ rfl rfl (Nat.le_of_ble_eq_true rfl) hce dX9_laidTurned_18 hq (fun _ _ h => c_X9_layBack g.l g.G hdm  h) (fun r6 w5 _ hq => ?_)
  exact hR _ _ _ _ hq rfl dX9_laidTurned_21
set_option maxRecDepth 100000 in
set_option maxHeartbeats 4000000 in
theorem c_X9_laidTurned (l : Launch) (G : Gd) {dm na : Nat} {ad : Nat → Nat} (hdm : dm = 1)  {w w' : Wd} {r : Int}  (hq : p_X9_laidTurned  w = some (r, w')) : mI l yX9_laidTurned cX9_laidTurned 1 (some .int) (rmv 9 213 0 0) G dm na ad [.ref (ad (50))] w r w' := by
  refine met_I [(0, .ref (ad (50)))] (by decide) (Nat.le_of_ble_eq_true rfl) rfl .int rfl (fun g d C S hR => ?_)
  obtain ⟨rfl, hR0, rfl, rfl, rfl, hA⟩ := S
  exact L_X9_laidTurned (d := (na, ad, 0, 0)) C hdm hA hR0 ⟨Nat.zero_le _, Nat.zero_le _⟩ hR   w hq
set_option maxRecDepth 100000 in
set_option maxHeartbeats 4000000 in
theorem L_X9_leastRows_51 {g : Cx} {d : Dl} (C : CX g cX9_leastRows 3 (some .int) RX9) (hdm : g.dm = 1) (hA : ∀ q : Nat, g.s.heap.size ≤ q → g.A q) (hR0 : g.R = rmv 9 213 0 0) (hce : d.ce ≤ g.R.cells ∧ d.so ≤ g.R.slots) {res : Int × Wd} (hR : rtI g d cX9_leastRows .int res) {k7 : Int → Wd → Option (Int × Wd)} (hk7 : ∀ (x1 : Int) (w : Wd), k7 x1 w = some res → XG g d (hP g d w) [(0, .ref (d.ad (50))), (1, iV (x1))] [] 7) (x1 : Int) (s0 : Int) (w : Wd) (hq : p_X9_leastRows_51 k7 x1 s0 w = some res) : XG g d (hP g d w) [(0, .ref (d.ad (50))), (1, iV (x1))] [iV (s0)] 51 := by
  refine x_istore_n (lv' := [(2, iV (s0)), (0, .ref (d.ad (50))), (1, iV (x1))]) C dX9_leastRows_51 (by decide) rfl ?_
  refine x_iload_n C 0 dX9_leastRows_52 rfl ?_
  refine x_if_eq (tgt := 58) C dX9_leastRows_53 (by decide) hq (fun hq => ?_) (fun hq => ?_)
  · refine x_iinc (lv' := [(1, iV (x1 + 1)), (2, iV (s0)), (0, .ref (d.ad (50)))]) C 2 dX9_leastRows_58 rfl (by decide) rfl ?_
    refine x_goto (tgt := 7) C dX9_leastRows_61 (by decide) ?_
    refine XG.sub [2, 0] rfl ?_
    exact hk7 _ _ hq
  · refine x_iload_n C 2 dX9_leastRows_56 rfl ?_
    exact hR _ _ _ _ hq rfl dX9_leastRows_57
set_option maxRecDepth 100000 in
set_option maxHeartbeats 4000000 in
theorem L_X9_leastRows_7 {g : Cx} {d : Dl} (C : CX g cX9_leastRows 3 (some .int) RX9) (hdm : g.dm = 1) (hA : ∀ q : Nat, g.s.heap.size ≤ q → g.A q) (hR0 : g.R = rmv 9 213 0 0) (hce : d.ce ≤ g.R.cells ∧ d.so ≤ g.R.slots) {res : Int × Wd} (hR : rtI g d cX9_leastRows .int res) : ∀ (n : Nat) (x1 : Int) (w : Wd), p_X9_leastRows_7 n x1 w = some res → XG g d (hP g d w) [(0, .ref (d.ad (50))), (1, iV (x1))] [] 7 := by
  intro n
  induction n with
  | zero => intro x1 w  hq; exact nomatch (show none = some _ from hq)
  | succ n ih =>
    intro x1 w  hq
    refine x_iload_n C 1 dX9_leastRows_7 rfl ?_
    refine x_aload_n C 0 dX9_leastRows_8 rfl ?_
    refine x_getr (K := 10) (k := 1) (o2 := 51) C (isK_lit hdm rfl rfl) (by decide) cl_X9 (by decide) ⟨rfl, rfl, rfl⟩ fl_X9_17 rfl dX9_leastRows_9 ?_
    refine x_iconst C dX9_leastRows_12 ?_
    refine inb_2 hq (fun hi hq => ?_)
    refine x_iald C (isK_lit hdm rfl rfl) hi dX9_leastRows_13 ?_
    refine x_icmp_gt (tgt := 64) C dX9_leastRows_14 (by decide) hq (fun hq => ?_) (fun hq => ?_)
    · refine x_iconst C dX9_leastRows_64 ?_
      exact hR _ _ _ _ hq rfl dX9_leastRows_65
    · refine x_aload_n C 0 dX9_leastRows_17 rfl ?_
      refine x_callVv (K := 10) (rm := rmv 0 0 0 0) (As := []) (rest := []) C hA hR0 mf_X9_keepAside lk_X9_385 rfl (isK_lit hdm rfl rfl) (by decide) ⟨rfl, rfl⟩ ⟨Nat.le_of_ble_eq_true rfl, Nat.le_of_ble_eq_true rfl⟩ rfl rfl (Nat.le_of_ble_eq_true rfl) hce dX9_leastRows_18 hq (fun _ h => c_X9_keepAside g.l g.G hdm  h) (fun w1 _ hq => ?_)
      refine x_aload_n C 0 dX9_leastRows_21 rfl ?_
      refine x_getr (K := 10) (k := 1) (o2 := 51) C (isK_lit hdm rfl rfl) (by decide) cl_X9 (by decide) ⟨rfl, rfl, rfl⟩ fl_X9_17 rfl dX9_leastRows_22 ?_
      refine x_iconst C dX9_leastRows_25 ?_
      refine x_iload_n C 1 dX9_leastRows_26 rfl ?_
      refine inb_2 hq (fun hi hq => ?_)
      refine x_iast C (isK_lit hdm rfl rfl) hi dX9_leastRows_27 ?_
      refine x_aload_n C 0 dX9_leastRows_28 rfl ?_
      refine x_aload_n C 0 dX9_leastRows_29 rfl ?_
      refine x_callVi (K := 10) (rm := rmv 8 192 0 0) (As := []) (rest := [.ref (d.ad (50))]) C hA hR0 mf_X9_lay lk_X9_179 rfl (isK_lit hdm rfl rfl) (by decide) ⟨rfl, rfl⟩ ⟨Nat.le_of_ble_eq_true rfl, Nat.le_of_ble_eq_true rfl⟩ rfl rfl (Nat.le_of_ble_eq_true rfl) hce dX9_leastRows_30 hq (fun _ _ h => c_X9_lay g.l g.G hdm  h) (fun r3 w2 _ hq => ?_)
      refine x_callVi (K := 10) (rm := rmv 0 0 0 0) (As := [iV (r3)]) (rest := []) C hA hR0 mf_X9_layBack lk_X9_388 rfl (isK_lit hdm rfl rfl) (by decide) ⟨rfl, rfl⟩ ⟨Nat.le_of_ble_eq_true rfl, Nat.le_of_ble_eq_true rfl⟩ rfl rfl (Nat.le_of_ble_eq_true rfl) hce dX9_leastRows_33 hq (fun _ _ h => c_X9_layBack g.l g.G hdm  h) (fun r5 w4 _ hq => ?_)
      refine x_aload_n C 0 dX9_leastRows_36 rfl ?_
      refine x_getr (K := 10) (k := 1) (o2 := 51) C (isK_lit hdm rfl rfl) (by decide) cl_X9 (by decide) ⟨rfl, rfl, rfl⟩ fl_X9_17 rfl dX9_leastRows_37 ?_
      refine x_bipush (v := 10) C dX9_leastRows_40 (by decide +kernel) ?_
      refine inb_2 hq (fun hi hq => ?_)
      refine x_iald C (isK_lit hdm rfl rfl) hi dX9_leastRows_42 ?_
      refine x_icmp_ne (tgt := 50) C dX9_leastRows_43 (by decide) hq (fun hq => ?_) (fun hq => ?_)
      · refine x_iconst C dX9_leastRows_50 ?_
        exact L_X9_leastRows_51 C hdm hA hR0 hce hR ih _ _ _ hq
      · refine x_iconst C dX9_leastRows_46 ?_
        refine x_goto (tgt := 51) C dX9_leastRows_47 (by decide) ?_
        exact L_X9_leastRows_51 C hdm hA hR0 hce hR ih _ _ _ hq
set_option maxRecDepth 100000 in
set_option maxHeartbeats 4000000 in
theorem L_X9_leastRows {g : Cx} {d : Dl} (C : CX g cX9_leastRows 3 (some .int) RX9) (hdm : g.dm = 1) (hA : ∀ q : Nat, g.s.heap.size ≤ q → g.A q) (hR0 : g.R = rmv 9 213 0 0) (hce : d.ce ≤ g.R.cells ∧ d.so ≤ g.R.slots) {res : Int × Wd} (hR : rtI g d cX9_leastRows .int res)  (w : Wd) (hq : p_X9_leastRows  w = some res) : XG g d (hP g d w) [(0, .ref (d.ad (50)))] [] 0 := by
  refine x_aload_n C 0 dX9_leastRows_0 rfl ?_
  refine x_iconst C dX9_leastRows_1 ?_
  refine x_put (K := 10) (k := 0) C (isK_lit hdm rfl rfl) (by decide) cl_X9 (by decide) ⟨rfl, rfl, rfl, rfl⟩ fl_X9_3 ⟨rfl, rfl⟩ dX9_leastRows_2 ?_
  refine x_iconst C dX9_leastRows_5 ?_
  refine x_istore_n (lv' := [(1, iV (1)), (0, .ref (d.ad (50)))]) C dX9_leastRows_6 (by decide) rfl ?_
  refine XG.sub [1, 0] rfl ?_
  exact L_X9_leastRows_7 C hdm hA hR0 hce hR _ _ _ hq
set_option maxRecDepth 100000 in
set_option maxHeartbeats 4000000 in
theorem c_X9_leastRows (l : Launch) (G : Gd) {dm na : Nat} {ad : Nat → Nat} (hdm : dm = 1)  {w w' : Wd} {r : Int}  (hq : p_X9_leastRows  w = some (r, w')) : mI l yX9_leastRows cX9_leastRows 3 (some .int) (rmv 9 213 0 0) G dm na ad [.ref (ad (50))] w r w' := by
  refine met_I [(0, .ref (ad (50)))] (by decide) (Nat.le_of_ble_eq_true rfl) rfl .int rfl (fun g d C S hR => ?_)
  obtain ⟨rfl, hR0, rfl, rfl, rfl, hA⟩ := S
  exact L_X9_leastRows (d := (na, ad, 0, 0)) C hdm hA hR0 ⟨Nat.zero_le _, Nat.zero_le _⟩ hR   w hq
set_option maxRecDepth 100000 in
set_option maxHeartbeats 4000000 in
theorem L_X9_laidBut {g : Cx} {d : Dl} (C : CX g cX9_laidBut 2 (some .int) RX9) (hdm : g.dm = 1) (hA : ∀ q : Nat, g.s.heap.size ≤ q → g.A q) (hR0 : g.R = rmv 9 213 0 0) (hce : d.ce ≤ g.R.cells ∧ d.so ≤ g.R.slots) {res : Int × Wd} (hR : rtI g d cX9_laidBut .int res) (x1 : Int) (w : Wd) (hq : p_X9_laidBut x1 w = some res) : XG g d (hP g d w) [(0, .ref (d.ad (50))), (1, iV (x1))] [] 0 := by
  refine x_aload_n C 0 dX9_laidBut_0 rfl ?_
  refine x_aload_n C 0 dX9_laidBut_1 rfl ?_
  refine x_iload_n C 1 dX9_laidBut_2 rfl ?_
  refine x_callVi (K := 10) (rm := rmv 1 25 0 0) (As := [iV (x1)]) (rest := [.ref (d.ad (50))]) C hA hR0 mf_X9_isPart lk_X9_344 rfl (isK_lit hdm rfl rfl) (by decide) ⟨rfl, rfl⟩ ⟨Nat.le_of_ble_eq_true rfl, Nat.le_of_ble_eq_true rfl⟩ rfl rfl (Nat.le_of_ble_eq_true rfl) hce dX9_laidBut_3 hq (fun _ _ h => c_X9_isPart g.l g.G hdm  h) (fun r2 w1 _ hq => ?_)
  refine x_callVi (K := 10) (rm := rmv 1 23 0 0) (As := [iV (r2)]) (rest := []) C hA hR0 mf_X9_passes lk_X9_191 rfl (isK_lit hdm rfl rfl) (by decide) ⟨rfl, rfl⟩ ⟨Nat.le_of_ble_eq_true rfl, Nat.le_of_ble_eq_true rfl⟩ rfl rfl (Nat.le_of_ble_eq_true rfl) hce dX9_laidBut_6 hq (fun _ _ h => c_X9_passes g.l g.G hdm  h) (fun r4 w3 _ hq => ?_)
  refine x_if_ne (tgt := 14) C dX9_laidBut_9 (by decide) hq (fun hq => ?_) (fun hq => ?_)
  · refine x_aload_n C 0 dX9_laidBut_14 rfl ?_
    refine x_callVv (K := 10) (rm := rmv 0 0 0 0) (As := []) (rest := []) C hA hR0 mf_X9_keepAside lk_X9_385 rfl (isK_lit hdm rfl rfl) (by decide) ⟨rfl, rfl⟩ ⟨Nat.le_of_ble_eq_true rfl, Nat.le_of_ble_eq_true rfl⟩ rfl rfl (Nat.le_of_ble_eq_true rfl) hce dX9_laidBut_15 hq (fun _ h => c_X9_keepAside g.l g.G hdm  h) (fun w5 _ hq => ?_)
    refine x_aload_n C 0 dX9_laidBut_18 rfl ?_
    refine x_iload_n C 1 dX9_laidBut_19 rfl ?_
    refine x_callVv (K := 10) (rm := rmv 2 44 0 0) (As := [iV (x1)]) (rest := []) C hA hR0 mf_X9_takePart lk_X9_171 rfl (isK_lit hdm rfl rfl) (by decide) ⟨rfl, rfl⟩ ⟨Nat.le_of_ble_eq_true rfl, Nat.le_of_ble_eq_true rfl⟩ rfl rfl (Nat.le_of_ble_eq_true rfl) hce dX9_laidBut_20 hq (fun _ h => c_X9_takePart g.l g.G hdm  h) (fun w6 _ hq => ?_)
    refine x_aload_n C 0 dX9_laidBut_23 rfl ?_
    refine x_aload_n C 0 dX9_laidBut_24 rfl ?_
    refine x_callVi (K := 10) (rm := rmv 8 192 0 0) (As := []) (rest := [.ref (d.ad (50))]) C hA hR0 mf_X9_lay lk_X9_179 rfl (isK_lit hdm rfl rfl) (by decide) ⟨rfl, rfl⟩ ⟨Nat.le_of_ble_eq_true rfl, Nat.le_of_ble_eq_true rfl⟩ rfl rfl (Nat.le_of_ble_eq_true rfl) hce dX9_laidBut_25 hq (fun _ _ h => c_X9_lay g.l g.G hdm  h) (fun r8 w7 _ hq => ?_)
    refine x_callVi (K := 10) (rm := rmv 0 0 0 0) (As := [iV (r8)]) (rest := []) C hA hR0 mf_X9_layBack lk_X9_388 rfl (isK_lit hdm rfl rfl) (by decide) ⟨rfl, rfl⟩ ⟨Nat.le_of_ble_eq_true rfl, Nat.le_of_ble_eq_true rfl⟩ rfl rfl (Nat.le_of_ble_eq_true rfl) hce dX9_laidBut_28 hq (fun _ _ h => c_X9_layBack g.l g.G hdm  h) (fun r10 w9 _ hq => ?_)
    exact hR _ _ _ _ hq rfl dX9_laidBut_31
  · refine x_iconst C dX9_laidBut_12 ?_
    exact hR _ _ _ _ hq rfl dX9_laidBut_13
set_option maxRecDepth 100000 in
set_option maxHeartbeats 4000000 in
theorem c_X9_laidBut (l : Launch) (G : Gd) {dm na : Nat} {ad : Nat → Nat} (hdm : dm = 1) {x1 : Int} {w w' : Wd} {r : Int}  (hq : p_X9_laidBut x1 w = some (r, w')) : mI l yX9_laidBut cX9_laidBut 2 (some .int) (rmv 9 213 0 0) G dm na ad [.ref (ad (50)), iV (x1)] w r w' := by
  refine met_I [(0, .ref (ad (50))), (1, iV (x1))] (by decide) (Nat.le_of_ble_eq_true rfl) rfl .int rfl (fun g d C S hR => ?_)
  obtain ⟨rfl, hR0, rfl, rfl, rfl, hA⟩ := S
  exact L_X9_laidBut (d := (na, ad, 0, 0)) C hdm hA hR0 ⟨Nat.zero_le _, Nat.zero_le _⟩ hR  _ w hq
set_option maxRecDepth 100000 in
set_option maxHeartbeats 4000000 in
theorem L_X9_bestPlace_66 {g : Cx} {d : Dl} (C : CX g cX9_bestPlace 6 (some .int) RX9) (hdm : g.dm = 1) (hA : ∀ q : Nat, g.s.heap.size ≤ q → g.A q) (hR0 : g.R = rmv 9 213 0 0) (hce : d.ce ≤ g.R.cells ∧ d.so ≤ g.R.slots) {res : Int × Wd} (hR : rtI g d cX9_bestPlace .int res) {k21 : Int → Int → Int → Int → Wd → Option (Int × Wd)} (hk21 : ∀ (x1 : Int) (x2 : Int) (x3 : Int) (x4 : Int) (w : Wd), k21 x1 x2 x3 x4 w = some res → XG g d (hP g d w) [(0, .ref (d.ad (50))), (1, iV (x1)), (2, iV (x2)), (3, iV (x3)), (4, iV (x4))] [] 21) (x1 : Int) (x3 : Int) (x4 : Int) (x5 : Int) (s0 : Int) (w : Wd) (hq : p_X9_bestPlace_66 k21 x1 x3 x4 x5 s0 w = some res) : XG g d (hP g d w) [(0, .ref (d.ad (50))), (1, iV (x1)), (3, iV (x3)), (4, iV (x4)), (5, iV (x5))] [iV (s0)] 66 := by
  refine x_istore_n (lv' := [(2, iV (s0)), (0, .ref (d.ad (50))), (1, iV (x1)), (3, iV (x3)), (4, iV (x4)), (5, iV (x5))]) C dX9_bestPlace_66 (by decide) rfl ?_
  refine x_iload_n C 3 dX9_bestPlace_67 rfl ?_
  refine x_iload C 5 dX9_bestPlace_68 rfl ?_
  refine x_max C hR0 lk_X9_160 jm_max_s jm_i jm_max_c ⟨Nat.le_of_ble_eq_true rfl, Nat.le_of_ble_eq_true rfl⟩ hce dX9_bestPlace_70 ?_
  refine x_istore_n (lv' := [(3, iV (mx32 x3 x5)), (2, iV (s0)), (0, .ref (d.ad (50))), (1, iV (x1)), (4, iV (x4)), (5, iV (x5))]) C dX9_bestPlace_73 (by decide) rfl ?_
  refine x_iinc (lv' := [(4, iV (x4 + 1)), (3, iV (mx32 x3 x5)), (2, iV (s0)), (0, .ref (d.ad (50))), (1, iV (x1)), (5, iV (x5))]) C 4 dX9_bestPlace_74 rfl (by decide) rfl ?_
  refine x_goto (tgt := 21) C dX9_bestPlace_77 (by decide) ?_
  refine XG.sub [3, 4, 2, 1, 0] rfl ?_
  exact hk21 _ _ _ _ _ hq
set_option maxRecDepth 100000 in
set_option maxHeartbeats 4000000 in
theorem L_X9_bestPlace_21 {g : Cx} {d : Dl} (C : CX g cX9_bestPlace 6 (some .int) RX9) (hdm : g.dm = 1) (hA : ∀ q : Nat, g.s.heap.size ≤ q → g.A q) (hR0 : g.R = rmv 9 213 0 0) (hce : d.ce ≤ g.R.cells ∧ d.so ≤ g.R.slots) {res : Int × Wd} (hR : rtI g d cX9_bestPlace .int res) : ∀ (n : Nat) (x1 : Int) (x2 : Int) (x3 : Int) (x4 : Int) (w : Wd), p_X9_bestPlace_21 n x1 x2 x3 x4 w = some res → XG g d (hP g d w) [(0, .ref (d.ad (50))), (1, iV (x1)), (2, iV (x2)), (3, iV (x3)), (4, iV (x4))] [] 21 := by
  intro n
  induction n with
  | zero => intro x1 x2 x3 x4 w  hq; exact nomatch (show none = some _ from hq)
  | succ n ih =>
    intro x1 x2 x3 x4 w  hq
    refine x_iload C 4 dX9_bestPlace_21 rfl ?_
    refine x_aload_n C 0 dX9_bestPlace_23 rfl ?_
    refine x_getr (K := 10) (k := 1) (o2 := 51) C (isK_lit hdm rfl rfl) (by decide) cl_X9 (by decide) ⟨rfl, rfl, rfl⟩ fl_X9_17 rfl dX9_bestPlace_24 ?_
    refine x_bipush (v := 9) C dX9_bestPlace_27 (by decide +kernel) ?_
    refine inb_2 hq (fun hi hq => ?_)
    refine x_iald C (isK_lit hdm rfl rfl) hi dX9_bestPlace_29 ?_
    refine x_icmp_ge (tgt := 80) C dX9_bestPlace_30 (by decide) hq (fun hq => ?_) (fun hq => ?_)
    · refine x_iload_n C 2 dX9_bestPlace_80 rfl ?_
      exact hR _ _ _ _ hq rfl dX9_bestPlace_81
    · refine x_aload_n C 0 dX9_bestPlace_33 rfl ?_
      refine x_callVv (K := 10) (rm := rmv 0 0 0 0) (As := []) (rest := []) C hA hR0 mf_X9_keepAside lk_X9_385 rfl (isK_lit hdm rfl rfl) (by decide) ⟨rfl, rfl⟩ ⟨Nat.le_of_ble_eq_true rfl, Nat.le_of_ble_eq_true rfl⟩ rfl rfl (Nat.le_of_ble_eq_true rfl) hce dX9_bestPlace_34 hq (fun _ h => c_X9_keepAside g.l g.G hdm  h) (fun w1 _ hq => ?_)
      refine x_aload_n C 0 dX9_bestPlace_37 rfl ?_
      refine x_iload_n C 1 dX9_bestPlace_38 rfl ?_
      refine x_iload C 4 dX9_bestPlace_39 rfl ?_
      refine x_callVv (K := 10) (rm := rmv 3 66 0 0) (As := [iV (x1), iV (x4)]) (rest := []) C hA hR0 mf_X9_moveNow lk_X9_402 rfl (isK_lit hdm rfl rfl) (by decide) ⟨rfl, rfl⟩ ⟨Nat.le_of_ble_eq_true rfl, Nat.le_of_ble_eq_true rfl⟩ rfl rfl (Nat.le_of_ble_eq_true rfl) hce dX9_bestPlace_41 hq (fun _ h => c_X9_moveNow g.l g.G hdm  h) (fun w2 _ hq => ?_)
      refine x_aload_n C 0 dX9_bestPlace_44 rfl ?_
      refine x_aload_n C 0 dX9_bestPlace_45 rfl ?_
      refine x_callVi (K := 10) (rm := rmv 8 192 0 0) (As := []) (rest := [.ref (d.ad (50))]) C hA hR0 mf_X9_lay lk_X9_179 rfl (isK_lit hdm rfl rfl) (by decide) ⟨rfl, rfl⟩ ⟨Nat.le_of_ble_eq_true rfl, Nat.le_of_ble_eq_true rfl⟩ rfl rfl (Nat.le_of_ble_eq_true rfl) hce dX9_bestPlace_46 hq (fun _ _ h => c_X9_lay g.l g.G hdm  h) (fun r4 w3 _ hq => ?_)
      refine x_callVi (K := 10) (rm := rmv 0 0 0 0) (As := [iV (r4)]) (rest := []) C hA hR0 mf_X9_layBack lk_X9_388 rfl (isK_lit hdm rfl rfl) (by decide) ⟨rfl, rfl⟩ ⟨Nat.le_of_ble_eq_true rfl, Nat.le_of_ble_eq_true rfl⟩ rfl rfl (Nat.le_of_ble_eq_true rfl) hce dX9_bestPlace_49 hq (fun _ _ h => c_X9_layBack g.l g.G hdm  h) (fun r6 w5 _ hq => ?_)
      refine x_istore (lv' := [(5, iV (r6)), (0, .ref (d.ad (50))), (1, iV (x1)), (2, iV (x2)), (3, iV (x3)), (4, iV (x4))]) C dX9_bestPlace_52 (by decide) rfl ?_
      refine x_iload C 0 dX9_bestPlace_54 rfl ?_
      refine x_iload_n C 4 dX9_bestPlace_56 rfl ?_
      refine x_icmp_le (tgt := 65) C dX9_bestPlace_57 (by decide) hq (fun hq => ?_) (fun hq => ?_)
      · refine x_iload_n C 3 dX9_bestPlace_65 rfl ?_
        refine XG.sub [1, 2, 4, 5, 0] rfl ?_
        exact L_X9_bestPlace_66 C hdm hA hR0 hce hR ih _ _ _ _ _ _ hq
      · refine x_iload C 5 dX9_bestPlace_60 rfl ?_
        refine x_goto (tgt := 66) C dX9_bestPlace_62 (by decide) ?_
        refine XG.sub [1, 2, 4, 5, 0] rfl ?_
        exact L_X9_bestPlace_66 C hdm hA hR0 hce hR ih _ _ _ _ _ _ hq
set_option maxRecDepth 100000 in
set_option maxHeartbeats 4000000 in
theorem L_X9_bestPlace {g : Cx} {d : Dl} (C : CX g cX9_bestPlace 6 (some .int) RX9) (hdm : g.dm = 1) (hA : ∀ q : Nat, g.s.heap.size ≤ q → g.A q) (hR0 : g.R = rmv 9 213 0 0) (hce : d.ce ≤ g.R.cells ∧ d.so ≤ g.R.slots) {res : Int × Wd} (hR : rtI g d cX9_bestPlace .int res) (x1 : Int) (w : Wd) (hq : p_X9_bestPlace x1 w = some res) : XG g d (hP g d w) [(0, .ref (d.ad (50))), (1, iV (x1))] [] 0 := by
  refine x_aload_n C 0 dX9_bestPlace_0 rfl ?_
  refine x_aload_n C 0 dX9_bestPlace_1 rfl ?_
  refine x_iload_n C 1 dX9_bestPlace_2 rfl ?_
  refine x_callVi (K := 10) (rm := rmv 1 25 0 0) (As := [iV (x1)]) (rest := [.ref (d.ad (50))]) C hA hR0 mf_X9_isPart lk_X9_344 rfl (isK_lit hdm rfl rfl) (by decide) ⟨rfl, rfl⟩ ⟨Nat.le_of_ble_eq_true rfl, Nat.le_of_ble_eq_true rfl⟩ rfl rfl (Nat.le_of_ble_eq_true rfl) hce dX9_bestPlace_3 hq (fun _ _ h => c_X9_isPart g.l g.G hdm  h) (fun r2 w1 _ hq => ?_)
  refine x_callVi (K := 10) (rm := rmv 1 23 0 0) (As := [iV (r2)]) (rest := []) C hA hR0 mf_X9_passes lk_X9_191 rfl (isK_lit hdm rfl rfl) (by decide) ⟨rfl, rfl⟩ ⟨Nat.le_of_ble_eq_true rfl, Nat.le_of_ble_eq_true rfl⟩ rfl rfl (Nat.le_of_ble_eq_true rfl) hce dX9_bestPlace_6 hq (fun _ _ h => c_X9_passes g.l g.G hdm  h) (fun r4 w3 _ hq => ?_)
  refine x_if_ne (tgt := 14) C dX9_bestPlace_9 (by decide) hq (fun hq => ?_) (fun hq => ?_)
  · refine x_iconst C dX9_bestPlace_14 ?_
    refine x_istore_n (lv' := [(2, iV (-1)), (0, .ref (d.ad (50))), (1, iV (x1))]) C dX9_bestPlace_15 (by decide) rfl ?_
    refine x_iconst C dX9_bestPlace_16 ?_
    refine x_istore_n (lv' := [(3, iV (-1)), (2, iV (-1)), (0, .ref (d.ad (50))), (1, iV (x1))]) C dX9_bestPlace_17 (by decide) rfl ?_
    refine x_iconst C dX9_bestPlace_18 ?_
    refine x_istore (lv' := [(4, iV (0)), (3, iV (-1)), (2, iV (-1)), (0, .ref (d.ad (50))), (1, iV (x1))]) C dX9_bestPlace_19 (by decide) rfl ?_
    refine XG.sub [3, 4, 2, 1, 0] rfl ?_
    exact L_X9_bestPlace_21 C hdm hA hR0 hce hR _ _ _ _ _ _ hq
  · refine x_iconst C dX9_bestPlace_12 ?_
    exact hR _ _ _ _ hq rfl dX9_bestPlace_13
set_option maxRecDepth 100000 in
set_option maxHeartbeats 4000000 in
theorem c_X9_bestPlace (l : Launch) (G : Gd) {dm na : Nat} {ad : Nat → Nat} (hdm : dm = 1) {x1 : Int} {w w' : Wd} {r : Int}  (hq : p_X9_bestPlace x1 w = some (r, w')) : mI l yX9_bestPlace cX9_bestPlace 6 (some .int) (rmv 9 213 0 0) G dm na ad [.ref (ad (50)), iV (x1)] w r w' := by
  refine met_I [(0, .ref (ad (50))), (1, iV (x1))] (by decide) (Nat.le_of_ble_eq_true rfl) rfl .int rfl (fun g d C S hR => ?_)
  obtain ⟨rfl, hR0, rfl, rfl, rfl, hA⟩ := S
  exact L_X9_bestPlace (d := (na, ad, 0, 0)) C hdm hA hR0 ⟨Nat.zero_le _, Nat.zero_le _⟩ hR  _ w hq
set_option maxRecDepth 100000 in
set_option maxHeartbeats 4000000 in
theorem L_X9_hasLetter {g : Cx} {d : Dl} (C : CX g cX9_hasLetter 3 (some .boolean) RX9) (hdm : g.dm = 1) (hA : ∀ q : Nat, g.s.heap.size ≤ q → g.A q) (hR0 : g.R = rmv 2 48 0 0) (hce : d.ce ≤ g.R.cells ∧ d.so ≤ g.R.slots) {res : Int × Wd} (hR : rtI g d cX9_hasLetter .boolean res) (x1 : Int) (x2 : Int) (w : Wd) (hq : p_X9_hasLetter x1 x2 w = some res) : XG g d (hP g d w) [(0, .ref (d.ad (50))), (1, iV (x1)), (2, iV (x2))] [] 0 := by
  refine x_aload_n C 0 dX9_hasLetter_0 rfl ?_
  refine x_iload_n C 1 dX9_hasLetter_1 rfl ?_
  refine x_iload_n C 2 dX9_hasLetter_2 rfl ?_
  refine x_callVi (K := 10) (rm := rmv 1 25 0 0) (As := [iV (x1), iV (x2)]) (rest := []) C hA hR0 mf_X9_isCell lk_X9_82 rfl (isK_lit hdm rfl rfl) (by decide) ⟨rfl, rfl⟩ ⟨Nat.le_of_ble_eq_true rfl, Nat.le_of_ble_eq_true rfl⟩ rfl rfl (Nat.le_of_ble_eq_true rfl) hce dX9_hasLetter_3 hq (fun _ _ h => c_X9_isCell g.l g.G hdm  h) (fun r2 w1 _ hq => ?_)
  refine x_if_eq (tgt := 23) C dX9_hasLetter_6 (by decide) hq (fun hq => ?_) (fun hq => ?_)
  · refine x_iconst C dX9_hasLetter_23 ?_
    exact hR _ _ _ _ hq (by decide +kernel) dX9_hasLetter_24
  · refine x_aload_n C 0 dX9_hasLetter_9 rfl ?_
    refine x_iload_n C 1 dX9_hasLetter_10 rfl ?_
    refine x_iload_n C 2 dX9_hasLetter_11 rfl ?_
    refine x_callVi (K := 10) (rm := rmv 1 25 0 0) (As := [iV (x1), iV (x2)]) (rest := []) C hA hR0 mf_X9_wordIn lk_X9_365 rfl (isK_lit hdm rfl rfl) (by decide) ⟨rfl, rfl⟩ ⟨Nat.le_of_ble_eq_true rfl, Nat.le_of_ble_eq_true rfl⟩ rfl rfl (Nat.le_of_ble_eq_true rfl) hce dX9_hasLetter_12 hq (fun _ _ h => c_X9_wordIn g.l g.G hdm  h) (fun r4 w3 _ hq => ?_)
    refine x_iconst C dX9_hasLetter_15 ?_
    refine x_icmp_eq (tgt := 23) C dX9_hasLetter_16 (by decide) hq (fun hq => ?_) (fun hq => ?_)
    · refine x_iconst C dX9_hasLetter_23 ?_
      exact hR _ _ _ _ hq (by decide +kernel) dX9_hasLetter_24
    · refine x_iconst C dX9_hasLetter_19 ?_
      refine x_goto (tgt := 24) C dX9_hasLetter_20 (by decide) ?_
      exact hR _ _ _ _ hq (by decide +kernel) dX9_hasLetter_24
set_option maxRecDepth 100000 in
set_option maxHeartbeats 4000000 in
theorem c_X9_hasLetter (l : Launch) (G : Gd) {dm na : Nat} {ad : Nat → Nat} (hdm : dm = 1) {x1 : Int} {x2 : Int} {w w' : Wd} {r : Int}  (hq : p_X9_hasLetter x1 x2 w = some (r, w')) : mI l yX9_hasLetter cX9_hasLetter 3 (some .boolean) (rmv 2 48 0 0) G dm na ad [.ref (ad (50)), iV (x1), iV (x2)] w r w' := by
  refine met_I [(0, .ref (ad (50))), (1, iV (x1)), (2, iV (x2))] (by decide) (Nat.le_of_ble_eq_true rfl) rfl .boolean rfl (fun g d C S hR => ?_)
  obtain ⟨rfl, hR0, rfl, rfl, rfl, hA⟩ := S
  exact L_X9_hasLetter (d := (na, ad, 0, 0)) C hdm hA hR0 ⟨Nat.zero_le _, Nat.zero_le _⟩ hR  _ _ w hq
set_option maxRecDepth 100000 in
set_option maxHeartbeats 4000000 in
theorem L_X9_touches_44 {g : Cx} {d : Dl} (C : CX g cX9_touches 3 (some .boolean) RX9) (hdm : g.dm = 1) (hA : ∀ q : Nat, g.s.heap.size ≤ q → g.A q) (hR0 : g.R = rmv 3 70 0 0) (hce : d.ce ≤ g.R.cells ∧ d.so ≤ g.R.slots) {res : Int × Wd} (hR : rtI g d cX9_touches .boolean res)  (w : Wd) (hq : p_X9_touches_44 w = some res) : XG g d (hP g d w) [] [] 44 := by
  refine x_iconst C dX9_touches_44 ?_
  refine x_goto (tgt := 49) C dX9_touches_45 (by decide) ?_
  exact hR _ _ _ _ hq (by decide +kernel) dX9_touches_49
set_option maxRecDepth 100000 in
set_option maxHeartbeats 4000000 in
theorem L_X9_touches {g : Cx} {d : Dl} (C : CX g cX9_touches 3 (some .boolean) RX9) (hdm : g.dm = 1) (hA : ∀ q : Nat, g.s.heap.size ≤ q → g.A q) (hR0 : g.R = rmv 3 70 0 0) (hce : d.ce ≤ g.R.cells ∧ d.so ≤ g.R.slots) {res : Int × Wd} (hR : rtI g d cX9_touches .boolean res) (x1 : Int) (x2 : Int) (w : Wd) (hq : p_X9_touches x1 x2 w = some res) : XG g d (hP g d w) [(0, .ref (d.ad (50))), (1, iV (x1)), (2, iV (x2))] [] 0 := by
  refine x_aload_n C 0 dX9_touches_0 rfl ?_
  refine x_iload_n C 1 dX9_touches_1 rfl ?_
  refine x_iconst C dX9_touches_2 ?_
  refine x_isub C dX9_touches_3 ?_
  refine x_iload_n C 2 dX9_touches_4 rfl ?_
  refine x_callVi (K := 10) (rm := rmv 2 48 0 0) (As := [iV (x1 - 1), iV (x2)]) (rest := []) C hA hR0 mf_X9_hasLetter lk_X9_405 rfl (isK_lit hdm rfl rfl) (by decide) ⟨rfl, rfl⟩ ⟨Nat.le_of_ble_eq_true rfl, Nat.le_of_ble_eq_true rfl⟩ rfl rfl (Nat.le_of_ble_eq_true rfl) hce dX9_touches_5 hq (fun _ _ h => c_X9_hasLetter g.l g.G hdm  h) (fun r2 w1 _ hq => ?_)
  refine x_if_ne (tgt := 44) C dX9_touches_8 (by decide) hq (fun hq => ?_) (fun hq => ?_)
  · refine XG.sub [] rfl ?_
    exact L_X9_touches_44 C hdm hA hR0 hce hR _ hq
  · refine x_aload_n C 0 dX9_touches_11 rfl ?_
    refine x_iload_n C 1 dX9_touches_12 rfl ?_
    refine x_iconst C dX9_touches_13 ?_
    refine x_iadd C dX9_touches_14 ?_
    refine x_iload_n C 2 dX9_touches_15 rfl ?_
    refine x_callVi (K := 10) (rm := rmv 2 48 0 0) (As := [iV (x1 + 1), iV (x2)]) (rest := []) C hA hR0 mf_X9_hasLetter lk_X9_405 rfl (isK_lit hdm rfl rfl) (by decide) ⟨rfl, rfl⟩ ⟨Nat.le_of_ble_eq_true rfl, Nat.le_of_ble_eq_true rfl⟩ rfl rfl (Nat.le_of_ble_eq_true rfl) hce dX9_touches_16 hq (fun _ _ h => c_X9_hasLetter g.l g.G hdm  h) (fun r4 w3 _ hq => ?_)
    refine x_if_ne (tgt := 44) C dX9_touches_19 (by decide) hq (fun hq => ?_) (fun hq => ?_)
    · refine XG.sub [] rfl ?_
      exact L_X9_touches_44 C hdm hA hR0 hce hR _ hq
    · refine x_aload_n C 0 dX9_touches_22 rfl ?_
      refine x_iload_n C 1 dX9_touches_23 rfl ?_
      refine x_iload_n C 2 dX9_touches_24 rfl ?_
      refine x_iconst C dX9_touches_25 ?_
      refine x_isub C dX9_touches_26 ?_
      refine x_callVi (K := 10) (rm := rmv 2 48 0 0) (As := [iV (x1), iV (x2 - 1)]) (rest := []) C hA hR0 mf_X9_hasLetter lk_X9_405 rfl (isK_lit hdm rfl rfl) (by decide) ⟨rfl, rfl⟩ ⟨Nat.le_of_ble_eq_true rfl, Nat.le_of_ble_eq_true rfl⟩ rfl rfl (Nat.le_of_ble_eq_true rfl) hce dX9_touches_27 hq (fun _ _ h => c_X9_hasLetter g.l g.G hdm  h) (fun r6 w5 _ hq => ?_)
      refine x_if_ne (tgt := 44) C dX9_touches_30 (by decide) hq (fun hq => ?_) (fun hq => ?_)
      · refine XG.sub [] rfl ?_
        exact L_X9_touches_44 C hdm hA hR0 hce hR _ hq
      · refine x_aload_n C 0 dX9_touches_33 rfl ?_
        refine x_iload_n C 1 dX9_touches_34 rfl ?_
        refine x_iload_n C 2 dX9_touches_35 rfl ?_
        refine x_iconst C dX9_touches_36 ?_
        refine x_iadd C dX9_touches_37 ?_
        refine x_callVi (K := 10) (rm := rmv 2 48 0 0) (As := [iV (x1), iV (x2 + 1)]) (rest := []) C hA hR0 mf_X9_hasLetter lk_X9_405 rfl (isK_lit hdm rfl rfl) (by decide) ⟨rfl, rfl⟩ ⟨Nat.le_of_ble_eq_true rfl, Nat.le_of_ble_eq_true rfl⟩ rfl rfl (Nat.le_of_ble_eq_true rfl) hce dX9_touches_38 hq (fun _ _ h => c_X9_hasLetter g.l g.G hdm  h) (fun r8 w7 _ hq => ?_)
        refine x_if_eq (tgt := 48) C dX9_touches_41 (by decide) hq (fun hq => ?_) (fun hq => ?_)
        · refine x_iconst C dX9_touches_48 ?_
          exact hR _ _ _ _ hq (by decide +kernel) dX9_touches_49
        · refine XG.sub [] rfl ?_
          exact L_X9_touches_44 C hdm hA hR0 hce hR _ hq
set_option maxRecDepth 100000 in
set_option maxHeartbeats 4000000 in
theorem c_X9_touches (l : Launch) (G : Gd) {dm na : Nat} {ad : Nat → Nat} (hdm : dm = 1) {x1 : Int} {x2 : Int} {w w' : Wd} {r : Int}  (hq : p_X9_touches x1 x2 w = some (r, w')) : mI l yX9_touches cX9_touches 3 (some .boolean) (rmv 3 70 0 0) G dm na ad [.ref (ad (50)), iV (x1), iV (x2)] w r w' := by
  refine met_I [(0, .ref (ad (50))), (1, iV (x1)), (2, iV (x2))] (by decide) (Nat.le_of_ble_eq_true rfl) rfl .boolean rfl (fun g d C S hR => ?_)
  obtain ⟨rfl, hR0, rfl, rfl, rfl, hA⟩ := S
  exact L_X9_touches (d := (na, ad, 0, 0)) C hdm hA hR0 ⟨Nat.zero_le _, Nat.zero_le _⟩ hR  _ _ w hq
set_option maxRecDepth 100000 in
set_option maxHeartbeats 4000000 in
theorem L_X9_touching_60 {g : Cx} {d : Dl} (C : CX g cX9_touching 5 (some .int) RX9) (hdm : g.dm = 1) (hA : ∀ q : Nat, g.s.heap.size ≤ q → g.A q) (hR0 : g.R = rmv 9 213 0 0) (hce : d.ce ≤ g.R.cells ∧ d.so ≤ g.R.slots) {res : Int × Wd} (hR : rtI g d cX9_touching .int res) {k14 : Int → Int → Wd → Option (Int × Wd)} {k25 : Int → Int → Int → Wd → Option (Int × Wd)} (hk14 : ∀ (x2 : Int) (x3 : Int) (w : Wd), k14 x2 x3 w = some res → XG g d (hP g d w) [(0, .ref (d.ad (50))), (2, iV (x2)), (3, iV (x3))] [] 14) (hk25 : ∀ (x2 : Int) (x3 : Int) (x4 : Int) (w : Wd), k25 x2 x3 x4 w = some res → XG g d (hP g d w) [(0, .ref (d.ad (50))), (2, iV (x2)), (3, iV (x3)), (4, iV (x4))] [] 25) (x3 : Int) (x4 : Int) (s0 : Int) (s1 : Int) (w : Wd) (hq : p_X9_touching_60 k14 k25 x3 x4 s0 s1 w = some res) : XG g d (hP g d w) [(0, .ref (d.ad (50))), (3, iV (x3)), (4, iV (x4))] [iV (s0), iV (s1)] 60 := by
  refine x_iadd C dX9_touching_60 ?_
  refine x_istore_n (lv' := [(2, iV (s1 + s0)), (0, .ref (d.ad (50))), (3, iV (x3)), (4, iV (x4))]) C dX9_touching_61 (by decide) rfl ?_
  refine x_iinc (lv' := [(4, iV (x4 + 1)), (2, iV (s1 + s0)), (0, .ref (d.ad (50))), (3, iV (x3))]) C 3 dX9_touching_62 rfl (by decide) rfl ?_
  refine x_goto (tgt := 25) C dX9_touching_65 (by decide) ?_
  refine XG.sub [2, 1, 3, 0] rfl ?_
  exact hk25 _ _ _ _ hq
set_option maxRecDepth 100000 in
set_option maxHeartbeats 4000000 in
theorem L_X9_touching_59 {g : Cx} {d : Dl} (C : CX g cX9_touching 5 (some .int) RX9) (hdm : g.dm = 1) (hA : ∀ q : Nat, g.s.heap.size ≤ q → g.A q) (hR0 : g.R = rmv 9 213 0 0) (hce : d.ce ≤ g.R.cells ∧ d.so ≤ g.R.slots) {res : Int × Wd} (hR : rtI g d cX9_touching .int res) {k14 : Int → Int → Wd → Option (Int × Wd)} {k25 : Int → Int → Int → Wd → Option (Int × Wd)} (hk14 : ∀ (x2 : Int) (x3 : Int) (w : Wd), k14 x2 x3 w = some res → XG g d (hP g d w) [(0, .ref (d.ad (50))), (2, iV (x2)), (3, iV (x3))] [] 14) (hk25 : ∀ (x2 : Int) (x3 : Int) (x4 : Int) (w : Wd), k25 x2 x3 x4 w = some res → XG g d (hP g d w) [(0, .ref (d.ad (50))), (2, iV (x2)), (3, iV (x3)), (4, iV (x4))] [] 25) (x3 : Int) (x4 : Int) (s0 : Int) (w : Wd) (hq : p_X9_touching_59 k14 k25 x3 x4 s0 w = some res) : XG g d (hP g d w) [(0, .ref (d.ad (50))), (3, iV (x3)), (4, iV (x4))] [iV (s0)] 59 := by
  refine x_iconst C dX9_touching_59 ?_
  exact L_X9_touching_60 C hdm hA hR0 hce hR hk14 hk25 _ _ _ _ _ hq
set_option maxRecDepth 100000 in
set_option maxHeartbeats 4000000 in
theorem L_X9_touching_68 {g : Cx} {d : Dl} (C : CX g cX9_touching 5 (some .int) RX9) (hdm : g.dm = 1) (hA : ∀ q : Nat, g.s.heap.size ≤ q → g.A q) (hR0 : g.R = rmv 9 213 0 0) (hce : d.ce ≤ g.R.cells ∧ d.so ≤ g.R.slots) {res : Int × Wd} (hR : rtI g d cX9_touching .int res) {k14 : Int → Int → Wd → Option (Int × Wd)} (hk14 : ∀ (x2 : Int) (x3 : Int) (w : Wd), k14 x2 x3 w = some res → XG g d (hP g d w) [(0, .ref (d.ad (50))), (2, iV (x2)), (3, iV (x3))] [] 14) (x2 : Int) (x3 : Int) (w : Wd) (hq : p_X9_touching_68 k14 x2 x3 w = some res) : XG g d (hP g d w) [(0, .ref (d.ad (50))), (2, iV (x2)), (3, iV (x3))] [] 68 := by
  refine x_iinc (lv' := [(3, iV (x3 + 1)), (0, .ref (d.ad (50))), (2, iV (x2))]) C 2 dX9_touching_68 rfl (by decide) rfl ?_
  refine x_goto (tgt := 14) C dX9_touching_71 (by decide) ?_
  refine XG.sub [1, 2, 0] rfl ?_
  exact hk14 _ _ _ hq
set_option maxRecDepth 100000 in
set_option maxHeartbeats 4000000 in
theorem L_X9_touching_25 {g : Cx} {d : Dl} (C : CX g cX9_touching 5 (some .int) RX9) (hdm : g.dm = 1) (hA : ∀ q : Nat, g.s.heap.size ≤ q → g.A q) (hR0 : g.R = rmv 9 213 0 0) (hce : d.ce ≤ g.R.cells ∧ d.so ≤ g.R.slots) {res : Int × Wd} (hR : rtI g d cX9_touching .int res) {k14 : Int → Int → Wd → Option (Int × Wd)} (hk14 : ∀ (x2 : Int) (x3 : Int) (w : Wd), k14 x2 x3 w = some res → XG g d (hP g d w) [(0, .ref (d.ad (50))), (2, iV (x2)), (3, iV (x3))] [] 14) : ∀ (n : Nat) (x2 : Int) (x3 : Int) (x4 : Int) (w : Wd), p_X9_touching_25 k14 n x2 x3 x4 w = some res → XG g d (hP g d w) [(0, .ref (d.ad (50))), (2, iV (x2)), (3, iV (x3)), (4, iV (x4))] [] 25 := by
  intro n
  induction n with
  | zero => intro x2 x3 x4 w  hq; exact nomatch (show none = some _ from hq)
  | succ n ih =>
    intro x2 x3 x4 w  hq
    refine x_iload C 3 dX9_touching_25 rfl ?_
    refine x_aload_n C 0 dX9_touching_27 rfl ?_
    refine x_callVi (K := 10) (rm := rmv 0 0 0 0) (As := []) (rest := [iV (x4)]) C hA hR0 mf_X9_wide lk_X9_71 rfl (isK_lit hdm rfl rfl) (by decide) ⟨rfl, rfl⟩ ⟨Nat.le_of_ble_eq_true rfl, Nat.le_of_ble_eq_true rfl⟩ rfl rfl (Nat.le_of_ble_eq_true rfl) hce dX9_touching_28 hq (fun _ _ h => c_X9_wide g.l g.G hdm  h) (fun r2 w1 _ hq => ?_)
    refine x_icmp_ge (tgt := 68) C dX9_touching_31 (by decide) hq (fun hq => ?_) (fun hq => ?_)
    · refine XG.sub [0, 1, 2] rfl ?_
      exact L_X9_touching_68 C hdm hA hR0 hce hR hk14 _ _ _ hq
    · refine x_iload_n C 1 dX9_touching_34 rfl ?_
      refine x_aload_n C 0 dX9_touching_35 rfl ?_
      refine x_iload C 3 dX9_touching_36 rfl ?_
      refine x_iload_n C 2 dX9_touching_38 rfl ?_
      refine x_callVi (K := 10) (rm := rmv 2 47 0 0) (As := [iV (x4), iV (x3)]) (rest := [iV (x2)]) C hA hR0 mf_X9_hasFlaw lk_X9_93 rfl (isK_lit hdm rfl rfl) (by decide) ⟨rfl, rfl⟩ ⟨Nat.le_of_ble_eq_true rfl, Nat.le_of_ble_eq_true rfl⟩ rfl rfl (Nat.le_of_ble_eq_true rfl) hce dX9_touching_39 hq (fun _ _ h => c_X9_hasFlaw g.l g.G hdm  h) (fun r4 w3 _ hq => ?_)
      refine x_if_eq (tgt := 59) C dX9_touching_42 (by decide) hq (fun hq => ?_) (fun hq => ?_)
      · refine XG.sub [0, 2, 3] rfl ?_
        exact L_X9_touching_59 C hdm hA hR0 hce hR hk14 ih _ _ _ _ hq
      · refine x_aload_n C 0 dX9_touching_45 rfl ?_
        refine x_iload C 3 dX9_touching_46 rfl ?_
        refine x_iload_n C 2 dX9_touching_48 rfl ?_
        refine x_callVi (K := 10) (rm := rmv 3 70 0 0) (As := [iV (x4), iV (x3)]) (rest := [iV (x2)]) C hA hR0 mf_X9_touches lk_X9_408 rfl (isK_lit hdm rfl rfl) (by decide) ⟨rfl, rfl⟩ ⟨Nat.le_of_ble_eq_true rfl, Nat.le_of_ble_eq_true rfl⟩ rfl rfl (Nat.le_of_ble_eq_true rfl) hce dX9_touching_49 hq (fun _ _ h => c_X9_touches g.l g.G hdm  h) (fun r6 w5 _ hq => ?_)
        refine x_if_eq (tgt := 59) C dX9_touching_52 (by decide) hq (fun hq => ?_) (fun hq => ?_)
        · refine XG.sub [0, 2, 3] rfl ?_
          exact L_X9_touching_59 C hdm hA hR0 hce hR hk14 ih _ _ _ _ hq
        · refine x_iconst C dX9_touching_55 ?_
          refine x_goto (tgt := 60) C dX9_touching_56 (by decide) ?_
          refine XG.sub [0, 2, 3] rfl ?_
          exact L_X9_touching_60 C hdm hA hR0 hce hR hk14 ih _ _ _ _ _ hq
set_option maxRecDepth 100000 in
set_option maxHeartbeats 4000000 in
theorem L_X9_touching_14 {g : Cx} {d : Dl} (C : CX g cX9_touching 5 (some .int) RX9) (hdm : g.dm = 1) (hA : ∀ q : Nat, g.s.heap.size ≤ q → g.A q) (hR0 : g.R = rmv 9 213 0 0) (hce : d.ce ≤ g.R.cells ∧ d.so ≤ g.R.slots) {res : Int × Wd} (hR : rtI g d cX9_touching .int res) : ∀ (n : Nat) (x2 : Int) (x3 : Int) (w : Wd), p_X9_touching_14 n x2 x3 w = some res → XG g d (hP g d w) [(0, .ref (d.ad (50))), (2, iV (x2)), (3, iV (x3))] [] 14 := by
  intro n
  induction n with
  | zero => intro x2 x3 w  hq; exact nomatch (show none = some _ from hq)
  | succ n ih =>
    intro x2 x3 w  hq
    refine x_iload_n C 2 dX9_touching_14 rfl ?_
    refine x_aload_n C 0 dX9_touching_15 rfl ?_
    refine x_callVi (K := 10) (rm := rmv 0 0 0 0) (As := []) (rest := [iV (x3)]) C hA hR0 mf_X9_high lk_X9_79 rfl (isK_lit hdm rfl rfl) (by decide) ⟨rfl, rfl⟩ ⟨Nat.le_of_ble_eq_true rfl, Nat.le_of_ble_eq_true rfl⟩ rfl rfl (Nat.le_of_ble_eq_true rfl) hce dX9_touching_16 hq (fun _ _ h => c_X9_high g.l g.G hdm  h) (fun r2 w1 _ hq => ?_)
    refine x_icmp_ge (tgt := 74) C dX9_touching_19 (by decide) hq (fun hq => ?_) (fun hq => ?_)
    · refine x_iload_n C 1 dX9_touching_74 rfl ?_
      exact hR _ _ _ _ hq rfl dX9_touching_75
    · refine x_iconst C dX9_touching_22 ?_
      refine x_istore (lv' := [(4, iV (0)), (0, .ref (d.ad (50))), (2, iV (x2)), (3, iV (x3))]) C dX9_touching_23 (by decide) rfl ?_
      refine XG.sub [1, 2, 3, 0] rfl ?_
      exact L_X9_touching_25 C hdm hA hR0 hce hR ih _ _ _ _ _ hq
set_option maxRecDepth 100000 in
set_option maxHeartbeats 4000000 in
theorem L_X9_touching {g : Cx} {d : Dl} (C : CX g cX9_touching 5 (some .int) RX9) (hdm : g.dm = 1) (hA : ∀ q : Nat, g.s.heap.size ≤ q → g.A q) (hR0 : g.R = rmv 9 213 0 0) (hce : d.ce ≤ g.R.cells ∧ d.so ≤ g.R.slots) {res : Int × Wd} (hR : rtI g d cX9_touching .int res)  (w : Wd) (hq : p_X9_touching  w = some res) : XG g d (hP g d w) [(0, .ref (d.ad (50)))] [] 0 := by
  refine x_aload_n C 0 dX9_touching_0 rfl ?_
  refine x_iconst C dX9_touching_1 ?_
  refine x_put (K := 10) (k := 0) C (isK_lit hdm rfl rfl) (by decide) cl_X9 (by decide) ⟨rfl, rfl, rfl, rfl⟩ fl_X9_3 ⟨rfl, rfl⟩ dX9_touching_2 ?_
  refine x_aload_n C 0 dX9_touching_5 rfl ?_
  refine x_callVi (K := 10) (rm := rmv 8 192 0 0) (As := []) (rest := []) C hA hR0 mf_X9_lay lk_X9_179 rfl (isK_lit hdm rfl rfl) (by decide) ⟨rfl, rfl⟩ ⟨Nat.le_of_ble_eq_true rfl, Nat.le_of_ble_eq_true rfl⟩ rfl rfl (Nat.le_of_ble_eq_true rfl) hce dX9_touching_6 hq (fun _ _ h => c_X9_lay g.l g.G hdm  h) (fun r2 w1 _ hq => ?_)
  refine x_istore_n (lv' := [(1, iV (r2)), (0, .ref (d.ad (50)))]) C dX9_touching_9 (by decide) rfl ?_
  refine x_iconst C dX9_touching_10 ?_
  refine x_istore_n (lv' := [(2, iV (0)), (1, iV (r2)), (0, .ref (d.ad (50)))]) C dX9_touching_11 (by decide) rfl ?_
  refine x_iconst C dX9_touching_12 ?_
  refine x_istore_n (lv' := [(3, iV (0)), (2, iV (0)), (1, iV (r2)), (0, .ref (d.ad (50)))]) C dX9_touching_13 (by decide) rfl ?_
  refine XG.sub [3, 1, 0] rfl ?_
  exact L_X9_touching_14 C hdm hA hR0 hce hR _ _ _ _ hq
set_option maxRecDepth 100000 in
set_option maxHeartbeats 4000000 in
theorem c_X9_touching (l : Launch) (G : Gd) {dm na : Nat} {ad : Nat → Nat} (hdm : dm = 1)  {w w' : Wd} {r : Int}  (hq : p_X9_touching  w = some (r, w')) : mI l yX9_touching cX9_touching 5 (some .int) (rmv 9 213 0 0) G dm na ad [.ref (ad (50))] w r w' := by
  refine met_I [(0, .ref (ad (50)))] (by decide) (Nat.le_of_ble_eq_true rfl) rfl .int rfl (fun g d C S hR => ?_)
  obtain ⟨rfl, hR0, rfl, rfl, rfl, hA⟩ := S
  exact L_X9_touching (d := (na, ad, 0, 0)) C hdm hA hR0 ⟨Nat.zero_le _, Nat.zero_le _⟩ hR   w hq
set_option maxRecDepth 100000 in
set_option maxHeartbeats 4000000 in
theorem L_X9_dear_59 {g : Cx} {d : Dl} (C : CX g cX9_dear 5 (some .int) RX9) (hdm : g.dm = 1) (hA : ∀ q : Nat, g.s.heap.size ≤ q → g.A q) (hR0 : g.R = rmv 9 213 0 0) (hce : d.ce ≤ g.R.cells ∧ d.so ≤ g.R.slots) {res : Int × Wd} (hR : rtI g d cX9_dear .int res) {k14 : Int → Int → Int → Wd → Option (Int × Wd)} (hk14 : ∀ (x1 : Int) (x2 : Int) (x3 : Int) (w : Wd), k14 x1 x2 x3 w = some res → XG g d (hP g d w) [(0, .ref (d.ad (50))), (1, iV (x1)), (2, iV (x2)), (3, iV (x3))] [] 14) (x1 : Int) (x2 : Int) (x3 : Int) (w : Wd) (hq : p_X9_dear_59 k14 x1 x2 x3 w = some res) : XG g d (hP g d w) [(0, .ref (d.ad (50))), (1, iV (x1)), (2, iV (x2)), (3, iV (x3))] [] 59 := by
  refine x_iinc (lv' := [(3, iV (x3 + 1)), (0, .ref (d.ad (50))), (1, iV (x1)), (2, iV (x2))]) C 3 dX9_dear_59 rfl (by decide) rfl ?_
  refine x_goto (tgt := 14) C dX9_dear_62 (by decide) ?_
  refine XG.sub [1, 2, 3, 0] rfl ?_
  exact hk14 _ _ _ _ hq
set_option maxRecDepth 100000 in
set_option maxHeartbeats 4000000 in
theorem L_X9_dear_22 {g : Cx} {d : Dl} (C : CX g cX9_dear 5 (some .int) RX9) (hdm : g.dm = 1) (hA : ∀ q : Nat, g.s.heap.size ≤ q → g.A q) (hR0 : g.R = rmv 9 213 0 0) (hce : d.ce ≤ g.R.cells ∧ d.so ≤ g.R.slots) {res : Int × Wd} (hR : rtI g d cX9_dear .int res) {k14 : Int → Int → Int → Wd → Option (Int × Wd)} (hk14 : ∀ (x1 : Int) (x2 : Int) (x3 : Int) (w : Wd), k14 x1 x2 x3 w = some res → XG g d (hP g d w) [(0, .ref (d.ad (50))), (1, iV (x1)), (2, iV (x2)), (3, iV (x3))] [] 14) : ∀ (n : Nat) (x1 : Int) (x2 : Int) (x3 : Int) (x4 : Int) (w : Wd), p_X9_dear_22 k14 n x1 x2 x3 x4 w = some res → XG g d (hP g d w) [(0, .ref (d.ad (50))), (1, iV (x1)), (2, iV (x2)), (3, iV (x3)), (4, iV (x4))] [] 22 := by
  intro n
  induction n with
  | zero => intro x1 x2 x3 x4 w  hq; exact nomatch (show none = some _ from hq)
  | succ n ih =>
    intro x1 x2 x3 x4 w  hq
    refine x_iload C 4 dX9_dear_22 rfl ?_
    refine x_aload_n C 0 dX9_dear_24 rfl ?_
    refine x_iload_n C 3 dX9_dear_25 rfl ?_
    refine x_callVi (K := 10) (rm := rmv 0 0 0 0) (As := [iV (x3)]) (rest := [iV (x4)]) C hA hR0 mf_X9_bytesOf lk_X9_106 rfl (isK_lit hdm rfl rfl) (by decide) ⟨rfl, rfl⟩ ⟨Nat.le_of_ble_eq_true rfl, Nat.le_of_ble_eq_true rfl⟩ rfl rfl (Nat.le_of_ble_eq_true rfl) hce dX9_dear_26 hq (fun _ _ h => c_X9_bytesOf g.l g.G hdm  h) (fun r2 w1 _ hq => ?_)
    refine x_icmp_ge (tgt := 59) C dX9_dear_29 (by decide) hq (fun hq => ?_) (fun hq => ?_)
    · refine XG.sub [0, 1, 2, 3] rfl ?_
      exact L_X9_dear_59 C hdm hA hR0 hce hR hk14 _ _ _ _ hq
    · refine x_iload_n C 2 dX9_dear_32 rfl ?_
      refine x_aload_n C 0 dX9_dear_33 rfl ?_
      refine x_iload_n C 3 dX9_dear_34 rfl ?_
      refine x_iload C 4 dX9_dear_35 rfl ?_
      refine x_callVi (K := 10) (rm := rmv 4 91 0 0) (As := [iV (x3), iV (x4)]) (rest := [iV (x2)]) C hA hR0 mf_X9_strokesOf lk_X9_142 rfl (isK_lit hdm rfl rfl) (by decide) ⟨rfl, rfl⟩ ⟨Nat.le_of_ble_eq_true rfl, Nat.le_of_ble_eq_true rfl⟩ rfl rfl (Nat.le_of_ble_eq_true rfl) hce dX9_dear_37 hq (fun _ _ h => c_X9_strokesOf g.l g.G hdm  h) (fun r4 w3 _ hq => ?_)
      refine x_aload_n C 0 dX9_dear_40 rfl ?_
      refine x_iload_n C 3 dX9_dear_41 rfl ?_
      refine x_iload C 4 dX9_dear_42 rfl ?_
      refine x_callVi (K := 10) (rm := rmv 0 0 0 0) (As := [iV (x3), iV (x4)]) (rest := [iV (r4), iV (x2)]) C hA hR0 mf_X9_byteOf lk_X9_132 rfl (isK_lit hdm rfl rfl) (by decide) ⟨rfl, rfl⟩ ⟨Nat.le_of_ble_eq_true rfl, Nat.le_of_ble_eq_true rfl⟩ rfl rfl (Nat.le_of_ble_eq_true rfl) hce dX9_dear_44 hq (fun _ _ h => c_X9_byteOf g.l g.G hdm  h) (fun r6 w5 _ hq => ?_)
      refine x_callSi (rm := rmv 0 0 0 0) (As := [iV (r6)]) (rest := [iV (r4), iV (x2)]) C hA hR0 mf_X9_plainStrokes lk_X9_136 ⟨rfl, rfl⟩ ⟨Nat.le_of_ble_eq_true rfl, Nat.le_of_ble_eq_true rfl⟩ rfl rfl (Nat.le_of_ble_eq_true rfl) hce dX9_dear_47 hq (fun _ _ h => c_X9_plainStrokes g.l g.G hdm  h) (fun r8 w7 _ hq => ?_)
      refine x_isub C dX9_dear_50 ?_
      refine x_iadd C dX9_dear_51 ?_
      refine x_istore_n (lv' := [(2, iV (x2 + (r4 - r8))), (0, .ref (d.ad (50))), (1, iV (x1)), (3, iV (x3)), (4, iV (x4))]) C dX9_dear_52 (by decide) rfl ?_
      refine x_iinc (lv' := [(4, iV (x4 + 1)), (2, iV (x2 + (r4 - r8))), (0, .ref (d.ad (50))), (1, iV (x1)), (3, iV (x3))]) C 4 dX9_dear_53 rfl (by decide) rfl ?_
      refine x_goto (tgt := 22) C dX9_dear_56 (by decide) ?_
      refine XG.sub [2, 3, 1, 4, 0] rfl ?_
      exact ih _ _ _ _ _ hq
set_option maxRecDepth 100000 in
set_option maxHeartbeats 4000000 in
theorem L_X9_dear_14 {g : Cx} {d : Dl} (C : CX g cX9_dear 5 (some .int) RX9) (hdm : g.dm = 1) (hA : ∀ q : Nat, g.s.heap.size ≤ q → g.A q) (hR0 : g.R = rmv 9 213 0 0) (hce : d.ce ≤ g.R.cells ∧ d.so ≤ g.R.slots) {res : Int × Wd} (hR : rtI g d cX9_dear .int res) : ∀ (n : Nat) (x1 : Int) (x2 : Int) (x3 : Int) (w : Wd), p_X9_dear_14 n x1 x2 x3 w = some res → XG g d (hP g d w) [(0, .ref (d.ad (50))), (1, iV (x1)), (2, iV (x2)), (3, iV (x3))] [] 14 := by
  intro n
  induction n with
  | zero => intro x1 x2 x3 w  hq; exact nomatch (show none = some _ from hq)
  | succ n ih =>
    intro x1 x2 x3 w  hq
    refine x_iload_n C 3 dX9_dear_14 rfl ?_
    refine x_iload_n C 1 dX9_dear_15 rfl ?_
    refine x_icmp_ge (tgt := 65) C dX9_dear_16 (by decide) hq (fun hq => ?_) (fun hq => ?_)
    · refine x_iload_n C 2 dX9_dear_65 rfl ?_
      exact hR _ _ _ _ hq rfl dX9_dear_66
    · refine x_iconst C dX9_dear_19 ?_
      refine x_istore (lv' := [(4, iV (0)), (0, .ref (d.ad (50))), (1, iV (x1)), (2, iV (x2)), (3, iV (x3))]) C dX9_dear_20 (by decide) rfl ?_
      refine XG.sub [1, 2, 3, 4, 0] rfl ?_
      exact L_X9_dear_22 C hdm hA hR0 hce hR ih _ _ _ _ _ _ hq
set_option maxRecDepth 100000 in
set_option maxHeartbeats 4000000 in
theorem L_X9_dear {g : Cx} {d : Dl} (C : CX g cX9_dear 5 (some .int) RX9) (hdm : g.dm = 1) (hA : ∀ q : Nat, g.s.heap.size ≤ q → g.A q) (hR0 : g.R = rmv 9 213 0 0) (hce : d.ce ≤ g.R.cells ∧ d.so ≤ g.R.slots) {res : Int × Wd} (hR : rtI g d cX9_dear .int res)  (w : Wd) (hq : p_X9_dear  w = some res) : XG g d (hP g d w) [(0, .ref (d.ad (50)))] [] 0 := by
  refine x_aload_n C 0 dX9_dear_0 rfl ?_
  refine x_iconst C dX9_dear_1 ?_
  refine x_put (K := 10) (k := 0) C (isK_lit hdm rfl rfl) (by decide) cl_X9 (by decide) ⟨rfl, rfl, rfl, rfl⟩ fl_X9_3 ⟨rfl, rfl⟩ dX9_dear_2 ?_
  refine x_aload_n C 0 dX9_dear_5 rfl ?_
  refine x_callVi (K := 10) (rm := rmv 8 192 0 0) (As := []) (rest := []) C hA hR0 mf_X9_lay lk_X9_179 rfl (isK_lit hdm rfl rfl) (by decide) ⟨rfl, rfl⟩ ⟨Nat.le_of_ble_eq_true rfl, Nat.le_of_ble_eq_true rfl⟩ rfl rfl (Nat.le_of_ble_eq_true rfl) hce dX9_dear_6 hq (fun _ _ h => c_X9_lay g.l g.G hdm  h) (fun r2 w1 _ hq => ?_)
  refine x_istore_n (lv' := [(1, iV (r2)), (0, .ref (d.ad (50)))]) C dX9_dear_9 (by decide) rfl ?_
  refine x_iconst C dX9_dear_10 ?_
  refine x_istore_n (lv' := [(2, iV (0)), (1, iV (r2)), (0, .ref (d.ad (50)))]) C dX9_dear_11 (by decide) rfl ?_
  refine x_iconst C dX9_dear_12 ?_
  refine x_istore_n (lv' := [(3, iV (0)), (2, iV (0)), (1, iV (r2)), (0, .ref (d.ad (50)))]) C dX9_dear_13 (by decide) rfl ?_
  refine XG.sub [3, 2, 1, 0] rfl ?_
  exact L_X9_dear_14 C hdm hA hR0 hce hR _ _ _ _ _ hq
set_option maxRecDepth 100000 in
set_option maxHeartbeats 4000000 in
theorem c_X9_dear (l : Launch) (G : Gd) {dm na : Nat} {ad : Nat → Nat} (hdm : dm = 1)  {w w' : Wd} {r : Int}  (hq : p_X9_dear  w = some (r, w')) : mI l yX9_dear cX9_dear 5 (some .int) (rmv 9 213 0 0) G dm na ad [.ref (ad (50))] w r w' := by
  refine met_I [(0, .ref (ad (50)))] (by decide) (Nat.le_of_ble_eq_true rfl) rfl .int rfl (fun g d C S hR => ?_)
  obtain ⟨rfl, hR0, rfl, rfl, rfl, hA⟩ := S
  exact L_X9_dear (d := (na, ad, 0, 0)) C hdm hA hR0 ⟨Nat.zero_le _, Nat.zero_le _⟩ hR   w hq
set_option maxRecDepth 100000 in
set_option maxHeartbeats 4000000 in
theorem L_X9_carvedShare {g : Cx} {d : Dl} (C : CX g cX9_carvedShare 2 (some .float) RX9) (hdm : g.dm = 1) (hA : ∀ q : Nat, g.s.heap.size ≤ q → g.A q) (hR0 : g.R = rmv 9 213 0 0) (hce : d.ce ≤ g.R.cells ∧ d.so ≤ g.R.slots) {res : UInt32 × Wd} (hR : rtF g d cX9_carvedShare res)  (w : Wd) (hq : p_X9_carvedShare  w = some res) : XG g d (hP g d w) [(0, .ref (d.ad (50)))] [] 0 := by
  refine x_aload_n C 0 dX9_carvedShare_0 rfl ?_
  refine x_iconst C dX9_carvedShare_1 ?_
  refine x_put (K := 10) (k := 0) C (isK_lit hdm rfl rfl) (by decide) cl_X9 (by decide) ⟨rfl, rfl, rfl, rfl⟩ fl_X9_3 ⟨rfl, rfl⟩ dX9_carvedShare_2 ?_
  refine x_aload_n C 0 dX9_carvedShare_5 rfl ?_
  refine x_callVi (K := 10) (rm := rmv 8 192 0 0) (As := []) (rest := []) C hA hR0 mf_X9_lay lk_X9_179 rfl (isK_lit hdm rfl rfl) (by decide) ⟨rfl, rfl⟩ ⟨Nat.le_of_ble_eq_true rfl, Nat.le_of_ble_eq_true rfl⟩ rfl rfl (Nat.le_of_ble_eq_true rfl) hce dX9_carvedShare_6 hq (fun _ _ h => c_X9_lay g.l g.G hdm  h) (fun r2 w1 _ hq => ?_)
  refine x_istore_n (lv' := [(1, iV (r2)), (0, .ref (d.ad (50)))]) C dX9_carvedShare_9 (by decide) rfl ?_
  refine x_aload_n C 1 dX9_carvedShare_10 rfl ?_
  refine x_callVi (K := 10) (rm := rmv 2 44 0 0) (As := []) (rest := []) C hA hR0 mf_X9_letters lk_X9_341 rfl (isK_lit hdm rfl rfl) (by decide) ⟨rfl, rfl⟩ ⟨Nat.le_of_ble_eq_true rfl, Nat.le_of_ble_eq_true rfl⟩ rfl rfl (Nat.le_of_ble_eq_true rfl) hce dX9_carvedShare_11 hq (fun _ _ h => c_X9_letters g.l g.G hdm  h) (fun r4 w3 _ hq => ?_)
  refine x_if_ne (tgt := 21) C dX9_carvedShare_14 (by decide) hq (fun hq => ?_) (fun hq => ?_)
  · refine x_aload_n C 1 dX9_carvedShare_21 rfl ?_
    refine x_getr (K := 10) (k := 1) (o2 := 51) C (isK_lit hdm rfl rfl) (by decide) cl_X9 (by decide) ⟨rfl, rfl, rfl⟩ fl_X9_17 rfl dX9_carvedShare_22 ?_
    refine x_bipush (v := 8) C dX9_carvedShare_25 (by decide +kernel) ?_
    refine inb_2 hq (fun hi hq => ?_)
    refine x_iald C (isK_lit hdm rfl rfl) hi dX9_carvedShare_27 ?_
    refine x_i2f C dX9_carvedShare_28 ?_
    refine x_aload_n C 1 dX9_carvedShare_29 rfl ?_
    refine x_callVi (K := 10) (rm := rmv 2 44 0 0) (As := []) (rest := [.float (fi2 (gA w3 51 8))]) C hA hR0 mf_X9_letters lk_X9_341 rfl (isK_lit hdm rfl rfl) (by decide) ⟨rfl, rfl⟩ ⟨Nat.le_of_ble_eq_true rfl, Nat.le_of_ble_eq_true rfl⟩ rfl rfl (Nat.le_of_ble_eq_true rfl) hce dX9_carvedShare_30 hq (fun _ _ h => c_X9_letters g.l g.G hdm  h) (fun r6 w5 _ hq => ?_)
    refine x_i2f C dX9_carvedShare_33 ?_
    refine x_fdiv C dX9_carvedShare_34 hq (fun v8 hq => ?_)
    exact hR _ _ _ _ hq dX9_carvedShare_35
  · refine x_fconst1 C dX9_carvedShare_17 ?_
    refine x_goto (tgt := 35) C dX9_carvedShare_18 (by decide) ?_
    exact hR _ _ _ _ hq dX9_carvedShare_35
set_option maxRecDepth 100000 in
set_option maxHeartbeats 4000000 in
theorem c_X9_carvedShare (l : Launch) (G : Gd) {dm na : Nat} {ad : Nat → Nat} (hdm : dm = 1)  {w w' : Wd} {r : UInt32}  (hq : p_X9_carvedShare  w = some (r, w')) : mF l yX9_carvedShare cX9_carvedShare 2 (some .float) (rmv 9 213 0 0) G dm na ad [.ref (ad (50))] w r w' := by
  refine met_F [(0, .ref (ad (50)))] (by decide) (Nat.le_of_ble_eq_true rfl) rfl rfl (fun g d C S hR => ?_)
  obtain ⟨rfl, hR0, rfl, rfl, rfl, hA⟩ := S
  exact L_X9_carvedShare (d := (na, ad, 0, 0)) C hdm hA hR0 ⟨Nat.zero_le _, Nat.zero_le _⟩ hR   w hq
set_option maxRecDepth 100000 in
set_option maxHeartbeats 4000000 in
theorem L_X9_meanStrokes {g : Cx} {d : Dl} (C : CX g cX9_meanStrokes 2 (some .double) RX9) (hdm : g.dm = 1) (hA : ∀ q : Nat, g.s.heap.size ≤ q → g.A q) (hR0 : g.R = rmv 9 213 0 0) (hce : d.ce ≤ g.R.cells ∧ d.so ≤ g.R.slots) {res : UInt64 × Wd} (hR : rtD g d cX9_meanStrokes res)  (w : Wd) (hq : p_X9_meanStrokes  w = some res) : XG g d (hP g d w) [(0, .ref (d.ad (50)))] [] 0 := by
  refine x_aload_n C 0 dX9_meanStrokes_0 rfl ?_
  refine x_iconst C dX9_meanStrokes_1 ?_
  refine x_put (K := 10) (k := 0) C (isK_lit hdm rfl rfl) (by decide) cl_X9 (by decide) ⟨rfl, rfl, rfl, rfl⟩ fl_X9_3 ⟨rfl, rfl⟩ dX9_meanStrokes_2 ?_
  refine x_aload_n C 0 dX9_meanStrokes_5 rfl ?_
  refine x_callVi (K := 10) (rm := rmv 8 192 0 0) (As := []) (rest := []) C hA hR0 mf_X9_lay lk_X9_179 rfl (isK_lit hdm rfl rfl) (by decide) ⟨rfl, rfl⟩ ⟨Nat.le_of_ble_eq_true rfl, Nat.le_of_ble_eq_true rfl⟩ rfl rfl (Nat.le_of_ble_eq_true rfl) hce dX9_meanStrokes_6 hq (fun _ _ h => c_X9_lay g.l g.G hdm  h) (fun r2 w1 _ hq => ?_)
  refine x_istore_n (lv' := [(1, iV (r2)), (0, .ref (d.ad (50)))]) C dX9_meanStrokes_9 (by decide) rfl ?_
  refine x_aload_n C 1 dX9_meanStrokes_10 rfl ?_
  refine x_callVi (K := 10) (rm := rmv 2 44 0 0) (As := []) (rest := []) C hA hR0 mf_X9_letters lk_X9_341 rfl (isK_lit hdm rfl rfl) (by decide) ⟨rfl, rfl⟩ ⟨Nat.le_of_ble_eq_true rfl, Nat.le_of_ble_eq_true rfl⟩ rfl rfl (Nat.le_of_ble_eq_true rfl) hce dX9_meanStrokes_11 hq (fun _ _ h => c_X9_letters g.l g.G hdm  h) (fun r4 w3 _ hq => ?_)
  refine x_if_ne (tgt := 21) C dX9_meanStrokes_14 (by decide) hq (fun hq => ?_) (fun hq => ?_)
  · refine x_aload_n C 1 dX9_meanStrokes_21 rfl ?_
    refine x_iconst C dX9_meanStrokes_22 ?_
    refine x_callVi (K := 10) (rm := rmv 6 136 0 0) (As := [iV (0)]) (rest := []) C hA hR0 mf_X9_strokesFrom lk_X9_371 rfl (isK_lit hdm rfl rfl) (by decide) ⟨rfl, rfl⟩ ⟨Nat.le_of_ble_eq_true rfl, Nat.le_of_ble_eq_true rfl⟩ rfl rfl (Nat.le_of_ble_eq_true rfl) hce dX9_meanStrokes_23 hq (fun _ _ h => c_X9_strokesFrom g.l g.G hdm  h) (fun r6 w5 _ hq => ?_)
    refine x_i2d C dX9_meanStrokes_26 ?_
    refine x_aload_n C 1 dX9_meanStrokes_27 rfl ?_
    refine x_callVi (K := 10) (rm := rmv 2 44 0 0) (As := []) (rest := [.double (di2 r6)]) C hA hR0 mf_X9_letters lk_X9_341 rfl (isK_lit hdm rfl rfl) (by decide) ⟨rfl, rfl⟩ ⟨Nat.le_of_ble_eq_true rfl, Nat.le_of_ble_eq_true rfl⟩ rfl rfl (Nat.le_of_ble_eq_true rfl) hce dX9_meanStrokes_28 hq (fun _ _ h => c_X9_letters g.l g.G hdm  h) (fun r8 w7 _ hq => ?_)
    refine x_i2d C dX9_meanStrokes_31 ?_
    refine x_ddiv C dX9_meanStrokes_32 hq (fun v10 hq => ?_)
    exact hR _ _ _ _ hq dX9_meanStrokes_33
  · refine x_dconst0 C dX9_meanStrokes_17 ?_
    refine x_goto (tgt := 33) C dX9_meanStrokes_18 (by decide) ?_
    exact hR _ _ _ _ hq dX9_meanStrokes_33
set_option maxRecDepth 100000 in
set_option maxHeartbeats 4000000 in
theorem c_X9_meanStrokes (l : Launch) (G : Gd) {dm na : Nat} {ad : Nat → Nat} (hdm : dm = 1)  {w w' : Wd} {r : UInt64}  (hq : p_X9_meanStrokes  w = some (r, w')) : mD l yX9_meanStrokes cX9_meanStrokes 2 (some .double) (rmv 9 213 0 0) G dm na ad [.ref (ad (50))] w r w' := by
  refine met_D [(0, .ref (ad (50)))] (by decide) (Nat.le_of_ble_eq_true rfl) rfl rfl (fun g d C S hR => ?_)
  obtain ⟨rfl, hR0, rfl, rfl, rfl, hA⟩ := S
  exact L_X9_meanStrokes (d := (na, ad, 0, 0)) C hdm hA hR0 ⟨Nat.zero_le _, Nat.zero_le _⟩ hR   w hq
set_option maxRecDepth 100000 in
set_option maxHeartbeats 4000000 in
theorem L_X9_density {g : Cx} {d : Dl} (C : CX g cX9_density 3 (some .double) RX9) (hdm : g.dm = 1) (hA : ∀ q : Nat, g.s.heap.size ≤ q → g.A q) (hR0 : g.R = rmv 9 213 0 0) (hce : d.ce ≤ g.R.cells ∧ d.so ≤ g.R.slots) {res : UInt64 × Wd} (hR : rtD g d cX9_density res)  (w : Wd) (hq : p_X9_density  w = some res) : XG g d (hP g d w) [(0, .ref (d.ad (50)))] [] 0 := by
  refine x_aload_n C 0 dX9_density_0 rfl ?_
  refine x_iconst C dX9_density_1 ?_
  refine x_put (K := 10) (k := 0) C (isK_lit hdm rfl rfl) (by decide) cl_X9 (by decide) ⟨rfl, rfl, rfl, rfl⟩ fl_X9_3 ⟨rfl, rfl⟩ dX9_density_2 ?_
  refine x_aload_n C 0 dX9_density_5 rfl ?_
  refine x_callVi (K := 10) (rm := rmv 8 192 0 0) (As := []) (rest := []) C hA hR0 mf_X9_lay lk_X9_179 rfl (isK_lit hdm rfl rfl) (by decide) ⟨rfl, rfl⟩ ⟨Nat.le_of_ble_eq_true rfl, Nat.le_of_ble_eq_true rfl⟩ rfl rfl (Nat.le_of_ble_eq_true rfl) hce dX9_density_6 hq (fun _ _ h => c_X9_lay g.l g.G hdm  h) (fun r2 w1 _ hq => ?_)
  refine x_istore_n (lv' := [(1, iV (r2)), (0, .ref (d.ad (50)))]) C dX9_density_9 (by decide) rfl ?_
  refine x_aload_n C 1 dX9_density_10 rfl ?_
  refine x_callVi (K := 10) (rm := rmv 0 0 0 0) (As := []) (rest := []) C hA hR0 mf_X9_wide lk_X9_71 rfl (isK_lit hdm rfl rfl) (by decide) ⟨rfl, rfl⟩ ⟨Nat.le_of_ble_eq_true rfl, Nat.le_of_ble_eq_true rfl⟩ rfl rfl (Nat.le_of_ble_eq_true rfl) hce dX9_density_11 hq (fun _ _ h => c_X9_wide g.l g.G hdm  h) (fun r4 w3 _ hq => ?_)
  refine x_aload_n C 1 dX9_density_14 rfl ?_
  refine x_callVi (K := 10) (rm := rmv 0 0 0 0) (As := []) (rest := [iV (r4)]) C hA hR0 mf_X9_high lk_X9_79 rfl (isK_lit hdm rfl rfl) (by decide) ⟨rfl, rfl⟩ ⟨Nat.le_of_ble_eq_true rfl, Nat.le_of_ble_eq_true rfl⟩ rfl rfl (Nat.le_of_ble_eq_true rfl) hce dX9_density_15 hq (fun _ _ h => c_X9_high g.l g.G hdm  h) (fun r6 w5 _ hq => ?_)
  refine x_imul C dX9_density_18 ?_
  refine x_aload_n C 1 dX9_density_19 rfl ?_
  refine x_callVi (K := 10) (rm := rmv 0 0 0 0) (As := []) (rest := [iV (r4 * r6)]) C hA hR0 mf_X9_flaws lk_X9_271 rfl (isK_lit hdm rfl rfl) (by decide) ⟨rfl, rfl⟩ ⟨Nat.le_of_ble_eq_true rfl, Nat.le_of_ble_eq_true rfl⟩ rfl rfl (Nat.le_of_ble_eq_true rfl) hce dX9_density_20 hq (fun _ _ h => c_X9_flaws g.l g.G hdm  h) (fun r8 w7 _ hq => ?_)
  refine x_isub C dX9_density_23 ?_
  refine x_istore_n (lv' := [(2, iV ((r4 * r6) - r8)), (1, iV (r2)), (0, .ref (d.ad (50)))]) C dX9_density_24 (by decide) rfl ?_
  refine x_iload_n C 0 dX9_density_25 rfl ?_
  refine x_if_ne (tgt := 33) C dX9_density_26 (by decide) hq (fun hq => ?_) (fun hq => ?_)
  · refine x_aload_n C 2 dX9_density_33 rfl ?_
    refine x_callVi (K := 10) (rm := rmv 2 44 0 0) (As := []) (rest := []) C hA hR0 mf_X9_letters lk_X9_341 rfl (isK_lit hdm rfl rfl) (by decide) ⟨rfl, rfl⟩ ⟨Nat.le_of_ble_eq_true rfl, Nat.le_of_ble_eq_true rfl⟩ rfl rfl (Nat.le_of_ble_eq_true rfl) hce dX9_density_34 hq (fun _ _ h => c_X9_letters g.l g.G hdm  h) (fun r10 w9 _ hq => ?_)
    refine x_i2d C dX9_density_37 ?_
    refine x_iload_n C 0 dX9_density_38 rfl ?_
    refine x_i2d C dX9_density_39 ?_
    refine x_ddiv C dX9_density_40 hq (fun v12 hq => ?_)
    exact hR _ _ _ _ hq dX9_density_41
  · refine x_dconst0 C dX9_density_29 ?_
    refine x_goto (tgt := 41) C dX9_density_30 (by decide) ?_
    exact hR _ _ _ _ hq dX9_density_41
set_option maxRecDepth 100000 in
set_option maxHeartbeats 4000000 in
theorem c_X9_density (l : Launch) (G : Gd) {dm na : Nat} {ad : Nat → Nat} (hdm : dm = 1)  {w w' : Wd} {r : UInt64}  (hq : p_X9_density  w = some (r, w')) : mD l yX9_density cX9_density 3 (some .double) (rmv 9 213 0 0) G dm na ad [.ref (ad (50))] w r w' := by
  refine met_D [(0, .ref (ad (50)))] (by decide) (Nat.le_of_ble_eq_true rfl) rfl rfl (fun g d C S hR => ?_)
  obtain ⟨rfl, hR0, rfl, rfl, rfl, hA⟩ := S
  exact L_X9_density (d := (na, ad, 0, 0)) C hdm hA hR0 ⟨Nat.zero_le _, Nat.zero_le _⟩ hR   w hq
set_option maxRecDepth 100000 in
set_option maxHeartbeats 4000000 in
theorem L_X9_stays {g : Cx} {d : Dl} (C : CX g cX9_stays 2 (some .boolean) RX9) (hdm : g.dm = 1) (hA : ∀ q : Nat, g.s.heap.size ≤ q → g.A q) (hR0 : g.R = rmv 10 235 0 0) (hce : d.ce ≤ g.R.cells ∧ d.so ≤ g.R.slots) {res : Int × Wd} (hR : rtI g d cX9_stays .boolean res)  (w : Wd) (hq : p_X9_stays  w = some res) : XG g d (hP g d w) [(0, .ref (d.ad (50)))] [] 0 := by
  refine x_aload_n C 0 dX9_stays_0 rfl ?_
  refine x_callVi (K := 10) (rm := rmv 9 213 0 0) (As := []) (rest := []) C hA hR0 mf_X9_allStay lk_X9_411 rfl (isK_lit hdm rfl rfl) (by decide) ⟨rfl, rfl⟩ ⟨Nat.le_of_ble_eq_true rfl, Nat.le_of_ble_eq_true rfl⟩ rfl rfl (Nat.le_of_ble_eq_true rfl) hce dX9_stays_1 hq (fun _ _ h => c_X9_allStay g.l g.G hdm  h) (fun r2 w1 _ hq => ?_)
  refine x_if_eq (tgt := 17) C dX9_stays_4 (by decide) hq (fun hq => ?_) (fun hq => ?_)
  · refine x_aload_n C 0 dX9_stays_17 rfl ?_
    refine x_iconst C dX9_stays_18 ?_
    refine x_callVi (K := 10) (rm := rmv 0 0 0 0) (As := [iV (0)]) (rest := []) C hA hR0 mf_X9_layBack lk_X9_388 rfl (isK_lit hdm rfl rfl) (by decide) ⟨rfl, rfl⟩ ⟨Nat.le_of_ble_eq_true rfl, Nat.le_of_ble_eq_true rfl⟩ rfl rfl (Nat.le_of_ble_eq_true rfl) hce dX9_stays_19 hq (fun _ _ h => c_X9_layBack g.l g.G hdm  h) (fun r4 w3 _ hq => ?_)
    refine x_istore_n (lv' := [(1, iV (r4)), (0, .ref (d.ad (50)))]) C dX9_stays_22 (by decide) rfl ?_
    refine x_iconst C dX9_stays_23 ?_
    exact hR _ _ _ _ hq (by decide +kernel) dX9_stays_24
  · refine x_aload_n C 0 dX9_stays_7 rfl ?_
    refine x_aload_n C 0 dX9_stays_8 rfl ?_
    refine x_getr (K := 10) (k := 11) (o2 := 55) C (isK_lit hdm rfl rfl) (by decide) cl_X9 (by decide) ⟨rfl, rfl, rfl⟩ fl_X9_33 rfl dX9_stays_9 ?_
    refine x_callVv (K := 10) (rm := rmv 0 0 0 0) (As := [.ref (d.ad (55))]) (rest := []) C hA hR0 mf_X9_rememberOf lk_X9_414 rfl (isK_lit hdm rfl rfl) (by decide) ⟨rfl, rfl⟩ ⟨Nat.le_of_ble_eq_true rfl, Nat.le_of_ble_eq_true rfl⟩ rfl rfl (Nat.le_of_ble_eq_true rfl) hce dX9_stays_12 hq (fun _ h => c_X9_rememberOf g.l g.G hdm (isK_lit hdm rfl rfl) h) (fun w5 _ hq => ?_)
    refine x_iconst C dX9_stays_15 ?_
    exact hR _ _ _ _ hq (by decide +kernel) dX9_stays_16
set_option maxRecDepth 100000 in
set_option maxHeartbeats 4000000 in
theorem c_X9_stays (l : Launch) (G : Gd) {dm na : Nat} {ad : Nat → Nat} (hdm : dm = 1)  {w w' : Wd} {r : Int}  (hq : p_X9_stays  w = some (r, w')) : mI l yX9_stays cX9_stays 2 (some .boolean) (rmv 10 235 0 0) G dm na ad [.ref (ad (50))] w r w' := by
  refine met_I [(0, .ref (ad (50)))] (by decide) (Nat.le_of_ble_eq_true rfl) rfl .boolean rfl (fun g d C S hR => ?_)
  obtain ⟨rfl, hR0, rfl, rfl, rfl, hA⟩ := S
  exact L_X9_stays (d := (na, ad, 0, 0)) C hdm hA hR0 ⟨Nat.zero_le _, Nat.zero_le _⟩ hR   w hq
set_option maxRecDepth 100000 in
set_option maxHeartbeats 4000000 in
theorem L_X9_beginChange {g : Cx} {d : Dl} (C : CX g cX9_beginChange 1 none RX9) (hdm : g.dm = 1) (hA : ∀ q : Nat, g.s.heap.size ≤ q → g.A q) (hR0 : g.R = rmv 10 236 0 0) (hce : d.ce ≤ g.R.cells ∧ d.so ≤ g.R.slots) {res : Wd} (hR : rtV g d cX9_beginChange res)  (w : Wd) (hq : p_X9_beginChange  w = some res) : XG g d (hP g d w) [(0, .ref (d.ad (50)))] [] 0 := by
  refine x_aload_n C 0 dX9_beginChange_0 rfl ?_
  refine x_callVv (K := 10) (rm := rmv 9 213 0 0) (As := []) (rest := []) C hA hR0 mf_X9_keepCarved lk_X9_418 rfl (isK_lit hdm rfl rfl) (by decide) ⟨rfl, rfl⟩ ⟨Nat.le_of_ble_eq_true rfl, Nat.le_of_ble_eq_true rfl⟩ rfl rfl (Nat.le_of_ble_eq_true rfl) hce dX9_beginChange_1 hq (fun _ h => c_X9_keepCarved g.l g.G hdm  h) (fun w1 _ hq => ?_)
  refine x_aload_n C 0 dX9_beginChange_4 rfl ?_
  refine x_callVv (K := 10) (rm := rmv 0 0 0 0) (As := []) (rest := []) C hA hR0 mf_X9_keepAside lk_X9_385 rfl (isK_lit hdm rfl rfl) (by decide) ⟨rfl, rfl⟩ ⟨Nat.le_of_ble_eq_true rfl, Nat.le_of_ble_eq_true rfl⟩ rfl rfl (Nat.le_of_ble_eq_true rfl) hce dX9_beginChange_5 hq (fun _ h => c_X9_keepAside g.l g.G hdm  h) (fun w2 _ hq => ?_)
  exact hR _ _ _ hq dX9_beginChange_8
set_option maxRecDepth 100000 in
set_option maxHeartbeats 4000000 in
theorem c_X9_beginChange (l : Launch) (G : Gd) {dm na : Nat} {ad : Nat → Nat} (hdm : dm = 1)  {w w' : Wd}   (hq : p_X9_beginChange  w = some w') : mV l yX9_beginChange cX9_beginChange 1 none (rmv 10 236 0 0) G dm na ad [.ref (ad (50))] w w' := by
  refine met_V [(0, .ref (ad (50)))] (by decide) (Nat.le_of_ble_eq_true rfl) rfl rfl (fun g d C S hR => ?_)
  obtain ⟨rfl, hR0, rfl, rfl, rfl, hA⟩ := S
  exact L_X9_beginChange (d := (na, ad, 0, 0)) C hdm hA hR0 ⟨Nat.zero_le _, Nat.zero_le _⟩ hR   w hq
set_option maxRecDepth 100000 in
set_option maxHeartbeats 4000000 in
theorem L_X9_addPart_173 {g : Cx} {d : Dl} (C : CX g cX9_addPart 8 (some .int) RX9) (hdm : g.dm = 1) (hA : ∀ q : Nat, g.s.heap.size ≤ q → g.A q) (hR0 : g.R = rmv 3 66 0 0) (hce : d.ce ≤ g.R.cells ∧ d.so ≤ g.R.slots) {res : Int × Wd} (hR : rtI g d cX9_addPart .int res) {k89 : Int → Int → Int → Int → Int → Int → Wd → Option (Int × Wd)} (hk89 : ∀ (x1 : Int) (x2 : Int) (x3 : Int) (x4 : Int) (x5 : Int) (x6 : Int) (w : Wd), k89 x1 x2 x3 x4 x5 x6 w = some res → XG g d (hP g d w) [(0, .ref (d.ad (50))), (1, iV (x1)), (2, iV (x2)), (3, iV (x3)), (4, iV (x4)), (5, iV (x5)), (6, iV (x6))] [] 89) (x1 : Int) (x2 : Int) (x3 : Int) (x4 : Int) (x5 : Int) (x6 : Int) (w : Wd) (hq : p_X9_addPart_173 k89 x1 x2 x3 x4 x5 x6 w = some res) : XG g d (hP g d w) [(0, .ref (d.ad (50))), (1, iV (x1)), (2, iV (x2)), (3, iV (x3)), (4, iV (x4)), (5, iV (x5)), (6, iV (x6))] [] 173 := by
  refine x_iinc (lv' := [(6, iV (x6 + 1)), (0, .ref (d.ad (50))), (1, iV (x1)), (2, iV (x2)), (3, iV (x3)), (4, iV (x4)), (5, iV (x5))]) C 6 dX9_addPart_173 rfl (by decide) rfl ?_
  refine x_aload_n C 1 dX9_addPart_176 rfl ?_
  refine x_callVv (K := 10) (rm := rmv 2 46 0 0) (As := []) (rest := []) C hA hR0 mf_X9_goOn lk_X9_252 rfl (isK_lit hdm rfl rfl) (by decide) ⟨rfl, rfl⟩ ⟨Nat.le_of_ble_eq_true rfl, Nat.le_of_ble_eq_true rfl⟩ rfl rfl (Nat.le_of_ble_eq_true rfl) hce dX9_addPart_177 hq (fun _ h => c_X9_goOn g.l g.G hdm  h) (fun w1 _ hq => ?_)
  refine x_goto (tgt := 89) C dX9_addPart_180 (by decide) ?_
  refine XG.sub [1, 2, 3, 4, 5, 6, 0] rfl ?_
  exact hk89 _ _ _ _ _ _ _ hq
set_option maxRecDepth 100000 in
set_option maxHeartbeats 4000000 in
theorem L_X9_addPart_146 {g : Cx} {d : Dl} (C : CX g cX9_addPart 8 (some .int) RX9) (hdm : g.dm = 1) (hA : ∀ q : Nat, g.s.heap.size ≤ q → g.A q) (hR0 : g.R = rmv 3 66 0 0) (hce : d.ce ≤ g.R.cells ∧ d.so ≤ g.R.slots) {res : Int × Wd} (hR : rtI g d cX9_addPart .int res) {k89 : Int → Int → Int → Int → Int → Int → Wd → Option (Int × Wd)} (hk89 : ∀ (x1 : Int) (x2 : Int) (x3 : Int) (x4 : Int) (x5 : Int) (x6 : Int) (w : Wd), k89 x1 x2 x3 x4 x5 x6 w = some res → XG g d (hP g d w) [(0, .ref (d.ad (50))), (1, iV (x1)), (2, iV (x2)), (3, iV (x3)), (4, iV (x4)), (5, iV (x5)), (6, iV (x6))] [] 89) (x1 : Int) (x2 : Int) (x3 : Int) (x4 : Int) (x5 : Int) (x6 : Int) (s0 : Int) (w : Wd) (hq : p_X9_addPart_146 k89 x1 x2 x3 x4 x5 x6 s0 w = some res) : XG g d (hP g d w) [(0, .ref (d.ad (50))), (1, iV (x1)), (2, iV (x2)), (3, iV (x3)), (4, iV (x4)), (5, iV (x5)), (6, iV (x6))] [iV (s0), .ref (d.ad (50))] 146 := by
  refine x_iconst C dX9_addPart_146 ?_
  refine x_callVv (K := 10) (rm := rmv 2 41 0 0) (As := [iV (s0), iV (1)]) (rest := []) C hA hR0 mf_X9_errsIf lk_X9_274 rfl (isK_lit hdm rfl rfl) (by decide) ⟨rfl, rfl⟩ ⟨Nat.le_of_ble_eq_true rfl, Nat.le_of_ble_eq_true rfl⟩ rfl rfl (Nat.le_of_ble_eq_true rfl) hce dX9_addPart_147 hq (fun _ h => c_X9_errsIf g.l g.G hdm  h) (fun w1 _ hq => ?_)
  refine x_aload_n C 0 dX9_addPart_150 rfl ?_
  refine x_callVi (K := 10) (rm := rmv 0 0 0 0) (As := []) (rest := []) C hA hR0 mf_X9_good lk_X9_201 rfl (isK_lit hdm rfl rfl) (by decide) ⟨rfl, rfl⟩ ⟨Nat.le_of_ble_eq_true rfl, Nat.le_of_ble_eq_true rfl⟩ rfl rfl (Nat.le_of_ble_eq_true rfl) hce dX9_addPart_151 hq (fun _ _ h => c_X9_good g.l g.G hdm  h) (fun r3 w2 _ hq => ?_)
  refine x_if_eq (tgt := 173) C dX9_addPart_154 (by decide) hq (fun hq => ?_) (fun hq => ?_)
  · exact L_X9_addPart_173 C hdm hA hR0 hce hR hk89 _ _ _ _ _ _ _ hq
  · refine x_aload_n C 0 dX9_addPart_157 rfl ?_
    refine x_getrow C hdm cl_X9 rfl ⟨rfl, rfl, rfl⟩ fl_X9_24 dX9_addPart_158 (fun q4 => ?_)
    refine x_bipush (v := 10) C dX9_addPart_161 (by decide +kernel) ?_
    refine inb_2 hq (fun hi hq => ?_)
    refine x_iald C (okR_K hdm q4) (by rw [okR_ln q4]; exact hi) dX9_addPart_163 ?_
    refine x_bipush (v := 60) C dX9_addPart_164 (by decide +kernel) ?_
    refine x_icmp_ge (tgt := 173) C dX9_addPart_166 (by decide) hq (fun hq => ?_) (fun hq => ?_)
    · exact L_X9_addPart_173 C hdm hA hR0 hce hR hk89 _ _ _ _ _ _ _ hq
    · refine x_aload_n C 0 dX9_addPart_169 rfl ?_
      refine x_callVv (K := 10) (rm := rmv 0 0 0 0) (As := []) (rest := []) C hA hR0 mf_X9_addWord lk_X9_291 rfl (isK_lit hdm rfl rfl) (by decide) ⟨rfl, rfl⟩ ⟨Nat.le_of_ble_eq_true rfl, Nat.le_of_ble_eq_true rfl⟩ rfl rfl (Nat.le_of_ble_eq_true rfl) hce dX9_addPart_170 hq (fun _ h => c_X9_addWord g.l g.G hdm  h) (fun w5 _ hq => ?_)
      exact L_X9_addPart_173 C hdm hA hR0 hce hR hk89 _ _ _ _ _ _ _ hq
set_option maxRecDepth 100000 in
set_option maxHeartbeats 4000000 in
theorem L_X9_addPart_141 {g : Cx} {d : Dl} (C : CX g cX9_addPart 8 (some .int) RX9) (hdm : g.dm = 1) (hA : ∀ q : Nat, g.s.heap.size ≤ q → g.A q) (hR0 : g.R = rmv 3 66 0 0) (hce : d.ce ≤ g.R.cells ∧ d.so ≤ g.R.slots) {res : Int × Wd} (hR : rtI g d cX9_addPart .int res) {k89 : Int → Int → Int → Int → Int → Int → Wd → Option (Int × Wd)} (hk89 : ∀ (x1 : Int) (x2 : Int) (x3 : Int) (x4 : Int) (x5 : Int) (x6 : Int) (w : Wd), k89 x1 x2 x3 x4 x5 x6 w = some res → XG g d (hP g d w) [(0, .ref (d.ad (50))), (1, iV (x1)), (2, iV (x2)), (3, iV (x3)), (4, iV (x4)), (5, iV (x5)), (6, iV (x6))] [] 89) (x1 : Int) (x2 : Int) (x3 : Int) (x4 : Int) (x5 : Int) (x6 : Int) (w : Wd) (hq : p_X9_addPart_141 k89 x1 x2 x3 x4 x5 x6 w = some res) : XG g d (hP g d w) [(0, .ref (d.ad (50))), (1, iV (x1)), (2, iV (x2)), (3, iV (x3)), (4, iV (x4)), (5, iV (x5)), (6, iV (x6))] [.ref (d.ad (50))] 141 := by
  refine x_iconst C dX9_addPart_141 ?_
  refine x_goto (tgt := 146) C dX9_addPart_142 (by decide) ?_
  exact L_X9_addPart_146 C hdm hA hR0 hce hR hk89 _ _ _ _ _ _ _ _ hq
set_option maxRecDepth 100000 in
set_option maxHeartbeats 4000000 in
theorem L_X9_addPart_255 {g : Cx} {d : Dl} (C : CX g cX9_addPart 8 (some .int) RX9) (hdm : g.dm = 1) (hA : ∀ q : Nat, g.s.heap.size ≤ q → g.A q) (hR0 : g.R = rmv 3 66 0 0) (hce : d.ce ≤ g.R.cells ∧ d.so ≤ g.R.slots) {res : Int × Wd} (hR : rtI g d cX9_addPart .int res) (x1 : Int) (x5 : Int) (s0 : Int) (s1 : Int) (w : Wd) (hq : p_X9_addPart_255 x1 x5 s0 s1 w = some res) : XG g d (hP g d w) [(0, .ref (d.ad (50))), (1, iV (x1)), (5, iV (x5))] [iV (s0), iV (s1), .ref (d.ad (50))] 255 := by
  refine x_callVi (K := 10) (rm := rmv 1 23 0 0) (As := [iV (s1), iV (s0)]) (rest := []) C hA hR0 mf_X9_passes2 lk_X9_349 rfl (isK_lit hdm rfl rfl) (by decide) ⟨rfl, rfl⟩ ⟨Nat.le_of_ble_eq_true rfl, Nat.le_of_ble_eq_true rfl⟩ rfl rfl (Nat.le_of_ble_eq_true rfl) hce dX9_addPart_255 hq (fun _ _ h => c_X9_passes2 g.l g.G hdm  h) (fun r2 w1 _ hq => ?_)
  refine x_if_ne (tgt := 263) C dX9_addPart_258 (by decide) hq (fun hq => ?_) (fun hq => ?_)
  · refine x_aload_n C 0 dX9_addPart_263 rfl ?_
    refine x_callVv (K := 10) (rm := rmv 1 22 0 0) (As := []) (rest := []) C hA hR0 mf_X9_remember lk_X9_333 rfl (isK_lit hdm rfl rfl) (by decide) ⟨rfl, rfl⟩ ⟨Nat.le_of_ble_eq_true rfl, Nat.le_of_ble_eq_true rfl⟩ rfl rfl (Nat.le_of_ble_eq_true rfl) hce dX9_addPart_264 hq (fun _ h => c_X9_remember g.l g.G hdm  h) (fun w3 _ hq => ?_)
    refine x_aload_n C 0 dX9_addPart_267 rfl ?_
    refine x_aload_n C 0 dX9_addPart_268 rfl ?_
    refine x_getr (K := 10) (k := 2) (o2 := 52) C (isK_lit hdm rfl rfl) (by decide) cl_X9 (by decide) ⟨rfl, rfl, rfl⟩ fl_X9_21 rfl dX9_addPart_269 ?_
    refine x_putrow C hdm (Or.inr rfl) cl_X9 rfl ⟨rfl, rfl, rfl, rfl⟩ fl_X9_24 rfl dX9_addPart_272 ?_
    refine x_aload_n C 0 dX9_addPart_275 rfl ?_
    refine x_iload_n C 1 dX9_addPart_276 rfl ?_
    refine x_iload C 2 dX9_addPart_277 rfl ?_
    refine x_callVv (K := 10) (rm := rmv 0 0 0 0) (As := [iV (x1), iV (x5)]) (rest := []) C hA hR0 mf_X9_addPartOf lk_X9_297 rfl (isK_lit hdm rfl rfl) (by decide) ⟨rfl, rfl⟩ ⟨Nat.le_of_ble_eq_true rfl, Nat.le_of_ble_eq_true rfl⟩ rfl rfl (Nat.le_of_ble_eq_true rfl) hce dX9_addPart_279 hq (fun _ h => c_X9_addPartOf g.l g.G hdm  h) (fun w4 _ hq => ?_)
    refine x_aload_n C 0 dX9_addPart_282 rfl ?_
    refine x_aload_n C 0 dX9_addPart_283 rfl ?_
    refine x_getr (K := 10) (k := 1) (o2 := 51) C (isK_lit hdm rfl rfl) (by decide) cl_X9 (by decide) ⟨rfl, rfl, rfl⟩ fl_X9_17 rfl dX9_addPart_284 ?_
    refine x_putrow C hdm (Or.inl rfl) cl_X9 rfl ⟨rfl, rfl, rfl, rfl⟩ fl_X9_24 rfl dX9_addPart_287 ?_
    refine x_aload_n C 0 dX9_addPart_290 rfl ?_
    refine x_callVv (K := 10) (rm := rmv 0 0 0 0) (As := []) (rest := []) C hA hR0 mf_X9_takeDraft lk_X9_336 rfl (isK_lit hdm rfl rfl) (by decide) ⟨rfl, rfl⟩ ⟨Nat.le_of_ble_eq_true rfl, Nat.le_of_ble_eq_true rfl⟩ rfl rfl (Nat.le_of_ble_eq_true rfl) hce dX9_addPart_291 hq (fun _ h => c_X9_takeDraft g.l g.G hdm  h) (fun w5 _ hq => ?_)
    refine x_aload_n C 0 dX9_addPart_294 rfl ?_
    refine x_getr (K := 10) (k := 1) (o2 := 51) C (isK_lit hdm rfl rfl) (by decide) cl_X9 (by decide) ⟨rfl, rfl, rfl⟩ fl_X9_17 rfl dX9_addPart_295 ?_
    refine x_bipush (v := 9) C dX9_addPart_298 (by decide +kernel) ?_
    refine inb_2 hq (fun hi hq => ?_)
    refine x_iald C (isK_lit hdm rfl rfl) hi dX9_addPart_300 ?_
    refine x_iconst C dX9_addPart_301 ?_
    refine x_isub C dX9_addPart_302 ?_
    exact hR _ _ _ _ hq rfl dX9_addPart_303
  · refine x_iconst C dX9_addPart_261 ?_
    exact hR _ _ _ _ hq rfl dX9_addPart_262
set_option maxRecDepth 100000 in
set_option maxHeartbeats 4000000 in
theorem L_X9_addPart_254 {g : Cx} {d : Dl} (C : CX g cX9_addPart 8 (some .int) RX9) (hdm : g.dm = 1) (hA : ∀ q : Nat, g.s.heap.size ≤ q → g.A q) (hR0 : g.R = rmv 3 66 0 0) (hce : d.ce ≤ g.R.cells ∧ d.so ≤ g.R.slots) {res : Int × Wd} (hR : rtI g d cX9_addPart .int res) (x1 : Int) (x5 : Int) (s0 : Int) (w : Wd) (hq : p_X9_addPart_254 x1 x5 s0 w = some res) : XG g d (hP g d w) [(0, .ref (d.ad (50))), (1, iV (x1)), (5, iV (x5))] [iV (s0), .ref (d.ad (50))] 254 := by
  refine x_iconst C dX9_addPart_254 ?_
  exact L_X9_addPart_255 C hdm hA hR0 hce hR _ _ _ _ _ hq
set_option maxRecDepth 100000 in
set_option maxHeartbeats 4000000 in
theorem L_X9_addPart_223 {g : Cx} {d : Dl} (C : CX g cX9_addPart 8 (some .int) RX9) (hdm : g.dm = 1) (hA : ∀ q : Nat, g.s.heap.size ≤ q → g.A q) (hR0 : g.R = rmv 3 66 0 0) (hce : d.ce ≤ g.R.cells ∧ d.so ≤ g.R.slots) {res : Int × Wd} (hR : rtI g d cX9_addPart .int res) (x1 : Int) (x5 : Int) (x6 : Int) (s0 : Int) (w : Wd) (hq : p_X9_addPart_223 x1 x5 x6 s0 w = some res) : XG g d (hP g d w) [(0, .ref (d.ad (50))), (1, iV (x1)), (5, iV (x5)), (6, iV (x6))] [iV (s0), .ref (d.ad (50))] 223 := by
  refine x_aload_n C 0 dX9_addPart_223 rfl ?_
  refine x_getr (K := 10) (k := 1) (o2 := 51) C (isK_lit hdm rfl rfl) (by decide) cl_X9 (by decide) ⟨rfl, rfl, rfl⟩ fl_X9_17 rfl dX9_addPart_224 ?_
  refine x_bipush (v := 9) C dX9_addPart_227 (by decide +kernel) ?_
  refine inb_2 hq (fun hi hq => ?_)
  refine x_iald C (isK_lit hdm rfl rfl) hi dX9_addPart_229 ?_
  refine x_bipush (v := 10) C dX9_addPart_230 (by decide +kernel) ?_
  refine x_icmp_ge (tgt := 254) C dX9_addPart_232 (by decide) hq (fun hq => ?_) (fun hq => ?_)
  · refine XG.sub [0, 1, 2] rfl ?_
    exact L_X9_addPart_254 C hdm hA hR0 hce hR _ _ _ _ hq
  · refine x_aload_n C 0 dX9_addPart_235 rfl ?_
    refine x_getr (K := 10) (k := 1) (o2 := 51) C (isK_lit hdm rfl rfl) (by decide) cl_X9 (by decide) ⟨rfl, rfl, rfl⟩ fl_X9_17 rfl dX9_addPart_236 ?_
    refine x_bipush (v := 10) C dX9_addPart_239 (by decide +kernel) ?_
    refine inb_2 hq (fun hi hq => ?_)
    refine x_iald C (isK_lit hdm rfl rfl) hi dX9_addPart_241 ?_
    refine x_iload C 3 dX9_addPart_242 rfl ?_
    refine x_iadd C dX9_addPart_244 ?_
    refine x_bipush (v := 60) C dX9_addPart_245 (by decide +kernel) ?_
    refine x_icmp_gt (tgt := 254) C dX9_addPart_247 (by decide) hq (fun hq => ?_) (fun hq => ?_)
    · refine XG.sub [0, 1, 2] rfl ?_
      exact L_X9_addPart_254 C hdm hA hR0 hce hR _ _ _ _ hq
    · refine x_iconst C dX9_addPart_250 ?_
      refine x_goto (tgt := 255) C dX9_addPart_251 (by decide) ?_
      refine XG.sub [0, 1, 2] rfl ?_
      exact L_X9_addPart_255 C hdm hA hR0 hce hR _ _ _ _ _ hq
set_option maxRecDepth 100000 in
set_option maxHeartbeats 4000000 in
theorem L_X9_addPart_222 {g : Cx} {d : Dl} (C : CX g cX9_addPart 8 (some .int) RX9) (hdm : g.dm = 1) (hA : ∀ q : Nat, g.s.heap.size ≤ q → g.A q) (hR0 : g.R = rmv 3 66 0 0) (hce : d.ce ≤ g.R.cells ∧ d.so ≤ g.R.slots) {res : Int × Wd} (hR : rtI g d cX9_addPart .int res) (x1 : Int) (x5 : Int) (x6 : Int) (w : Wd) (hq : p_X9_addPart_222 x1 x5 x6 w = some res) : XG g d (hP g d w) [(0, .ref (d.ad (50))), (1, iV (x1)), (5, iV (x5)), (6, iV (x6))] [.ref (d.ad (50))] 222 := by
  refine x_iconst C dX9_addPart_222 ?_
  exact L_X9_addPart_223 C hdm hA hR0 hce hR _ _ _ _ _ hq
set_option maxRecDepth 100000 in
set_option maxHeartbeats 4000000 in
theorem L_X9_addPart_183 {g : Cx} {d : Dl} (C : CX g cX9_addPart 8 (some .int) RX9) (hdm : g.dm = 1) (hA : ∀ q : Nat, g.s.heap.size ≤ q → g.A q) (hR0 : g.R = rmv 3 66 0 0) (hce : d.ce ≤ g.R.cells ∧ d.so ≤ g.R.slots) {res : Int × Wd} (hR : rtI g d cX9_addPart .int res) (x1 : Int) (x2 : Int) (x3 : Int) (x4 : Int) (x5 : Int) (x6 : Int) (w : Wd) (hq : p_X9_addPart_183 x1 x2 x3 x4 x5 x6 w = some res) : XG g d (hP g d w) [(0, .ref (d.ad (50))), (1, iV (x1)), (2, iV (x2)), (3, iV (x3)), (4, iV (x4)), (5, iV (x5)), (6, iV (x6))] [] 183 := by
  refine x_aload_n C 0 dX9_addPart_183 rfl ?_
  refine x_callVi (K := 10) (rm := rmv 0 0 0 0) (As := []) (rest := []) C hA hR0 mf_X9_good lk_X9_201 rfl (isK_lit hdm rfl rfl) (by decide) ⟨rfl, rfl⟩ ⟨Nat.le_of_ble_eq_true rfl, Nat.le_of_ble_eq_true rfl⟩ rfl rfl (Nat.le_of_ble_eq_true rfl) hce dX9_addPart_184 hq (fun _ _ h => c_X9_good g.l g.G hdm  h) (fun r2 w1 _ hq => ?_)
  refine x_istore (lv' := [(7, iV (r2)), (0, .ref (d.ad (50))), (1, iV (x1)), (2, iV (x2)), (3, iV (x3)), (4, iV (x4)), (5, iV (x5)), (6, iV (x6))]) C dX9_addPart_187 (by decide) rfl ?_
  refine x_aload_n C 1 dX9_addPart_189 rfl ?_
  refine x_aload_n C 1 dX9_addPart_190 rfl ?_
  refine x_getr (K := 10) (k := 1) (o2 := 51) C (isK_lit hdm rfl rfl) (by decide) cl_X9 (by decide) ⟨rfl, rfl, rfl⟩ fl_X9_17 rfl dX9_addPart_191 ?_
  refine x_putrow C hdm (Or.inl rfl) cl_X9 rfl ⟨rfl, rfl, rfl, rfl⟩ fl_X9_24 rfl dX9_addPart_194 ?_
  refine x_aload_n C 1 dX9_addPart_197 rfl ?_
  refine x_iload_n C 4 dX9_addPart_198 rfl ?_
  refine x_put (K := 10) (k := 24) C (isK_lit hdm rfl rfl) (by decide) cl_X9 (by decide) ⟨rfl, rfl, rfl, rfl⟩ fl_X9_198 ⟨rfl, rfl⟩ dX9_addPart_199 ?_
  refine nmW hq (fun w3 ew3 hq => ?_)
  rw [← ew3]
  refine x_aload_n C 1 dX9_addPart_202 rfl ?_
  refine x_iload C 5 dX9_addPart_203 rfl ?_
  refine x_put (K := 10) (k := 25) C (isK_lit hdm rfl rfl) (by decide) cl_X9 (by decide) ⟨rfl, rfl, rfl, rfl⟩ fl_X9_52 ⟨rfl, rfl⟩ dX9_addPart_205 ?_
  refine x_aload_n C 1 dX9_addPart_208 rfl ?_
  refine x_iload_n C 3 dX9_addPart_209 rfl ?_
  refine x_if_eq (tgt := 222) C dX9_addPart_210 (by decide) hq (fun hq => ?_) (fun hq => ?_)
  · refine XG.sub [1, 2, 6, 7] rfl ?_
    exact L_X9_addPart_222 C hdm hA hR0 hce hR _ _ _ _ hq
  · refine x_iload C 0 dX9_addPart_213 rfl ?_
    refine x_if_eq (tgt := 222) C dX9_addPart_215 (by decide) hq (fun hq => ?_) (fun hq => ?_)
    · refine XG.sub [1, 2, 6, 7] rfl ?_
      exact L_X9_addPart_222 C hdm hA hR0 hce hR _ _ _ _ hq
    · refine x_iconst C dX9_addPart_218 ?_
      refine x_goto (tgt := 223) C dX9_addPart_219 (by decide) ?_
      refine XG.sub [1, 2, 6, 7] rfl ?_
      exact L_X9_addPart_223 C hdm hA hR0 hce hR _ _ _ _ _ hq
set_option maxRecDepth 100000 in
set_option maxHeartbeats 4000000 in
theorem L_X9_addPart_89 {g : Cx} {d : Dl} (C : CX g cX9_addPart 8 (some .int) RX9) (hdm : g.dm = 1) (hA : ∀ q : Nat, g.s.heap.size ≤ q → g.A q) (hR0 : g.R = rmv 3 66 0 0) (hce : d.ce ≤ g.R.cells ∧ d.so ≤ g.R.slots) {res : Int × Wd} (hR : rtI g d cX9_addPart .int res) : ∀ (n : Nat) (x1 : Int) (x2 : Int) (x3 : Int) (x4 : Int) (x5 : Int) (x6 : Int) (w : Wd), p_X9_addPart_89 n x1 x2 x3 x4 x5 x6 w = some res → XG g d (hP g d w) [(0, .ref (d.ad (50))), (1, iV (x1)), (2, iV (x2)), (3, iV (x3)), (4, iV (x4)), (5, iV (x5)), (6, iV (x6))] [] 89 := by
  intro n
  induction n with
  | zero => intro x1 x2 x3 x4 x5 x6 w  hq; exact nomatch (show none = some _ from hq)
  | succ n ih =>
    intro x1 x2 x3 x4 x5 x6 w  hq
    refine x_aload_n C 0 dX9_addPart_89 rfl ?_
    refine x_callVi (K := 10) (rm := rmv 0 0 0 0) (As := []) (rest := []) C hA hR0 mf_X9_good lk_X9_201 rfl (isK_lit hdm rfl rfl) (by decide) ⟨rfl, rfl⟩ ⟨Nat.le_of_ble_eq_true rfl, Nat.le_of_ble_eq_true rfl⟩ rfl rfl (Nat.le_of_ble_eq_true rfl) hce dX9_addPart_90 hq (fun _ _ h => c_X9_good g.l g.G hdm  h) (fun r2 w1 _ hq => ?_)
    refine x_if_eq (tgt := 183) C dX9_addPart_93 (by decide) hq (fun hq => ?_) (fun hq => ?_)
    · exact L_X9_addPart_183 C hdm hA hR0 hce hR _ _ _ _ _ _ _ hq
    · refine x_aload_n C 0 dX9_addPart_96 rfl ?_
      refine x_get (K := 10) (k := 22) C (isK_lit hdm rfl rfl) (by decide) cl_X9 (by decide) ⟨rfl, rfl, rfl⟩ fl_X9_217 dX9_addPart_97 ?_
      refine x_if_eq (tgt := 183) C dX9_addPart_100 (by decide) hq (fun hq => ?_) (fun hq => ?_)
      · exact L_X9_addPart_183 C hdm hA hR0 hce hR _ _ _ _ _ _ _ hq
      · refine x_aload_n C 0 dX9_addPart_103 rfl ?_
        refine x_aload_n C 0 dX9_addPart_104 rfl ?_
        refine x_callVi (K := 10) (rm := rmv 0 0 0 0) (As := []) (rest := [.ref (d.ad (50))]) C hA hR0 mf_X9_isW lk_X9_288 rfl (isK_lit hdm rfl rfl) (by decide) ⟨rfl, rfl⟩ ⟨Nat.le_of_ble_eq_true rfl, Nat.le_of_ble_eq_true rfl⟩ rfl rfl (Nat.le_of_ble_eq_true rfl) hce dX9_addPart_105 hq (fun _ _ h => c_X9_isW g.l g.G hdm  h) (fun r4 w3 _ hq => ?_)
        refine x_if_eq (tgt := 141) C dX9_addPart_108 (by decide) hq (fun hq => ?_) (fun hq => ?_)
        · exact L_X9_addPart_141 C hdm hA hR0 hce hR ih _ _ _ _ _ _ _ hq
        · refine x_aload_n C 0 dX9_addPart_111 rfl ?_
          refine x_get (K := 10) (k := 20) C (isK_lit hdm rfl rfl) (by decide) cl_X9 (by decide) ⟨rfl, rfl, rfl⟩ fl_X9_211 dX9_addPart_112 ?_
          refine x_aload_n C 0 dX9_addPart_115 rfl ?_
          refine x_get (K := 10) (k := 21) C (isK_lit hdm rfl rfl) (by decide) cl_X9 (by decide) ⟨rfl, rfl, rfl⟩ fl_X9_205 dX9_addPart_116 ?_
          refine x_isub C dX9_addPart_119 ?_
          refine x_bipush (v := 12) C dX9_addPart_120 (by decide +kernel) ?_
          refine x_icmp_gt (tgt := 141) C dX9_addPart_122 (by decide) hq (fun hq => ?_) (fun hq => ?_)
          · exact L_X9_addPart_141 C hdm hA hR0 hce hR ih _ _ _ _ _ _ _ hq
          · refine x_aload_n C 0 dX9_addPart_125 rfl ?_
            refine x_get (K := 10) (k := 20) C (isK_lit hdm rfl rfl) (by decide) cl_X9 (by decide) ⟨rfl, rfl, rfl⟩ fl_X9_211 dX9_addPart_126 ?_
            refine x_aload_n C 0 dX9_addPart_129 rfl ?_
            refine x_get (K := 10) (k := 21) C (isK_lit hdm rfl rfl) (by decide) cl_X9 (by decide) ⟨rfl, rfl, rfl⟩ fl_X9_205 dX9_addPart_130 ?_
            refine x_isub C dX9_addPart_133 ?_
            refine x_aload_n C 0 dX9_addPart_134 rfl ?_
            refine x_callVi (K := 10) (rm := rmv 0 0 0 0) (As := []) (rest := [iV ((gF w3 50 20) - (gF w3 50 21)), .ref (d.ad (50))]) C hA hR0 mf_X9_wide lk_X9_71 rfl (isK_lit hdm rfl rfl) (by decide) ⟨rfl, rfl⟩ ⟨Nat.le_of_ble_eq_true rfl, Nat.le_of_ble_eq_true rfl⟩ rfl rfl (Nat.le_of_ble_eq_true rfl) hce dX9_addPart_135 hq (fun _ _ h => c_X9_wide g.l g.G hdm  h) (fun r6 w5 _ hq => ?_)
            refine x_icmp_le (tgt := 145) C dX9_addPart_138 (by decide) hq (fun hq => ?_) (fun hq => ?_)
            · refine x_iconst C dX9_addPart_145 ?_
              exact L_X9_addPart_146 C hdm hA hR0 hce hR ih _ _ _ _ _ _ _ _ hq
            · exact L_X9_addPart_141 C hdm hA hR0 hce hR ih _ _ _ _ _ _ _ hq
set_option maxRecDepth 100000 in
set_option maxHeartbeats 4000000 in
theorem L_X9_addPart_85 {g : Cx} {d : Dl} (C : CX g cX9_addPart 8 (some .int) RX9) (hdm : g.dm = 1) (hA : ∀ q : Nat, g.s.heap.size ≤ q → g.A q) (hR0 : g.R = rmv 3 66 0 0) (hce : d.ce ≤ g.R.cells ∧ d.so ≤ g.R.slots) {res : Int × Wd} (hR : rtI g d cX9_addPart .int res) (x1 : Int) (x2 : Int) (x3 : Int) (x4 : Int) (x5 : Int) (x6 : Int) (s0 : Int) (w : Wd) (hq : p_X9_addPart_85 x1 x2 x3 x4 x5 x6 s0 w = some res) : XG g d (hP g d w) [(0, .ref (d.ad (50))), (1, iV (x1)), (2, iV (x2)), (3, iV (x3)), (4, iV (x4)), (5, iV (x5)), (6, iV (x6))] [iV (s0), .ref (d.ad (50))] 85 := by
  refine x_iconst C dX9_addPart_85 ?_
  refine x_callVv (K := 10) (rm := rmv 2 41 0 0) (As := [iV (s0), iV (1)]) (rest := []) C hA hR0 mf_X9_errsIf lk_X9_274 rfl (isK_lit hdm rfl rfl) (by decide) ⟨rfl, rfl⟩ ⟨Nat.le_of_ble_eq_true rfl, Nat.le_of_ble_eq_true rfl⟩ rfl rfl (Nat.le_of_ble_eq_true rfl) hce dX9_addPart_86 hq (fun _ h => c_X9_errsIf g.l g.G hdm  h) (fun w1 _ hq => ?_)
  exact L_X9_addPart_89 C hdm hA hR0 hce hR _ _ _ _ _ _ _ _ hq
set_option maxRecDepth 100000 in
set_option maxHeartbeats 4000000 in
theorem L_X9_addPart_52 {g : Cx} {d : Dl} (C : CX g cX9_addPart 8 (some .int) RX9) (hdm : g.dm = 1) (hA : ∀ q : Nat, g.s.heap.size ≤ q → g.A q) (hR0 : g.R = rmv 3 66 0 0) (hce : d.ce ≤ g.R.cells ∧ d.so ≤ g.R.slots) {res : Int × Wd} (hR : rtI g d cX9_addPart .int res) (x1 : Int) (x2 : Int) (x3 : Int) (x4 : Int) (w : Wd) (hq : p_X9_addPart_52 x1 x2 x3 x4 w = some res) : XG g d (hP g d w) [(0, .ref (d.ad (50))), (1, iV (x1)), (2, iV (x2)), (3, iV (x3)), (4, iV (x4))] [] 52 := by
  refine x_aload_n C 0 dX9_addPart_52 rfl ?_
  refine x_callVv (K := 10) (rm := rmv 0 0 0 0) (As := []) (rest := []) C hA hR0 mf_X9_beginText lk_X9_324 rfl (isK_lit hdm rfl rfl) (by decide) ⟨rfl, rfl⟩ ⟨Nat.le_of_ble_eq_true rfl, Nat.le_of_ble_eq_true rfl⟩ rfl rfl (Nat.le_of_ble_eq_true rfl) hce dX9_addPart_53 hq (fun _ h => c_X9_beginText g.l g.G hdm  h) (fun w1 _ hq => ?_)
  refine x_aload_n C 0 dX9_addPart_56 rfl ?_
  refine x_getrow C hdm cl_X9 rfl ⟨rfl, rfl, rfl⟩ fl_X9_24 dX9_addPart_57 (fun q2 => ?_)
  refine x_bipush (v := 10) C dX9_addPart_60 (by decide +kernel) ?_
  refine inb_2 hq (fun hi hq => ?_)
  refine x_iald C (okR_K hdm q2) (by rw [okR_ln q2]; exact hi) dX9_addPart_62 ?_
  refine x_istore (lv' := [(5, iV (gA w1 (gP w1 50 3) 10)), (0, .ref (d.ad (50))), (1, iV (x1)), (2, iV (x2)), (3, iV (x3)), (4, iV (x4))]) C dX9_addPart_63 (by decide) rfl ?_
  refine x_iconst C dX9_addPart_65 ?_
  refine x_istore (lv' := [(6, iV (0)), (5, iV (gA w1 (gP w1 50 3) 10)), (0, .ref (d.ad (50))), (1, iV (x1)), (2, iV (x2)), (3, iV (x3)), (4, iV (x4))]) C dX9_addPart_66 (by decide) rfl ?_
  refine x_aload_n C 2 dX9_addPart_68 rfl ?_
  refine x_callVv (K := 10) (rm := rmv 1 25 0 0) (As := []) (rest := []) C hA hR0 mf_X9_scan lk_X9_234 rfl (isK_lit hdm rfl rfl) (by decide) ⟨rfl, rfl⟩ ⟨Nat.le_of_ble_eq_true rfl, Nat.le_of_ble_eq_true rfl⟩ rfl rfl (Nat.le_of_ble_eq_true rfl) hce dX9_addPart_69 hq (fun _ h => c_X9_scan g.l g.G hdm  h) (fun w3 _ hq => ?_)
  refine x_aload_n C 2 dX9_addPart_72 rfl ?_
  refine x_aload_n C 2 dX9_addPart_73 rfl ?_
  refine x_get (K := 10) (k := 22) C (isK_lit hdm rfl rfl) (by decide) cl_X9 (by decide) ⟨rfl, rfl, rfl⟩ fl_X9_217 dX9_addPart_74 ?_
  refine x_if_ne (tgt := 84) C dX9_addPart_77 (by decide) hq (fun hq => ?_) (fun hq => ?_)
  · refine x_iconst C dX9_addPart_84 ?_
    refine XG.sub [2, 3, 4, 5, 6, 1, 0] rfl ?_
    exact L_X9_addPart_85 C hdm hA hR0 hce hR _ _ _ _ _ _ _ _ hq
  · refine x_iconst C dX9_addPart_80 ?_
    refine x_goto (tgt := 85) C dX9_addPart_81 (by decide) ?_
    refine XG.sub [2, 3, 4, 5, 6, 1, 0] rfl ?_
    exact L_X9_addPart_85 C hdm hA hR0 hce hR _ _ _ _ _ _ _ _ hq
set_option maxRecDepth 100000 in
set_option maxHeartbeats 4000000 in
theorem L_X9_addPart_24 {g : Cx} {d : Dl} (C : CX g cX9_addPart 8 (some .int) RX9) (hdm : g.dm = 1) (hA : ∀ q : Nat, g.s.heap.size ≤ q → g.A q) (hR0 : g.R = rmv 3 66 0 0) (hce : d.ce ≤ g.R.cells ∧ d.so ≤ g.R.slots) {res : Int × Wd} (hR : rtI g d cX9_addPart .int res) : ∀ (n : Nat) (x1 : Int) (x2 : Int) (x3 : Int) (x4 : Int) (x5 : Int) (w : Wd), p_X9_addPart_24 n x1 x2 x3 x4 x5 w = some res → XG g d (hP g d w) [(0, .ref (d.ad (50))), (1, iV (x1)), (2, iV (x2)), (3, iV (x3)), (4, iV (x4)), (5, iV (x5))] [] 24 := by
  intro n
  induction n with
  | zero => intro x1 x2 x3 x4 x5 w  hq; exact nomatch (show none = some _ from hq)
  | succ n ih =>
    intro x1 x2 x3 x4 x5 w  hq
    refine x_iload C 5 dX9_addPart_24 rfl ?_
    refine x_sipush (v := 1099) C dX9_addPart_26 (by decide +kernel) ?_
    refine x_icmp_ge (tgt := 52) C dX9_addPart_29 (by decide) hq (fun hq => ?_) (fun hq => ?_)
    · refine XG.sub [0, 1, 2, 3, 4] rfl ?_
      exact L_X9_addPart_52 C hdm hA hR0 hce hR _ _ _ _ _ hq
    · refine x_aload_n C 0 dX9_addPart_32 rfl ?_
      refine x_getr (K := 10) (k := 2) (o2 := 52) C (isK_lit hdm rfl rfl) (by decide) cl_X9 (by decide) ⟨rfl, rfl, rfl⟩ fl_X9_21 rfl dX9_addPart_33 ?_
      refine x_iload C 5 dX9_addPart_36 rfl ?_
      refine x_aload_n C 0 dX9_addPart_38 rfl ?_
      refine x_getr (K := 10) (k := 1) (o2 := 51) C (isK_lit hdm rfl rfl) (by decide) cl_X9 (by decide) ⟨rfl, rfl, rfl⟩ fl_X9_17 rfl dX9_addPart_39 ?_
      refine x_iload C 5 dX9_addPart_42 rfl ?_
      refine inb_2 hq (fun hi hq => ?_)
      refine x_iald C (isK_lit hdm rfl rfl) hi dX9_addPart_44 ?_
      refine inb_2 hq (fun hi hq => ?_)
      refine x_iast C (isK_lit hdm rfl rfl) hi dX9_addPart_45 ?_
      refine x_iinc (lv' := [(5, iV (x5 + 1)), (0, .ref (d.ad (50))), (1, iV (x1)), (2, iV (x2)), (3, iV (x3)), (4, iV (x4))]) C 5 dX9_addPart_46 rfl (by decide) rfl ?_
      refine x_goto (tgt := 24) C dX9_addPart_49 (by decide) ?_
      refine XG.sub [1, 2, 3, 4, 5, 0] rfl ?_
      exact ih _ _ _ _ _ _ hq
set_option maxRecDepth 100000 in
set_option maxHeartbeats 4000000 in
theorem L_X9_addPart {g : Cx} {d : Dl} (C : CX g cX9_addPart 8 (some .int) RX9) (hdm : g.dm = 1) (hA : ∀ q : Nat, g.s.heap.size ≤ q → g.A q) (hR0 : g.R = rmv 3 66 0 0) (hce : d.ce ≤ g.R.cells ∧ d.so ≤ g.R.slots) {res : Int × Wd} (hR : rtI g d cX9_addPart .int res) (x1 : Int) (w : Wd) (hq : p_X9_addPart x1 w = some res) : XG g d (hP g d w) [(0, .ref (d.ad (50))), (1, iV (x1))] [] 0 := by
  refine x_iload_n C 1 dX9_addPart_0 rfl ?_
  refine x_i2l C dX9_addPart_1 ?_
  refine x_lconst C dX9_addPart_2 ?_
  refine x_ldc2 (v := 2) C rfl kl_X9_421 dX9_addPart_3 ?_
  refine x_callSi (rm := rmv 0 0 0 0) (As := [jV (w32 x1), jV (0), jV (2)]) (rest := []) C hA hR0 mf_X9_in lk_X9_75 ⟨rfl, rfl⟩ ⟨Nat.le_of_ble_eq_true rfl, Nat.le_of_ble_eq_true rfl⟩ rfl rfl (Nat.le_of_ble_eq_true rfl) hce dX9_addPart_6 hq (fun _ _ h => c_X9_in g.l g.G hdm  h) (fun r2 w1 _ hq => ?_)
  refine x_istore_n (lv' := [(2, iV (r2)), (0, .ref (d.ad (50))), (1, iV (x1))]) C dX9_addPart_9 (by decide) rfl ?_
  refine x_aload_n C 1 dX9_addPart_10 rfl ?_
  refine x_get (K := 10) (k := 24) C (isK_lit hdm rfl rfl) (by decide) cl_X9 (by decide) ⟨rfl, rfl, rfl⟩ fl_X9_198 dX9_addPart_11 ?_
  refine x_istore_n (lv' := [(3, iV (gF w1 50 24)), (2, iV (r2)), (0, .ref (d.ad (50))), (1, iV (x1))]) C dX9_addPart_14 (by decide) rfl ?_
  refine x_aload_n C 2 dX9_addPart_15 rfl ?_
  refine x_get (K := 10) (k := 25) C (isK_lit hdm rfl rfl) (by decide) cl_X9 (by decide) ⟨rfl, rfl, rfl⟩ fl_X9_52 dX9_addPart_16 ?_
  refine x_istore (lv' := [(4, iV (gF w1 50 25)), (3, iV (gF w1 50 24)), (2, iV (r2)), (0, .ref (d.ad (50))), (1, iV (x1))]) C dX9_addPart_19 (by decide) rfl ?_
  refine x_iconst C dX9_addPart_21 ?_
  refine x_istore (lv' := [(5, iV (0)), (4, iV (gF w1 50 25)), (3, iV (gF w1 50 24)), (2, iV (r2)), (0, .ref (d.ad (50))), (1, iV (x1))]) C dX9_addPart_22 (by decide) rfl ?_
  refine XG.sub [4, 5, 3, 2, 1, 0] rfl ?_
  exact L_X9_addPart_24 C hdm hA hR0 hce hR _ _ _ _ _ _ _ hq
set_option maxRecDepth 100000 in
set_option maxHeartbeats 4000000 in
theorem c_X9_addPart (l : Launch) (G : Gd) {dm na : Nat} {ad : Nat → Nat} (hdm : dm = 1) {x1 : Int} {w w' : Wd} {r : Int}  (hq : p_X9_addPart x1 w = some (r, w')) : mI l yX9_addPart cX9_addPart 8 (some .int) (rmv 3 66 0 0) G dm na ad [.ref (ad (50)), iV (x1)] w r w' := by
  refine met_I [(0, .ref (ad (50))), (1, iV (x1))] (by decide) (Nat.le_of_ble_eq_true rfl) rfl .int rfl (fun g d C S hR => ?_)
  obtain ⟨rfl, hR0, rfl, rfl, rfl, hA⟩ := S
  exact L_X9_addPart (d := (na, ad, 0, 0)) C hdm hA hR0 ⟨Nat.zero_le _, Nat.zero_le _⟩ hR  _ w hq
set_option maxRecDepth 100000 in
set_option maxHeartbeats 4000000 in
theorem L_X9_dropPart {g : Cx} {d : Dl} (C : CX g cX9_dropPart 2 (some .int) RX9) (hdm : g.dm = 1) (hA : ∀ q : Nat, g.s.heap.size ≤ q → g.A q) (hR0 : g.R = rmv 11 256 0 0) (hce : d.ce ≤ g.R.cells ∧ d.so ≤ g.R.slots) {res : Int × Wd} (hR : rtI g d cX9_dropPart .int res) (x1 : Int) (w : Wd) (hq : p_X9_dropPart x1 w = some res) : XG g d (hP g d w) [(0, .ref (d.ad (50))), (1, iV (x1))] [] 0 := by
  refine x_aload_n C 0 dX9_dropPart_0 rfl ?_
  refine x_aload_n C 0 dX9_dropPart_1 rfl ?_
  refine x_iload_n C 1 dX9_dropPart_2 rfl ?_
  refine x_callVi (K := 10) (rm := rmv 1 25 0 0) (As := [iV (x1)]) (rest := [.ref (d.ad (50))]) C hA hR0 mf_X9_isPart lk_X9_344 rfl (isK_lit hdm rfl rfl) (by decide) ⟨rfl, rfl⟩ ⟨Nat.le_of_ble_eq_true rfl, Nat.le_of_ble_eq_true rfl⟩ rfl rfl (Nat.le_of_ble_eq_true rfl) hce dX9_dropPart_3 hq (fun _ _ h => c_X9_isPart g.l g.G hdm  h) (fun r2 w1 _ hq => ?_)
  refine x_iconst C dX9_dropPart_6 ?_
  refine x_callVi (K := 10) (rm := rmv 1 23 0 0) (As := [iV (r2), iV (1)]) (rest := []) C hA hR0 mf_X9_passes2 lk_X9_349 rfl (isK_lit hdm rfl rfl) (by decide) ⟨rfl, rfl⟩ ⟨Nat.le_of_ble_eq_true rfl, Nat.le_of_ble_eq_true rfl⟩ rfl rfl (Nat.le_of_ble_eq_true rfl) hce dX9_dropPart_7 hq (fun _ _ h => c_X9_passes2 g.l g.G hdm  h) (fun r4 w3 _ hq => ?_)
  refine x_if_ne (tgt := 15) C dX9_dropPart_10 (by decide) hq (fun hq => ?_) (fun hq => ?_)
  · refine x_aload_n C 0 dX9_dropPart_15 rfl ?_
    refine x_callVv (K := 10) (rm := rmv 10 236 0 0) (As := []) (rest := []) C hA hR0 mf_X9_beginChange lk_X9_423 rfl (isK_lit hdm rfl rfl) (by decide) ⟨rfl, rfl⟩ ⟨Nat.le_of_ble_eq_true rfl, Nat.le_of_ble_eq_true rfl⟩ rfl rfl (Nat.le_of_ble_eq_true rfl) hce dX9_dropPart_16 hq (fun _ h => c_X9_beginChange g.l g.G hdm  h) (fun w5 _ hq => ?_)
    refine x_aload_n C 0 dX9_dropPart_19 rfl ?_
    refine x_iload_n C 1 dX9_dropPart_20 rfl ?_
    refine x_callVv (K := 10) (rm := rmv 2 44 0 0) (As := [iV (x1)]) (rest := []) C hA hR0 mf_X9_takePart lk_X9_171 rfl (isK_lit hdm rfl rfl) (by decide) ⟨rfl, rfl⟩ ⟨Nat.le_of_ble_eq_true rfl, Nat.le_of_ble_eq_true rfl⟩ rfl rfl (Nat.le_of_ble_eq_true rfl) hce dX9_dropPart_21 hq (fun _ h => c_X9_takePart g.l g.G hdm  h) (fun w6 _ hq => ?_)
    refine x_aload_n C 0 dX9_dropPart_24 rfl ?_
    refine x_iconst C dX9_dropPart_25 ?_
    refine x_aload_n C 0 dX9_dropPart_26 rfl ?_
    refine x_callVi (K := 10) (rm := rmv 10 235 0 0) (As := []) (rest := [iV (1), .ref (d.ad (50))]) C hA hR0 mf_X9_stays lk_X9_426 rfl (isK_lit hdm rfl rfl) (by decide) ⟨rfl, rfl⟩ ⟨Nat.le_of_ble_eq_true rfl, Nat.le_of_ble_eq_true rfl⟩ rfl rfl (Nat.le_of_ble_eq_true rfl) hce dX9_dropPart_27 hq (fun _ _ h => c_X9_stays g.l g.G hdm  h) (fun r8 w7 _ hq => ?_)
    refine x_callVi (K := 10) (rm := rmv 1 23 0 0) (As := [iV (1), iV (r8)]) (rest := []) C hA hR0 mf_X9_passes2 lk_X9_349 rfl (isK_lit hdm rfl rfl) (by decide) ⟨rfl, rfl⟩ ⟨Nat.le_of_ble_eq_true rfl, Nat.le_of_ble_eq_true rfl⟩ rfl rfl (Nat.le_of_ble_eq_true rfl) hce dX9_dropPart_30 hq (fun _ _ h => c_X9_passes2 g.l g.G hdm  h) (fun r10 w9 _ hq => ?_)
    refine x_if_eq (tgt := 43) C dX9_dropPart_33 (by decide) hq (fun hq => ?_) (fun hq => ?_)
    · refine x_iconst C dX9_dropPart_43 ?_
      exact hR _ _ _ _ hq rfl dX9_dropPart_44
    · refine x_aload_n C 0 dX9_dropPart_36 rfl ?_
      refine x_get (K := 10) (k := 6) C (isK_lit hdm rfl rfl) (by decide) cl_X9 (by decide) ⟨rfl, rfl, rfl⟩ fl_X9_120 dX9_dropPart_37 ?_
      refine x_goto (tgt := 44) C dX9_dropPart_40 (by decide) ?_
      exact hR _ _ _ _ hq rfl dX9_dropPart_44
  · refine x_iconst C dX9_dropPart_13 ?_
    exact hR _ _ _ _ hq rfl dX9_dropPart_14
set_option maxRecDepth 100000 in
set_option maxHeartbeats 4000000 in
theorem c_X9_dropPart (l : Launch) (G : Gd) {dm na : Nat} {ad : Nat → Nat} (hdm : dm = 1) {x1 : Int} {w w' : Wd} {r : Int}  (hq : p_X9_dropPart x1 w = some (r, w')) : mI l yX9_dropPart cX9_dropPart 2 (some .int) (rmv 11 256 0 0) G dm na ad [.ref (ad (50)), iV (x1)] w r w' := by
  refine met_I [(0, .ref (ad (50))), (1, iV (x1))] (by decide) (Nat.le_of_ble_eq_true rfl) rfl .int rfl (fun g d C S hR => ?_)
  obtain ⟨rfl, hR0, rfl, rfl, rfl, hA⟩ := S
  exact L_X9_dropPart (d := (na, ad, 0, 0)) C hdm hA hR0 ⟨Nat.zero_le _, Nat.zero_le _⟩ hR  _ w hq
set_option maxRecDepth 100000 in
set_option maxHeartbeats 4000000 in
theorem L_X9_movePart_22 {g : Cx} {d : Dl} (C : CX g cX9_movePart 3 (some .int) RX9) (hdm : g.dm = 1) (hA : ∀ q : Nat, g.s.heap.size ≤ q → g.A q) (hR0 : g.R = rmv 11 256 0 0) (hce : d.ce ≤ g.R.cells ∧ d.so ≤ g.R.slots) {res : Int × Wd} (hR : rtI g d cX9_movePart .int res) (x1 : Int) (x2 : Int) (s0 : Int) (w : Wd) (hq : p_X9_movePart_22 x1 x2 s0 w = some res) : XG g d (hP g d w) [(0, .ref (d.ad (50))), (1, iV (x1)), (2, iV (x2))] [iV (s0), .ref (d.ad (50))] 22 := by
  refine x_iconst C dX9_movePart_22 ?_
  refine x_callVi (K := 10) (rm := rmv 1 23 0 0) (As := [iV (s0), iV (1)]) (rest := []) C hA hR0 mf_X9_passes2 lk_X9_349 rfl (isK_lit hdm rfl rfl) (by decide) ⟨rfl, rfl⟩ ⟨Nat.le_of_ble_eq_true rfl, Nat.le_of_ble_eq_true rfl⟩ rfl rfl (Nat.le_of_ble_eq_true rfl) hce dX9_movePart_23 hq (fun _ _ h => c_X9_passes2 g.l g.G hdm  h) (fun r2 w1 _ hq => ?_)
  refine x_if_ne (tgt := 31) C dX9_movePart_26 (by decide) hq (fun hq => ?_) (fun hq => ?_)
  · refine x_aload_n C 0 dX9_movePart_31 rfl ?_
    refine x_callVv (K := 10) (rm := rmv 10 236 0 0) (As := []) (rest := []) C hA hR0 mf_X9_beginChange lk_X9_423 rfl (isK_lit hdm rfl rfl) (by decide) ⟨rfl, rfl⟩ ⟨Nat.le_of_ble_eq_true rfl, Nat.le_of_ble_eq_true rfl⟩ rfl rfl (Nat.le_of_ble_eq_true rfl) hce dX9_movePart_32 hq (fun _ h => c_X9_beginChange g.l g.G hdm  h) (fun w3 _ hq => ?_)
    refine x_aload_n C 0 dX9_movePart_35 rfl ?_
    refine x_iload_n C 1 dX9_movePart_36 rfl ?_
    refine x_iload_n C 2 dX9_movePart_37 rfl ?_
    refine x_callVv (K := 10) (rm := rmv 3 66 0 0) (As := [iV (x1), iV (x2)]) (rest := []) C hA hR0 mf_X9_moveNow lk_X9_402 rfl (isK_lit hdm rfl rfl) (by decide) ⟨rfl, rfl⟩ ⟨Nat.le_of_ble_eq_true rfl, Nat.le_of_ble_eq_true rfl⟩ rfl rfl (Nat.le_of_ble_eq_true rfl) hce dX9_movePart_38 hq (fun _ h => c_X9_moveNow g.l g.G hdm  h) (fun w4 _ hq => ?_)
    refine x_aload_n C 0 dX9_movePart_41 rfl ?_
    refine x_iconst C dX9_movePart_42 ?_
    refine x_aload_n C 0 dX9_movePart_43 rfl ?_
    refine x_callVi (K := 10) (rm := rmv 10 235 0 0) (As := []) (rest := [iV (1), .ref (d.ad (50))]) C hA hR0 mf_X9_stays lk_X9_426 rfl (isK_lit hdm rfl rfl) (by decide) ⟨rfl, rfl⟩ ⟨Nat.le_of_ble_eq_true rfl, Nat.le_of_ble_eq_true rfl⟩ rfl rfl (Nat.le_of_ble_eq_true rfl) hce dX9_movePart_44 hq (fun _ _ h => c_X9_stays g.l g.G hdm  h) (fun r6 w5 _ hq => ?_)
    refine x_callVi (K := 10) (rm := rmv 1 23 0 0) (As := [iV (1), iV (r6)]) (rest := []) C hA hR0 mf_X9_passes2 lk_X9_349 rfl (isK_lit hdm rfl rfl) (by decide) ⟨rfl, rfl⟩ ⟨Nat.le_of_ble_eq_true rfl, Nat.le_of_ble_eq_true rfl⟩ rfl rfl (Nat.le_of_ble_eq_true rfl) hce dX9_movePart_47 hq (fun _ _ h => c_X9_passes2 g.l g.G hdm  h) (fun r8 w7 _ hq => ?_)
    refine x_if_eq (tgt := 60) C dX9_movePart_50 (by decide) hq (fun hq => ?_) (fun hq => ?_)
    · refine x_iconst C dX9_movePart_60 ?_
      exact hR _ _ _ _ hq rfl dX9_movePart_61
    · refine x_aload_n C 0 dX9_movePart_53 rfl ?_
      refine x_get (K := 10) (k := 6) C (isK_lit hdm rfl rfl) (by decide) cl_X9 (by decide) ⟨rfl, rfl, rfl⟩ fl_X9_120 dX9_movePart_54 ?_
      refine x_goto (tgt := 61) C dX9_movePart_57 (by decide) ?_
      exact hR _ _ _ _ hq rfl dX9_movePart_61
  · refine x_iconst C dX9_movePart_29 ?_
    exact hR _ _ _ _ hq rfl dX9_movePart_30
set_option maxRecDepth 100000 in
set_option maxHeartbeats 4000000 in
theorem L_X9_movePart_21 {g : Cx} {d : Dl} (C : CX g cX9_movePart 3 (some .int) RX9) (hdm : g.dm = 1) (hA : ∀ q : Nat, g.s.heap.size ≤ q → g.A q) (hR0 : g.R = rmv 11 256 0 0) (hce : d.ce ≤ g.R.cells ∧ d.so ≤ g.R.slots) {res : Int × Wd} (hR : rtI g d cX9_movePart .int res) (x1 : Int) (x2 : Int) (w : Wd) (hq : p_X9_movePart_21 x1 x2 w = some res) : XG g d (hP g d w) [(0, .ref (d.ad (50))), (1, iV (x1)), (2, iV (x2))] [.ref (d.ad (50))] 21 := by
  refine x_iconst C dX9_movePart_21 ?_
  exact L_X9_movePart_22 C hdm hA hR0 hce hR _ _ _ _ hq
set_option maxRecDepth 100000 in
set_option maxHeartbeats 4000000 in
theorem L_X9_movePart {g : Cx} {d : Dl} (C : CX g cX9_movePart 3 (some .int) RX9) (hdm : g.dm = 1) (hA : ∀ q : Nat, g.s.heap.size ≤ q → g.A q) (hR0 : g.R = rmv 11 256 0 0) (hce : d.ce ≤ g.R.cells ∧ d.so ≤ g.R.slots) {res : Int × Wd} (hR : rtI g d cX9_movePart .int res) (x1 : Int) (x2 : Int) (w : Wd) (hq : p_X9_movePart x1 x2 w = some res) : XG g d (hP g d w) [(0, .ref (d.ad (50))), (1, iV (x1)), (2, iV (x2))] [] 0 := by
  refine x_aload_n C 0 dX9_movePart_0 rfl ?_
  refine x_aload_n C 0 dX9_movePart_1 rfl ?_
  refine x_iload_n C 1 dX9_movePart_2 rfl ?_
  refine x_callVi (K := 10) (rm := rmv 1 25 0 0) (As := [iV (x1)]) (rest := [.ref (d.ad (50))]) C hA hR0 mf_X9_isPart lk_X9_344 rfl (isK_lit hdm rfl rfl) (by decide) ⟨rfl, rfl⟩ ⟨Nat.le_of_ble_eq_true rfl, Nat.le_of_ble_eq_true rfl⟩ rfl rfl (Nat.le_of_ble_eq_true rfl) hce dX9_movePart_3 hq (fun _ _ h => c_X9_isPart g.l g.G hdm  h) (fun r2 w1 _ hq => ?_)
  refine x_if_eq (tgt := 21) C dX9_movePart_6 (by decide) hq (fun hq => ?_) (fun hq => ?_)
  · exact L_X9_movePart_21 C hdm hA hR0 hce hR _ _ _ hq
  · refine x_aload_n C 0 dX9_movePart_9 rfl ?_
    refine x_iload_n C 2 dX9_movePart_10 rfl ?_
    refine x_callVi (K := 10) (rm := rmv 1 25 0 0) (As := [iV (x2)]) (rest := [.ref (d.ad (50))]) C hA hR0 mf_X9_isPart lk_X9_344 rfl (isK_lit hdm rfl rfl) (by decide) ⟨rfl, rfl⟩ ⟨Nat.le_of_ble_eq_true rfl, Nat.le_of_ble_eq_true rfl⟩ rfl rfl (Nat.le_of_ble_eq_true rfl) hce dX9_movePart_11 hq (fun _ _ h => c_X9_isPart g.l g.G hdm  h) (fun r4 w3 _ hq => ?_)
    refine x_if_eq (tgt := 21) C dX9_movePart_14 (by decide) hq (fun hq => ?_) (fun hq => ?_)
    · exact L_X9_movePart_21 C hdm hA hR0 hce hR _ _ _ hq
    · refine x_iconst C dX9_movePart_17 ?_
      refine x_goto (tgt := 22) C dX9_movePart_18 (by decide) ?_
      exact L_X9_movePart_22 C hdm hA hR0 hce hR _ _ _ _ hq
set_option maxRecDepth 100000 in
set_option maxHeartbeats 4000000 in
theorem c_X9_movePart (l : Launch) (G : Gd) {dm na : Nat} {ad : Nat → Nat} (hdm : dm = 1) {x1 : Int} {x2 : Int} {w w' : Wd} {r : Int}  (hq : p_X9_movePart x1 x2 w = some (r, w')) : mI l yX9_movePart cX9_movePart 3 (some .int) (rmv 11 256 0 0) G dm na ad [.ref (ad (50)), iV (x1), iV (x2)] w r w' := by
  refine met_I [(0, .ref (ad (50))), (1, iV (x1)), (2, iV (x2))] (by decide) (Nat.le_of_ble_eq_true rfl) rfl .int rfl (fun g d C S hR => ?_)
  obtain ⟨rfl, hR0, rfl, rfl, rfl, hA⟩ := S
  exact L_X9_movePart (d := (na, ad, 0, 0)) C hdm hA hR0 ⟨Nat.zero_le _, Nat.zero_le _⟩ hR  _ _ w hq
set_option maxRecDepth 100000 in
set_option maxHeartbeats 4000000 in
theorem L_X9_setFlaw_79 {g : Cx} {d : Dl} (C : CX g cX9_setFlaw 6 (some .boolean) RX9) (hdm : g.dm = 1) (hA : ∀ q : Nat, g.s.heap.size ≤ q → g.A q) (hR0 : g.R = rmv 11 256 0 0) (hce : d.ce ≤ g.R.cells ∧ d.so ≤ g.R.slots) {res : Int × Wd} (hR : rtI g d cX9_setFlaw .boolean res) (x5 : Int) (s0 : Int) (s1 : Int) (s2 : Int) (w : Wd) (hq : p_X9_setFlaw_79 x5 s0 s1 s2 w = some res) : XG g d (hP g d w) [(0, .ref (d.ad (50))), (5, iV (x5))] [iV (s0), iV (s1), iV (s2), .ref (d.ad (50))] 79 := by
  refine x_callVv (K := 10) (rm := rmv 0 0 0 0) (As := [iV (s2), iV (s1), iV (s0)]) (rest := []) C hA hR0 mf_X9_putFlaw lk_X9_175 rfl (isK_lit hdm rfl rfl) (by decide) ⟨rfl, rfl⟩ ⟨Nat.le_of_ble_eq_true rfl, Nat.le_of_ble_eq_true rfl⟩ rfl rfl (Nat.le_of_ble_eq_true rfl) hce dX9_setFlaw_79 hq (fun _ h => c_X9_putFlaw g.l g.G hdm  h) (fun w1 _ hq => ?_)
  refine x_aload_n C 0 dX9_setFlaw_82 rfl ?_
  refine x_iconst C dX9_setFlaw_83 ?_
  refine x_aload_n C 0 dX9_setFlaw_84 rfl ?_
  refine x_callVi (K := 10) (rm := rmv 10 235 0 0) (As := []) (rest := [iV (1), .ref (d.ad (50))]) C hA hR0 mf_X9_stays lk_X9_426 rfl (isK_lit hdm rfl rfl) (by decide) ⟨rfl, rfl⟩ ⟨Nat.le_of_ble_eq_true rfl, Nat.le_of_ble_eq_true rfl⟩ rfl rfl (Nat.le_of_ble_eq_true rfl) hce dX9_setFlaw_85 hq (fun _ _ h => c_X9_stays g.l g.G hdm  h) (fun r3 w2 _ hq => ?_)
  refine x_callVi (K := 10) (rm := rmv 1 23 0 0) (As := [iV (1), iV (r3)]) (rest := []) C hA hR0 mf_X9_passes2 lk_X9_349 rfl (isK_lit hdm rfl rfl) (by decide) ⟨rfl, rfl⟩ ⟨Nat.le_of_ble_eq_true rfl, Nat.le_of_ble_eq_true rfl⟩ rfl rfl (Nat.le_of_ble_eq_true rfl) hce dX9_setFlaw_88 hq (fun _ _ h => c_X9_passes2 g.l g.G hdm  h) (fun r5 w4 _ hq => ?_)
  refine x_if_eq (tgt := 103) C dX9_setFlaw_91 (by decide) hq (fun hq => ?_) (fun hq => ?_)
  · refine x_iconst C dX9_setFlaw_103 ?_
    exact hR _ _ _ _ hq (by decide +kernel) dX9_setFlaw_104
  · refine x_iload C 1 dX9_setFlaw_94 rfl ?_
    refine x_if_eq (tgt := 103) C dX9_setFlaw_96 (by decide) hq (fun hq => ?_) (fun hq => ?_)
    · refine x_iconst C dX9_setFlaw_103 ?_
      exact hR _ _ _ _ hq (by decide +kernel) dX9_setFlaw_104
    · refine x_iconst C dX9_setFlaw_99 ?_
      refine x_goto (tgt := 104) C dX9_setFlaw_100 (by decide) ?_
      exact hR _ _ _ _ hq (by decide +kernel) dX9_setFlaw_104
set_option maxRecDepth 100000 in
set_option maxHeartbeats 4000000 in
theorem L_X9_setFlaw_55 {g : Cx} {d : Dl} (C : CX g cX9_setFlaw 6 (some .boolean) RX9) (hdm : g.dm = 1) (hA : ∀ q : Nat, g.s.heap.size ≤ q → g.A q) (hR0 : g.R = rmv 11 256 0 0) (hce : d.ce ≤ g.R.cells ∧ d.so ≤ g.R.slots) {res : Int × Wd} (hR : rtI g d cX9_setFlaw .boolean res) (x1 : Int) (x2 : Int) (x3 : Int) (x5 : Int) (s0 : Int) (s1 : Int) (w : Wd) (hq : p_X9_setFlaw_55 x1 x2 x3 x5 s0 s1 w = some res) : XG g d (hP g d w) [(0, .ref (d.ad (50))), (1, iV (x1)), (2, iV (x2)), (3, iV (x3)), (5, iV (x5))] [iV (s0), iV (s1), .ref (d.ad (50))] 55 := by
  refine x_callVi (K := 10) (rm := rmv 1 23 0 0) (As := [iV (s1), iV (s0)]) (rest := []) C hA hR0 mf_X9_passes2 lk_X9_349 rfl (isK_lit hdm rfl rfl) (by decide) ⟨rfl, rfl⟩ ⟨Nat.le_of_ble_eq_true rfl, Nat.le_of_ble_eq_true rfl⟩ rfl rfl (Nat.le_of_ble_eq_true rfl) hce dX9_setFlaw_55 hq (fun _ _ h => c_X9_passes2 g.l g.G hdm  h) (fun r2 w1 _ hq => ?_)
  refine x_if_ne (tgt := 63) C dX9_setFlaw_58 (by decide) hq (fun hq => ?_) (fun hq => ?_)
  · refine x_aload_n C 0 dX9_setFlaw_63 rfl ?_
    refine x_callVv (K := 10) (rm := rmv 10 236 0 0) (As := []) (rest := []) C hA hR0 mf_X9_beginChange lk_X9_423 rfl (isK_lit hdm rfl rfl) (by decide) ⟨rfl, rfl⟩ ⟨Nat.le_of_ble_eq_true rfl, Nat.le_of_ble_eq_true rfl⟩ rfl rfl (Nat.le_of_ble_eq_true rfl) hce dX9_setFlaw_64 hq (fun _ h => c_X9_beginChange g.l g.G hdm  h) (fun w3 _ hq => ?_)
    refine x_aload_n C 0 dX9_setFlaw_67 rfl ?_
    refine x_iload_n C 1 dX9_setFlaw_68 rfl ?_
    refine x_iload_n C 2 dX9_setFlaw_69 rfl ?_
    refine x_iload_n C 3 dX9_setFlaw_70 rfl ?_
    refine x_if_eq (tgt := 78) C dX9_setFlaw_71 (by decide) hq (fun hq => ?_) (fun hq => ?_)
    · refine x_iconst C dX9_setFlaw_78 ?_
      refine XG.sub [0, 4] rfl ?_
      exact L_X9_setFlaw_79 C hdm hA hR0 hce hR _ _ _ _ _ hq
    · refine x_iconst C dX9_setFlaw_74 ?_
      refine x_goto (tgt := 79) C dX9_setFlaw_75 (by decide) ?_
      refine XG.sub [0, 4] rfl ?_
      exact L_X9_setFlaw_79 C hdm hA hR0 hce hR _ _ _ _ _ hq
  · refine x_iconst C dX9_setFlaw_61 ?_
    exact hR _ _ _ _ hq (by decide +kernel) dX9_setFlaw_62
set_option maxRecDepth 100000 in
set_option maxHeartbeats 4000000 in
theorem L_X9_setFlaw_50 {g : Cx} {d : Dl} (C : CX g cX9_setFlaw 6 (some .boolean) RX9) (hdm : g.dm = 1) (hA : ∀ q : Nat, g.s.heap.size ≤ q → g.A q) (hR0 : g.R = rmv 11 256 0 0) (hce : d.ce ≤ g.R.cells ∧ d.so ≤ g.R.slots) {res : Int × Wd} (hR : rtI g d cX9_setFlaw .boolean res) (x1 : Int) (x2 : Int) (x3 : Int) (x5 : Int) (s0 : Int) (w : Wd) (hq : p_X9_setFlaw_50 x1 x2 x3 x5 s0 w = some res) : XG g d (hP g d w) [(0, .ref (d.ad (50))), (1, iV (x1)), (2, iV (x2)), (3, iV (x3)), (5, iV (x5))] [iV (s0), .ref (d.ad (50))] 50 := by
  refine x_iconst C dX9_setFlaw_50 ?_
  refine x_goto (tgt := 55) C dX9_setFlaw_51 (by decide) ?_
  exact L_X9_setFlaw_55 C hdm hA hR0 hce hR _ _ _ _ _ _ _ hq
set_option maxRecDepth 100000 in
set_option maxHeartbeats 4000000 in
theorem L_X9_setFlaw_27 {g : Cx} {d : Dl} (C : CX g cX9_setFlaw 6 (some .boolean) RX9) (hdm : g.dm = 1) (hA : ∀ q : Nat, g.s.heap.size ≤ q → g.A q) (hR0 : g.R = rmv 11 256 0 0) (hce : d.ce ≤ g.R.cells ∧ d.so ≤ g.R.slots) {res : Int × Wd} (hR : rtI g d cX9_setFlaw .boolean res) (x1 : Int) (x2 : Int) (x3 : Int) (x4 : Int) (s0 : Int) (w : Wd) (hq : p_X9_setFlaw_27 x1 x2 x3 x4 s0 w = some res) : XG g d (hP g d w) [(0, .ref (d.ad (50))), (1, iV (x1)), (2, iV (x2)), (3, iV (x3)), (4, iV (x4))] [iV (s0)] 27 := by
  refine x_istore (lv' := [(5, iV (s0)), (0, .ref (d.ad (50))), (1, iV (x1)), (2, iV (x2)), (3, iV (x3)), (4, iV (x4))]) C dX9_setFlaw_27 (by decide) rfl ?_
  refine x_aload_n C 1 dX9_setFlaw_29 rfl ?_
  refine x_iload C 5 dX9_setFlaw_30 rfl ?_
  refine x_iload C 0 dX9_setFlaw_32 rfl ?_
  refine x_if_ne (tgt := 50) C dX9_setFlaw_34 (by decide) hq (fun hq => ?_) (fun hq => ?_)
  · refine XG.sub [1, 2, 3, 4, 0] rfl ?_
    exact L_X9_setFlaw_50 C hdm hA hR0 hce hR _ _ _ _ _ _ hq
  · refine x_iload_n C 4 dX9_setFlaw_37 rfl ?_
    refine x_if_eq (tgt := 50) C dX9_setFlaw_38 (by decide) hq (fun hq => ?_) (fun hq => ?_)
    · refine XG.sub [1, 2, 3, 4, 0] rfl ?_
      exact L_X9_setFlaw_50 C hdm hA hR0 hce hR _ _ _ _ _ _ hq
    · refine x_aload_n C 1 dX9_setFlaw_41 rfl ?_
      refine x_callVi (K := 10) (rm := rmv 0 0 0 0) (As := []) (rest := [iV (x4), .ref (d.ad (50))]) C hA hR0 mf_X9_flaws lk_X9_271 rfl (isK_lit hdm rfl rfl) (by decide) ⟨rfl, rfl⟩ ⟨Nat.le_of_ble_eq_true rfl, Nat.le_of_ble_eq_true rfl⟩ rfl rfl (Nat.le_of_ble_eq_true rfl) hce dX9_setFlaw_42 hq (fun _ _ h => c_X9_flaws g.l g.G hdm  h) (fun r2 w1 _ hq => ?_)
      refine x_bipush (v := 40) C dX9_setFlaw_45 (by decide +kernel) ?_
      refine x_icmp_ge (tgt := 54) C dX9_setFlaw_47 (by decide) hq (fun hq => ?_) (fun hq => ?_)
      · refine x_iconst C dX9_setFlaw_54 ?_
        refine XG.sub [1, 2, 3, 4, 0] rfl ?_
        exact L_X9_setFlaw_55 C hdm hA hR0 hce hR _ _ _ _ _ _ _ hq
      · refine XG.sub [1, 2, 3, 4, 0] rfl ?_
        exact L_X9_setFlaw_50 C hdm hA hR0 hce hR _ _ _ _ _ _ hq
set_option maxRecDepth 100000 in
set_option maxHeartbeats 4000000 in
theorem L_X9_setFlaw_26 {g : Cx} {d : Dl} (C : CX g cX9_setFlaw 6 (some .boolean) RX9) (hdm : g.dm = 1) (hA : ∀ q : Nat, g.s.heap.size ≤ q → g.A q) (hR0 : g.R = rmv 11 256 0 0) (hce : d.ce ≤ g.R.cells ∧ d.so ≤ g.R.slots) {res : Int × Wd} (hR : rtI g d cX9_setFlaw .boolean res) (x1 : Int) (x2 : Int) (x3 : Int) (x4 : Int) (w : Wd) (hq : p_X9_setFlaw_26 x1 x2 x3 x4 w = some res) : XG g d (hP g d w) [(0, .ref (d.ad (50))), (1, iV (x1)), (2, iV (x2)), (3, iV (x3)), (4, iV (x4))] [] 26 := by
  refine x_iconst C dX9_setFlaw_26 ?_
  exact L_X9_setFlaw_27 C hdm hA hR0 hce hR _ _ _ _ _ _ hq
set_option maxRecDepth 100000 in
set_option maxHeartbeats 4000000 in
theorem L_X9_setFlaw {g : Cx} {d : Dl} (C : CX g cX9_setFlaw 6 (some .boolean) RX9) (hdm : g.dm = 1) (hA : ∀ q : Nat, g.s.heap.size ≤ q → g.A q) (hR0 : g.R = rmv 11 256 0 0) (hce : d.ce ≤ g.R.cells ∧ d.so ≤ g.R.slots) {res : Int × Wd} (hR : rtI g d cX9_setFlaw .boolean res) (x1 : Int) (x2 : Int) (x3 : Int) (w : Wd) (hq : p_X9_setFlaw x1 x2 x3 w = some res) : XG g d (hP g d w) [(0, .ref (d.ad (50))), (1, iV (x1)), (2, iV (x2)), (3, iV (x3))] [] 0 := by
  refine x_aload_n C 0 dX9_setFlaw_0 rfl ?_
  refine x_iload_n C 1 dX9_setFlaw_1 rfl ?_
  refine x_iload_n C 2 dX9_setFlaw_2 rfl ?_
  refine x_callVi (K := 10) (rm := rmv 1 25 0 0) (As := [iV (x1), iV (x2)]) (rest := []) C hA hR0 mf_X9_isCell lk_X9_82 rfl (isK_lit hdm rfl rfl) (by decide) ⟨rfl, rfl⟩ ⟨Nat.le_of_ble_eq_true rfl, Nat.le_of_ble_eq_true rfl⟩ rfl rfl (Nat.le_of_ble_eq_true rfl) hce dX9_setFlaw_3 hq (fun _ _ h => c_X9_isCell g.l g.G hdm  h) (fun r2 w1 _ hq => ?_)
  refine x_istore (lv' := [(4, iV (r2)), (0, .ref (d.ad (50))), (1, iV (x1)), (2, iV (x2)), (3, iV (x3))]) C dX9_setFlaw_6 (by decide) rfl ?_
  refine x_iload C 0 dX9_setFlaw_8 rfl ?_
  refine x_if_eq (tgt := 26) C dX9_setFlaw_10 (by decide) hq (fun hq => ?_) (fun hq => ?_)
  · refine XG.sub [1, 2, 3, 4, 0] rfl ?_
    exact L_X9_setFlaw_26 C hdm hA hR0 hce hR _ _ _ _ _ hq
  · refine x_aload_n C 1 dX9_setFlaw_13 rfl ?_
    refine x_iload_n C 2 dX9_setFlaw_14 rfl ?_
    refine x_iload_n C 3 dX9_setFlaw_15 rfl ?_
    refine x_callVi (K := 10) (rm := rmv 2 47 0 0) (As := [iV (x1), iV (x2)]) (rest := []) C hA hR0 mf_X9_hasFlaw lk_X9_93 rfl (isK_lit hdm rfl rfl) (by decide) ⟨rfl, rfl⟩ ⟨Nat.le_of_ble_eq_true rfl, Nat.le_of_ble_eq_true rfl⟩ rfl rfl (Nat.le_of_ble_eq_true rfl) hce dX9_setFlaw_16 hq (fun _ _ h => c_X9_hasFlaw g.l g.G hdm  h) (fun r4 w3 _ hq => ?_)
    refine x_if_eq (tgt := 26) C dX9_setFlaw_19 (by decide) hq (fun hq => ?_) (fun hq => ?_)
    · refine XG.sub [1, 2, 3, 4, 0] rfl ?_
      exact L_X9_setFlaw_26 C hdm hA hR0 hce hR _ _ _ _ _ hq
    · refine x_iconst C dX9_setFlaw_22 ?_
      refine x_goto (tgt := 27) C dX9_setFlaw_23 (by decide) ?_
      refine XG.sub [1, 2, 3, 4, 0] rfl ?_
      exact L_X9_setFlaw_27 C hdm hA hR0 hce hR _ _ _ _ _ _ hq
set_option maxRecDepth 100000 in
set_option maxHeartbeats 4000000 in
theorem c_X9_setFlaw (l : Launch) (G : Gd) {dm na : Nat} {ad : Nat → Nat} (hdm : dm = 1) {x1 : Int} {x2 : Int} {x3 : Int} {w w' : Wd} {r : Int}  (hq : p_X9_setFlaw x1 x2 x3 w = some (r, w')) : mI l yX9_setFlaw cX9_setFlaw 6 (some .boolean) (rmv 11 256 0 0) G dm na ad [.ref (ad (50)), iV (x1), iV (x2), iV (x3)] w r w' := by
  refine met_I [(0, .ref (ad (50))), (1, iV (x1)), (2, iV (x2)), (3, iV (x3))] (by decide) (Nat.le_of_ble_eq_true rfl) rfl .boolean rfl (fun g d C S hR => ?_)
  obtain ⟨rfl, hR0, rfl, rfl, rfl, hA⟩ := S
  exact L_X9_setFlaw (d := (na, ad, 0, 0)) C hdm hA hR0 ⟨Nat.zero_le _, Nat.zero_le _⟩ hR  _ _ _ w hq
set_option maxRecDepth 100000 in
set_option maxHeartbeats 4000000 in
theorem L_X9_setGap {g : Cx} {d : Dl} (C : CX g cX9_setGap 3 (some .int) RX9) (hdm : g.dm = 1) (hA : ∀ q : Nat, g.s.heap.size ≤ q → g.A q) (hR0 : g.R = rmv 11 256 0 0) (hce : d.ce ≤ g.R.cells ∧ d.so ≤ g.R.slots) {res : Int × Wd} (hR : rtI g d cX9_setGap .int res) (x1 : Int) (w : Wd) (hq : p_X9_setGap x1 w = some res) : XG g d (hP g d w) [(0, .ref (d.ad (50))), (1, iV (x1))] [] 0 := by
  refine x_aload_n C 0 dX9_setGap_0 rfl ?_
  refine x_iload_n C 1 dX9_setGap_1 rfl ?_
  refine x_callSi (rm := rmv 1 25 0 0) (As := [iV (x1)]) (rest := [.ref (d.ad (50))]) C hA hR0 mf_X9_isGap lk_X9_396 ⟨rfl, rfl⟩ ⟨Nat.le_of_ble_eq_true rfl, Nat.le_of_ble_eq_true rfl⟩ rfl rfl (Nat.le_of_ble_eq_true rfl) hce dX9_setGap_2 hq (fun _ _ h => c_X9_isGap g.l g.G hdm  h) (fun r2 w1 _ hq => ?_)
  refine x_iconst C dX9_setGap_5 ?_
  refine x_callVi (K := 10) (rm := rmv 1 23 0 0) (As := [iV (r2), iV (1)]) (rest := []) C hA hR0 mf_X9_passes2 lk_X9_349 rfl (isK_lit hdm rfl rfl) (by decide) ⟨rfl, rfl⟩ ⟨Nat.le_of_ble_eq_true rfl, Nat.le_of_ble_eq_true rfl⟩ rfl rfl (Nat.le_of_ble_eq_true rfl) hce dX9_setGap_6 hq (fun _ _ h => c_X9_passes2 g.l g.G hdm  h) (fun r4 w3 _ hq => ?_)
  refine x_if_ne (tgt := 14) C dX9_setGap_9 (by decide) hq (fun hq => ?_) (fun hq => ?_)
  · refine x_aload_n C 0 dX9_setGap_14 rfl ?_
    refine x_callVv (K := 10) (rm := rmv 10 236 0 0) (As := []) (rest := []) C hA hR0 mf_X9_beginChange lk_X9_423 rfl (isK_lit hdm rfl rfl) (by decide) ⟨rfl, rfl⟩ ⟨Nat.le_of_ble_eq_true rfl, Nat.le_of_ble_eq_true rfl⟩ rfl rfl (Nat.le_of_ble_eq_true rfl) hce dX9_setGap_15 hq (fun _ h => c_X9_beginChange g.l g.G hdm  h) (fun w5 _ hq => ?_)
    refine x_aload_n C 0 dX9_setGap_18 rfl ?_
    refine x_getr (K := 10) (k := 1) (o2 := 51) C (isK_lit hdm rfl rfl) (by decide) cl_X9 (by decide) ⟨rfl, rfl, rfl⟩ fl_X9_17 rfl dX9_setGap_19 ?_
    refine x_iconst C dX9_setGap_22 ?_
    refine inb_2 hq (fun hi hq => ?_)
    refine x_iald C (isK_lit hdm rfl rfl) hi dX9_setGap_23 ?_
    refine x_istore_n (lv' := [(2, iV (gA w5 51 2)), (0, .ref (d.ad (50))), (1, iV (x1))]) C dX9_setGap_24 (by decide) rfl ?_
    refine x_aload_n C 1 dX9_setGap_25 rfl ?_
    refine x_getr (K := 10) (k := 1) (o2 := 51) C (isK_lit hdm rfl rfl) (by decide) cl_X9 (by decide) ⟨rfl, rfl, rfl⟩ fl_X9_17 rfl dX9_setGap_26 ?_
    refine x_iconst C dX9_setGap_29 ?_
    refine x_iload_n C 2 dX9_setGap_30 rfl ?_
    refine inb_2 hq (fun hi hq => ?_)
    refine x_iast C (isK_lit hdm rfl rfl) hi dX9_setGap_31 ?_
    refine x_aload_n C 1 dX9_setGap_32 rfl ?_
    refine x_iconst C dX9_setGap_33 ?_
    refine x_aload_n C 1 dX9_setGap_34 rfl ?_
    refine x_callVi (K := 10) (rm := rmv 10 235 0 0) (As := []) (rest := [iV (1), .ref (d.ad (50))]) C hA hR0 mf_X9_stays lk_X9_426 rfl (isK_lit hdm rfl rfl) (by decide) ⟨rfl, rfl⟩ ⟨Nat.le_of_ble_eq_true rfl, Nat.le_of_ble_eq_true rfl⟩ rfl rfl (Nat.le_of_ble_eq_true rfl) hce dX9_setGap_35 hq (fun _ _ h => c_X9_stays g.l g.G hdm  h) (fun r7 w6 _ hq => ?_)
    refine x_callVi (K := 10) (rm := rmv 1 23 0 0) (As := [iV (1), iV (r7)]) (rest := []) C hA hR0 mf_X9_passes2 lk_X9_349 rfl (isK_lit hdm rfl rfl) (by decide) ⟨rfl, rfl⟩ ⟨Nat.le_of_ble_eq_true rfl, Nat.le_of_ble_eq_true rfl⟩ rfl rfl (Nat.le_of_ble_eq_true rfl) hce dX9_setGap_38 hq (fun _ _ h => c_X9_passes2 g.l g.G hdm  h) (fun r9 w8 _ hq => ?_)
    refine x_if_eq (tgt := 48) C dX9_setGap_41 (by decide) hq (fun hq => ?_) (fun hq => ?_)
    · refine x_iconst C dX9_setGap_48 ?_
      exact hR _ _ _ _ hq rfl dX9_setGap_49
    · refine x_iload_n C 0 dX9_setGap_44 rfl ?_
      refine x_goto (tgt := 49) C dX9_setGap_45 (by decide) ?_
      exact hR _ _ _ _ hq rfl dX9_setGap_49
  · refine x_iconst C dX9_setGap_12 ?_
    exact hR _ _ _ _ hq rfl dX9_setGap_13
set_option maxRecDepth 100000 in
set_option maxHeartbeats 4000000 in
theorem c_X9_setGap (l : Launch) (G : Gd) {dm na : Nat} {ad : Nat → Nat} (hdm : dm = 1) {x1 : Int} {w w' : Wd} {r : Int}  (hq : p_X9_setGap x1 w = some (r, w')) : mI l yX9_setGap cX9_setGap 3 (some .int) (rmv 11 256 0 0) G dm na ad [.ref (ad (50)), iV (x1)] w r w' := by
  refine met_I [(0, .ref (ad (50))), (1, iV (x1))] (by decide) (Nat.le_of_ble_eq_true rfl) rfl .int rfl (fun g d C S hR => ?_)
  obtain ⟨rfl, hR0, rfl, rfl, rfl, hA⟩ := S
  exact L_X9_setGap (d := (na, ad, 0, 0)) C hdm hA hR0 ⟨Nat.zero_le _, Nat.zero_le _⟩ hR  _ w hq
set_option maxRecDepth 100000 in
set_option maxHeartbeats 4000000 in
theorem L_X9_turnSlab_16 {g : Cx} {d : Dl} (C : CX g cX9_turnSlab 1 (some .int) RX9) (hdm : g.dm = 1) (hA : ∀ q : Nat, g.s.heap.size ≤ q → g.A q) (hR0 : g.R = rmv 9 213 0 0) (hce : d.ce ≤ g.R.cells ∧ d.so ≤ g.R.slots) {res : Int × Wd} (hR : rtI g d cX9_turnSlab .int res) (s0 : Int) (w : Wd) (hq : p_X9_turnSlab_16 s0 w = some res) : XG g d (hP g d w) [(0, .ref (d.ad (50)))] [iV (s0), .ref (d.ad (50))] 16 := by
  refine x_callVi (K := 10) (rm := rmv 1 23 0 0) (As := [iV (s0)]) (rest := []) C hA hR0 mf_X9_passes lk_X9_191 rfl (isK_lit hdm rfl rfl) (by decide) ⟨rfl, rfl⟩ ⟨Nat.le_of_ble_eq_true rfl, Nat.le_of_ble_eq_true rfl⟩ rfl rfl (Nat.le_of_ble_eq_true rfl) hce dX9_turnSlab_16 hq (fun _ _ h => c_X9_passes g.l g.G hdm  h) (fun r2 w1 _ hq => ?_)
  refine x_if_ne (tgt := 24) C dX9_turnSlab_19 (by decide) hq (fun hq => ?_) (fun hq => ?_)
  · refine x_aload_n C 0 dX9_turnSlab_24 rfl ?_
    refine x_callVv (K := 10) (rm := rmv 1 22 0 0) (As := []) (rest := []) C hA hR0 mf_X9_remember lk_X9_333 rfl (isK_lit hdm rfl rfl) (by decide) ⟨rfl, rfl⟩ ⟨Nat.le_of_ble_eq_true rfl, Nat.le_of_ble_eq_true rfl⟩ rfl rfl (Nat.le_of_ble_eq_true rfl) hce dX9_turnSlab_25 hq (fun _ h => c_X9_remember g.l g.G hdm  h) (fun w3 _ hq => ?_)
    refine x_aload_n C 0 dX9_turnSlab_28 rfl ?_
    refine x_callVv (K := 10) (rm := rmv 1 20 0 0) (As := []) (rest := []) C hA hR0 mf_X9_turn lk_X9_399 rfl (isK_lit hdm rfl rfl) (by decide) ⟨rfl, rfl⟩ ⟨Nat.le_of_ble_eq_true rfl, Nat.le_of_ble_eq_true rfl⟩ rfl rfl (Nat.le_of_ble_eq_true rfl) hce dX9_turnSlab_29 hq (fun _ h => c_X9_turn g.l g.G hdm  h) (fun w4 _ hq => ?_)
    refine x_aload_n C 0 dX9_turnSlab_32 rfl ?_
    refine x_callVi (K := 10) (rm := rmv 8 192 0 0) (As := []) (rest := []) C hA hR0 mf_X9_lay lk_X9_179 rfl (isK_lit hdm rfl rfl) (by decide) ⟨rfl, rfl⟩ ⟨Nat.le_of_ble_eq_true rfl, Nat.le_of_ble_eq_true rfl⟩ rfl rfl (Nat.le_of_ble_eq_true rfl) hce dX9_turnSlab_33 hq (fun _ _ h => c_X9_lay g.l g.G hdm  h) (fun r6 w5 _ hq => ?_)
    exact hR _ _ _ _ hq rfl dX9_turnSlab_36
  · refine x_iconst C dX9_turnSlab_22 ?_
    exact hR _ _ _ _ hq rfl dX9_turnSlab_23
set_option maxRecDepth 100000 in
set_option maxHeartbeats 4000000 in
theorem L_X9_turnSlab {g : Cx} {d : Dl} (C : CX g cX9_turnSlab 1 (some .int) RX9) (hdm : g.dm = 1) (hA : ∀ q : Nat, g.s.heap.size ≤ q → g.A q) (hR0 : g.R = rmv 9 213 0 0) (hce : d.ce ≤ g.R.cells ∧ d.so ≤ g.R.slots) {res : Int × Wd} (hR : rtI g d cX9_turnSlab .int res)  (w : Wd) (hq : p_X9_turnSlab  w = some res) : XG g d (hP g d w) [(0, .ref (d.ad (50)))] [] 0 := by
  refine x_aload_n C 0 dX9_turnSlab_0 rfl ?_
  refine x_aload_n C 0 dX9_turnSlab_1 rfl ?_
  refine x_getr (K := 10) (k := 1) (o2 := 51) C (isK_lit hdm rfl rfl) (by decide) cl_X9 (by decide) ⟨rfl, rfl, rfl⟩ fl_X9_17 rfl dX9_turnSlab_2 ?_
  refine x_bipush (v := 8) C dX9_turnSlab_5 (by decide +kernel) ?_
  refine inb_2 hq (fun hi hq => ?_)
  refine x_iald C (isK_lit hdm rfl rfl) hi dX9_turnSlab_7 ?_
  refine x_if_ne (tgt := 15) C dX9_turnSlab_8 (by decide) hq (fun hq => ?_) (fun hq => ?_)
  · refine x_iconst C dX9_turnSlab_15 ?_
    exact L_X9_turnSlab_16 C hdm hA hR0 hce hR _ _ hq
  · refine x_iconst C dX9_turnSlab_11 ?_
    refine x_goto (tgt := 16) C dX9_turnSlab_12 (by decide) ?_
    exact L_X9_turnSlab_16 C hdm hA hR0 hce hR _ _ hq
set_option maxRecDepth 100000 in
set_option maxHeartbeats 4000000 in
theorem c_X9_turnSlab (l : Launch) (G : Gd) {dm na : Nat} {ad : Nat → Nat} (hdm : dm = 1)  {w w' : Wd} {r : Int}  (hq : p_X9_turnSlab  w = some (r, w')) : mI l yX9_turnSlab cX9_turnSlab 1 (some .int) (rmv 9 213 0 0) G dm na ad [.ref (ad (50))] w r w' := by
  refine met_I [(0, .ref (ad (50)))] (by decide) (Nat.le_of_ble_eq_true rfl) rfl .int rfl (fun g d C S hR => ?_)
  obtain ⟨rfl, hR0, rfl, rfl, rfl, hA⟩ := S
  exact L_X9_turnSlab (d := (na, ad, 0, 0)) C hdm hA hR0 ⟨Nat.zero_le _, Nat.zero_le _⟩ hR   w hq
set_option maxRecDepth 100000 in
set_option maxHeartbeats 4000000 in
theorem L_X9_cutRows_33 {g : Cx} {d : Dl} (C : CX g cX9_cutRows 3 (some .int) RX9) (hdm : g.dm = 1) (hA : ∀ q : Nat, g.s.heap.size ≤ q → g.A q) (hR0 : g.R = rmv 11 256 0 0) (hce : d.ce ≤ g.R.cells ∧ d.so ≤ g.R.slots) {res : Int × Wd} (hR : rtI g d cX9_cutRows .int res) (x1 : Int) (x2 : Int) (s0 : Int) (s1 : Int) (w : Wd) (hq : p_X9_cutRows_33 x1 x2 s0 s1 w = some res) : XG g d (hP g d w) [(0, .ref (d.ad (50))), (1, iV (x1)), (2, iV (x2))] [iV (s0), iV (s1), .ref (d.ad (50))] 33 := by
  refine x_callVi (K := 10) (rm := rmv 1 23 0 0) (As := [iV (s1), iV (s0)]) (rest := []) C hA hR0 mf_X9_passes2 lk_X9_349 rfl (isK_lit hdm rfl rfl) (by decide) ⟨rfl, rfl⟩ ⟨Nat.le_of_ble_eq_true rfl, Nat.le_of_ble_eq_true rfl⟩ rfl rfl (Nat.le_of_ble_eq_true rfl) hce dX9_cutRows_33 hq (fun _ _ h => c_X9_passes2 g.l g.G hdm  h) (fun r2 w1 _ hq => ?_)
  refine x_if_ne (tgt := 41) C dX9_cutRows_36 (by decide) hq (fun hq => ?_) (fun hq => ?_)
  · refine x_aload_n C 0 dX9_cutRows_41 rfl ?_
    refine x_callVv (K := 10) (rm := rmv 10 236 0 0) (As := []) (rest := []) C hA hR0 mf_X9_beginChange lk_X9_423 rfl (isK_lit hdm rfl rfl) (by decide) ⟨rfl, rfl⟩ ⟨Nat.le_of_ble_eq_true rfl, Nat.le_of_ble_eq_true rfl⟩ rfl rfl (Nat.le_of_ble_eq_true rfl) hce dX9_cutRows_42 hq (fun _ h => c_X9_beginChange g.l g.G hdm  h) (fun w3 _ hq => ?_)
    refine x_aload_n C 0 dX9_cutRows_45 rfl ?_
    refine x_iload_n C 1 dX9_cutRows_46 rfl ?_
    refine x_iload_n C 2 dX9_cutRows_47 rfl ?_
    refine x_callVv (K := 10) (rm := rmv 1 23 0 0) (As := [iV (x1), iV (x2)]) (rest := []) C hA hR0 mf_X9_cut lk_X9_429 rfl (isK_lit hdm rfl rfl) (by decide) ⟨rfl, rfl⟩ ⟨Nat.le_of_ble_eq_true rfl, Nat.le_of_ble_eq_true rfl⟩ rfl rfl (Nat.le_of_ble_eq_true rfl) hce dX9_cutRows_48 hq (fun _ h => c_X9_cut g.l g.G hdm  h) (fun w4 _ hq => ?_)
    refine x_aload_n C 0 dX9_cutRows_51 rfl ?_
    refine x_iconst C dX9_cutRows_52 ?_
    refine x_aload_n C 0 dX9_cutRows_53 rfl ?_
    refine x_callVi (K := 10) (rm := rmv 10 235 0 0) (As := []) (rest := [iV (1), .ref (d.ad (50))]) C hA hR0 mf_X9_stays lk_X9_426 rfl (isK_lit hdm rfl rfl) (by decide) ⟨rfl, rfl⟩ ⟨Nat.le_of_ble_eq_true rfl, Nat.le_of_ble_eq_true rfl⟩ rfl rfl (Nat.le_of_ble_eq_true rfl) hce dX9_cutRows_54 hq (fun _ _ h => c_X9_stays g.l g.G hdm  h) (fun r6 w5 _ hq => ?_)
    refine x_callVi (K := 10) (rm := rmv 1 23 0 0) (As := [iV (1), iV (r6)]) (rest := []) C hA hR0 mf_X9_passes2 lk_X9_349 rfl (isK_lit hdm rfl rfl) (by decide) ⟨rfl, rfl⟩ ⟨Nat.le_of_ble_eq_true rfl, Nat.le_of_ble_eq_true rfl⟩ rfl rfl (Nat.le_of_ble_eq_true rfl) hce dX9_cutRows_57 hq (fun _ _ h => c_X9_passes2 g.l g.G hdm  h) (fun r8 w7 _ hq => ?_)
    refine x_if_eq (tgt := 70) C dX9_cutRows_60 (by decide) hq (fun hq => ?_) (fun hq => ?_)
    · refine x_iconst C dX9_cutRows_70 ?_
      exact hR _ _ _ _ hq rfl dX9_cutRows_71
    · refine x_aload_n C 0 dX9_cutRows_63 rfl ?_
      refine x_get (K := 10) (k := 6) C (isK_lit hdm rfl rfl) (by decide) cl_X9 (by decide) ⟨rfl, rfl, rfl⟩ fl_X9_120 dX9_cutRows_64 ?_
      refine x_goto (tgt := 71) C dX9_cutRows_67 (by decide) ?_
      exact hR _ _ _ _ hq rfl dX9_cutRows_71
  · refine x_iconst C dX9_cutRows_39 ?_
    exact hR _ _ _ _ hq rfl dX9_cutRows_40
set_option maxRecDepth 100000 in
set_option maxHeartbeats 4000000 in
theorem L_X9_cutRows_28 {g : Cx} {d : Dl} (C : CX g cX9_cutRows 3 (some .int) RX9) (hdm : g.dm = 1) (hA : ∀ q : Nat, g.s.heap.size ≤ q → g.A q) (hR0 : g.R = rmv 11 256 0 0) (hce : d.ce ≤ g.R.cells ∧ d.so ≤ g.R.slots) {res : Int × Wd} (hR : rtI g d cX9_cutRows .int res) (x1 : Int) (x2 : Int) (s0 : Int) (w : Wd) (hq : p_X9_cutRows_28 x1 x2 s0 w = some res) : XG g d (hP g d w) [(0, .ref (d.ad (50))), (1, iV (x1)), (2, iV (x2))] [iV (s0), .ref (d.ad (50))] 28 := by
  refine x_iconst C dX9_cutRows_28 ?_
  refine x_goto (tgt := 33) C dX9_cutRows_29 (by decide) ?_
  exact L_X9_cutRows_33 C hdm hA hR0 hce hR _ _ _ _ _ hq
set_option maxRecDepth 100000 in
set_option maxHeartbeats 4000000 in
theorem L_X9_cutRows {g : Cx} {d : Dl} (C : CX g cX9_cutRows 3 (some .int) RX9) (hdm : g.dm = 1) (hA : ∀ q : Nat, g.s.heap.size ≤ q → g.A q) (hR0 : g.R = rmv 11 256 0 0) (hce : d.ce ≤ g.R.cells ∧ d.so ≤ g.R.slots) {res : Int × Wd} (hR : rtI g d cX9_cutRows .int res) (x1 : Int) (x2 : Int) (w : Wd) (hq : p_X9_cutRows x1 x2 w = some res) : XG g d (hP g d w) [(0, .ref (d.ad (50))), (1, iV (x1)), (2, iV (x2))] [] 0 := by
  refine x_aload_n C 0 dX9_cutRows_0 rfl ?_
  refine x_iload_n C 1 dX9_cutRows_1 rfl ?_
  refine x_i2l C dX9_cutRows_2 ?_
  refine x_lconst C dX9_cutRows_3 ?_
  refine x_aload_n C 0 dX9_cutRows_4 rfl ?_
  refine x_callVi (K := 10) (rm := rmv 0 0 0 0) (As := []) (rest := [jV (1), jV (w32 x1), .ref (d.ad (50))]) C hA hR0 mf_X9_high lk_X9_79 rfl (isK_lit hdm rfl rfl) (by decide) ⟨rfl, rfl⟩ ⟨Nat.le_of_ble_eq_true rfl, Nat.le_of_ble_eq_true rfl⟩ rfl rfl (Nat.le_of_ble_eq_true rfl) hce dX9_cutRows_5 hq (fun _ _ h => c_X9_high g.l g.G hdm  h) (fun r2 w1 _ hq => ?_)
  refine x_iconst C dX9_cutRows_8 ?_
  refine x_isub C dX9_cutRows_9 ?_
  refine x_i2l C dX9_cutRows_10 ?_
  refine x_callSi (rm := rmv 0 0 0 0) (As := [jV (w32 x1), jV (1), jV (w32 (r2 - 2))]) (rest := [.ref (d.ad (50))]) C hA hR0 mf_X9_in lk_X9_75 ⟨rfl, rfl⟩ ⟨Nat.le_of_ble_eq_true rfl, Nat.le_of_ble_eq_true rfl⟩ rfl rfl (Nat.le_of_ble_eq_true rfl) hce dX9_cutRows_11 hq (fun _ _ h => c_X9_in g.l g.G hdm  h) (fun r4 w3 _ hq => ?_)
  refine x_iload_n C 2 dX9_cutRows_14 rfl ?_
  refine x_if_eq (tgt := 28) C dX9_cutRows_15 (by decide) hq (fun hq => ?_) (fun hq => ?_)
  · exact L_X9_cutRows_28 C hdm hA hR0 hce hR _ _ _ _ hq
  · refine x_aload_n C 0 dX9_cutRows_18 rfl ?_
    refine x_getr (K := 10) (k := 1) (o2 := 51) C (isK_lit hdm rfl rfl) (by decide) cl_X9 (by decide) ⟨rfl, rfl, rfl⟩ fl_X9_17 rfl dX9_cutRows_19 ?_
    refine x_bipush (v := 8) C dX9_cutRows_22 (by decide +kernel) ?_
    refine inb_2 hq (fun hi hq => ?_)
    refine x_iald C (isK_lit hdm rfl rfl) hi dX9_cutRows_24 ?_
    refine x_if_ne (tgt := 32) C dX9_cutRows_25 (by decide) hq (fun hq => ?_) (fun hq => ?_)
    · refine x_iconst C dX9_cutRows_32 ?_
      exact L_X9_cutRows_33 C hdm hA hR0 hce hR _ _ _ _ _ hq
    · exact L_X9_cutRows_28 C hdm hA hR0 hce hR _ _ _ _ hq
set_option maxRecDepth 100000 in
set_option maxHeartbeats 4000000 in
theorem c_X9_cutRows (l : Launch) (G : Gd) {dm na : Nat} {ad : Nat → Nat} (hdm : dm = 1) {x1 : Int} {x2 : Int} {w w' : Wd} {r : Int}  (hq : p_X9_cutRows x1 x2 w = some (r, w')) : mI l yX9_cutRows cX9_cutRows 3 (some .int) (rmv 11 256 0 0) G dm na ad [.ref (ad (50)), iV (x1), iV (x2)] w r w' := by
  refine met_I [(0, .ref (ad (50))), (1, iV (x1)), (2, iV (x2))] (by decide) (Nat.le_of_ble_eq_true rfl) rfl .int rfl (fun g d C S hR => ?_)
  obtain ⟨rfl, hR0, rfl, rfl, rfl, hA⟩ := S
  exact L_X9_cutRows (d := (na, ad, 0, 0)) C hdm hA hR0 ⟨Nat.zero_le _, Nat.zero_le _⟩ hR  _ _ w hq
set_option maxRecDepth 100000 in
set_option maxHeartbeats 4000000 in
theorem L_X9_carve {g : Cx} {d : Dl} (C : CX g cX9_carve 5 (some .int) RX9) (hdm : g.dm = 1) (hA : ∀ q : Nat, g.s.heap.size ≤ q → g.A q) (hR0 : g.R = rmv 9 213 0 0) (hce : d.ce ≤ g.R.cells ∧ d.so ≤ g.R.slots) {res : Int × Wd} (hR : rtI g d cX9_carve .int res) (x1 : Int) (w : Wd) (hq : p_X9_carve x1 w = some res) : XG g d (hP g d w) [(0, .ref (d.ad (50))), (1, iV (x1))] [] 0 := by
  refine x_aload_n C 0 dX9_carve_0 rfl ?_
  refine x_iload_n C 1 dX9_carve_1 rfl ?_
  refine x_i2l C dX9_carve_2 ?_
  refine x_lconst C dX9_carve_3 ?_
  refine x_ldc2 (v := 300) C rfl kl_X9_433 dX9_carve_4 ?_
  refine x_callSi (rm := rmv 0 0 0 0) (As := [jV (w32 x1), jV (1), jV (300)]) (rest := [.ref (d.ad (50))]) C hA hR0 mf_X9_in lk_X9_75 ⟨rfl, rfl⟩ ⟨Nat.le_of_ble_eq_true rfl, Nat.le_of_ble_eq_true rfl⟩ rfl rfl (Nat.le_of_ble_eq_true rfl) hce dX9_carve_7 hq (fun _ _ h => c_X9_in g.l g.G hdm  h) (fun r2 w1 _ hq => ?_)
  refine x_callVi (K := 10) (rm := rmv 1 23 0 0) (As := [iV (r2)]) (rest := []) C hA hR0 mf_X9_passes lk_X9_191 rfl (isK_lit hdm rfl rfl) (by decide) ⟨rfl, rfl⟩ ⟨Nat.le_of_ble_eq_true rfl, Nat.le_of_ble_eq_true rfl⟩ rfl rfl (Nat.le_of_ble_eq_true rfl) hce dX9_carve_10 hq (fun _ _ h => c_X9_passes g.l g.G hdm  h) (fun r4 w3 _ hq => ?_)
  refine x_if_ne (tgt := 18) C dX9_carve_13 (by decide) hq (fun hq => ?_) (fun hq => ?_)
  · refine x_aload_n C 0 dX9_carve_18 rfl ?_
    refine x_callVv (K := 10) (rm := rmv 1 22 0 0) (As := []) (rest := []) C hA hR0 mf_X9_remember lk_X9_333 rfl (isK_lit hdm rfl rfl) (by decide) ⟨rfl, rfl⟩ ⟨Nat.le_of_ble_eq_true rfl, Nat.le_of_ble_eq_true rfl⟩ rfl rfl (Nat.le_of_ble_eq_true rfl) hce dX9_carve_19 hq (fun _ h => c_X9_remember g.l g.G hdm  h) (fun w5 _ hq => ?_)
    refine x_aload_n C 0 dX9_carve_22 rfl ?_
    refine x_callVi (K := 10) (rm := rmv 8 192 0 0) (As := []) (rest := []) C hA hR0 mf_X9_lay lk_X9_179 rfl (isK_lit hdm rfl rfl) (by decide) ⟨rfl, rfl⟩ ⟨Nat.le_of_ble_eq_true rfl, Nat.le_of_ble_eq_true rfl⟩ rfl rfl (Nat.le_of_ble_eq_true rfl) hce dX9_carve_23 hq (fun _ _ h => c_X9_lay g.l g.G hdm  h) (fun r7 w6 _ hq => ?_)
    refine x_istore_n (lv' := [(2, iV (r7)), (0, .ref (d.ad (50))), (1, iV (x1))]) C dX9_carve_26 (by decide) rfl ?_
    refine x_aload_n C 1 dX9_carve_27 rfl ?_
    refine x_iload_n C 2 dX9_carve_28 rfl ?_
    refine x_callVi (K := 10) (rm := rmv 3 64 0 0) (As := [iV (x1)]) (rest := []) C hA hR0 mf_X9_endOf lk_X9_374 rfl (isK_lit hdm rfl rfl) (by decide) ⟨rfl, rfl⟩ ⟨Nat.le_of_ble_eq_true rfl, Nat.le_of_ble_eq_true rfl⟩ rfl rfl (Nat.le_of_ble_eq_true rfl) hce dX9_carve_29 hq (fun _ _ h => c_X9_endOf g.l g.G hdm  h) (fun r9 w8 _ hq => ?_)
    refine x_istore_n (lv' := [(3, iV (r9)), (2, iV (r7)), (0, .ref (d.ad (50))), (1, iV (x1))]) C dX9_carve_32 (by decide) rfl ?_
    refine x_aload_n C 2 dX9_carve_33 rfl ?_
    refine x_aload_n C 2 dX9_carve_34 rfl ?_
    refine x_getr (K := 10) (k := 1) (o2 := 51) C (isK_lit hdm rfl rfl) (by decide) cl_X9 (by decide) ⟨rfl, rfl, rfl⟩ fl_X9_17 rfl dX9_carve_35 ?_
    refine x_bipush (v := 8) C dX9_carve_38 (by decide +kernel) ?_
    refine inb_2 hq (fun hi hq => ?_)
    refine x_iald C (isK_lit hdm rfl rfl) hi dX9_carve_40 ?_
    refine x_iload_n C 0 dX9_carve_41 rfl ?_
    refine x_callVi (K := 10) (rm := rmv 7 160 0 0) (As := [iV (gA w8 51 8), iV (r9)]) (rest := []) C hA hR0 mf_X9_timeFromTo lk_X9_377 rfl (isK_lit hdm rfl rfl) (by decide) ⟨rfl, rfl⟩ ⟨Nat.le_of_ble_eq_true rfl, Nat.le_of_ble_eq_true rfl⟩ rfl rfl (Nat.le_of_ble_eq_true rfl) hce dX9_carve_42 hq (fun _ _ h => c_X9_timeFromTo g.l g.G hdm  h) (fun r11 w10 _ hq => ?_)
    refine x_istore (lv' := [(4, iV (r11)), (3, iV (r9)), (2, iV (r7)), (0, .ref (d.ad (50))), (1, iV (x1))]) C dX9_carve_45 (by decide) rfl ?_
    refine x_aload_n C 3 dX9_carve_47 rfl ?_
    refine x_getr (K := 10) (k := 1) (o2 := 51) C (isK_lit hdm rfl rfl) (by decide) cl_X9 (by decide) ⟨rfl, rfl, rfl⟩ fl_X9_17 rfl dX9_carve_48 ?_
    refine x_bipush (v := 8) C dX9_carve_51 (by decide +kernel) ?_
    refine x_iload_n C 1 dX9_carve_53 rfl ?_
    refine inb_2 hq (fun hi hq => ?_)
    refine x_iast C (isK_lit hdm rfl rfl) hi dX9_carve_54 ?_
    refine x_aload_n C 3 dX9_carve_55 rfl ?_
    refine x_getr (K := 10) (k := 1) (o2 := 51) C (isK_lit hdm rfl rfl) (by decide) cl_X9 (by decide) ⟨rfl, rfl, rfl⟩ fl_X9_17 rfl dX9_carve_56 ?_
    refine x_iconst C dX9_carve_59 ?_
    refine x_aload_n C 3 dX9_carve_60 rfl ?_
    refine x_get (K := 10) (k := 9) C (isK_lit hdm rfl rfl) (by decide) cl_X9 (by decide) ⟨rfl, rfl, rfl⟩ fl_X9_154 dX9_carve_61 ?_
    refine inb_2 hq (fun hi hq => ?_)
    refine x_iast C (isK_lit hdm rfl rfl) hi dX9_carve_64 ?_
    refine nmW hq (fun w12 ew12 hq => ?_)
    rw [← ew12]
    refine x_aload_n C 3 dX9_carve_65 rfl ?_
    refine x_getr (K := 10) (k := 1) (o2 := 51) C (isK_lit hdm rfl rfl) (by decide) cl_X9 (by decide) ⟨rfl, rfl, rfl⟩ fl_X9_17 rfl dX9_carve_66 ?_
    refine x_bipush (v := 7) C dX9_carve_69 (by decide +kernel) ?_
    refine x_dup2 C rfl rfl dX9_carve_71 ?_
    refine inb_2 hq (fun hi hq => ?_)
    refine x_iald C (isK_lit hdm rfl rfl) hi dX9_carve_72 ?_
    refine x_aload_n C 3 dX9_carve_73 rfl ?_
    refine x_get (K := 10) (k := 10) C (isK_lit hdm rfl rfl) (by decide) cl_X9 (by decide) ⟨rfl, rfl, rfl⟩ fl_X9_157 dX9_carve_74 ?_
    refine x_iadd C dX9_carve_77 ?_
    refine inb_2 hq (fun hi hq => ?_)
    refine x_iast C (isK_lit hdm rfl rfl) hi dX9_carve_78 ?_
    refine x_aload_n C 3 dX9_carve_79 rfl ?_
    refine x_getr (K := 10) (k := 1) (o2 := 51) C (isK_lit hdm rfl rfl) (by decide) cl_X9 (by decide) ⟨rfl, rfl, rfl⟩ fl_X9_17 rfl dX9_carve_80 ?_
    refine x_bipush (v := 6) C dX9_carve_83 (by decide +kernel) ?_
    refine x_dup2 C rfl rfl dX9_carve_85 ?_
    refine inb_2 hq (fun hi hq => ?_)
    refine x_iald C (isK_lit hdm rfl rfl) hi dX9_carve_86 ?_
    refine x_iload C 0 dX9_carve_87 rfl ?_
    refine x_iadd C dX9_carve_89 ?_
    refine inb_2 hq (fun hi hq => ?_)
    refine x_iast C (isK_lit hdm rfl rfl) hi dX9_carve_90 ?_
    refine nmW hq (fun w13 ew13 hq => ?_)
    rw [← ew13]
    refine x_iload C 0 dX9_carve_91 rfl ?_
    exact hR _ _ _ _ hq rfl dX9_carve_93
  · refine x_iconst C dX9_carve_16 ?_
    exact hR _ _ _ _ hq rfl dX9_carve_17
set_option maxRecDepth 100000 in
set_option maxHeartbeats 4000000 in
theorem c_X9_carve (l : Launch) (G : Gd) {dm na : Nat} {ad : Nat → Nat} (hdm : dm = 1) {x1 : Int} {w w' : Wd} {r : Int}  (hq : p_X9_carve x1 w = some (r, w')) : mI l yX9_carve cX9_carve 5 (some .int) (rmv 9 213 0 0) G dm na ad [.ref (ad (50)), iV (x1)] w r w' := by
  refine met_I [(0, .ref (ad (50))), (1, iV (x1))] (by decide) (Nat.le_of_ble_eq_true rfl) rfl .int rfl (fun g d C S hR => ?_)
  obtain ⟨rfl, hR0, rfl, rfl, rfl, hA⟩ := S
  exact L_X9_carve (d := (na, ad, 0, 0)) C hdm hA hR0 ⟨Nat.zero_le _, Nat.zero_le _⟩ hR  _ w hq
set_option maxRecDepth 100000 in
set_option maxHeartbeats 4000000 in
theorem L_X9_sharpen {g : Cx} {d : Dl} (C : CX g cX9_sharpen 2 (some .int) RX9) (hdm : g.dm = 1) (hA : ∀ q : Nat, g.s.heap.size ≤ q → g.A q) (hR0 : g.R = rmv 2 42 0 0) (hce : d.ce ≤ g.R.cells ∧ d.so ≤ g.R.slots) {res : Int × Wd} (hR : rtI g d cX9_sharpen .int res)  (w : Wd) (hq : p_X9_sharpen  w = some res) : XG g d (hP g d w) [(0, .ref (d.ad (50)))] [] 0 := by
  refine x_aload_n C 0 dX9_sharpen_0 rfl ?_
  refine x_iconst C dX9_sharpen_1 ?_
  refine x_put (K := 10) (k := 0) C (isK_lit hdm rfl rfl) (by decide) cl_X9 (by decide) ⟨rfl, rfl, rfl, rfl⟩ fl_X9_3 ⟨rfl, rfl⟩ dX9_sharpen_2 ?_
  refine x_aload_n C 0 dX9_sharpen_5 rfl ?_
  refine x_callVv (K := 10) (rm := rmv 1 22 0 0) (As := []) (rest := []) C hA hR0 mf_X9_remember lk_X9_333 rfl (isK_lit hdm rfl rfl) (by decide) ⟨rfl, rfl⟩ ⟨Nat.le_of_ble_eq_true rfl, Nat.le_of_ble_eq_true rfl⟩ rfl rfl (Nat.le_of_ble_eq_true rfl) hce dX9_sharpen_6 hq (fun _ h => c_X9_remember g.l g.G hdm  h) (fun w1 _ hq => ?_)
  refine x_aload_n C 0 dX9_sharpen_9 rfl ?_
  refine x_getr (K := 10) (k := 1) (o2 := 51) C (isK_lit hdm rfl rfl) (by decide) cl_X9 (by decide) ⟨rfl, rfl, rfl⟩ fl_X9_17 rfl dX9_sharpen_10 ?_
  refine x_iconst C dX9_sharpen_13 ?_
  refine inb_2 hq (fun hi hq => ?_)
  refine x_iald C (isK_lit hdm rfl rfl) hi dX9_sharpen_14 ?_
  refine x_istore_n (lv' := [(1, iV (gA w1 51 5)), (0, .ref (d.ad (50)))]) C dX9_sharpen_15 (by decide) rfl ?_
  refine x_aload_n C 1 dX9_sharpen_16 rfl ?_
  refine x_getr (K := 10) (k := 1) (o2 := 51) C (isK_lit hdm rfl rfl) (by decide) cl_X9 (by decide) ⟨rfl, rfl, rfl⟩ fl_X9_17 rfl dX9_sharpen_17 ?_
  refine x_iconst C dX9_sharpen_20 ?_
  refine x_aload_n C 1 dX9_sharpen_21 rfl ?_
  refine x_getr (K := 10) (k := 1) (o2 := 51) C (isK_lit hdm rfl rfl) (by decide) cl_X9 (by decide) ⟨rfl, rfl, rfl⟩ fl_X9_17 rfl dX9_sharpen_22 ?_
  refine x_iconst C dX9_sharpen_25 ?_
  refine inb_2 hq (fun hi hq => ?_)
  refine x_iald C (isK_lit hdm rfl rfl) hi dX9_sharpen_26 ?_
  refine inb_2 hq (fun hi hq => ?_)
  refine x_iast C (isK_lit hdm rfl rfl) hi dX9_sharpen_27 ?_
  refine x_aload_n C 1 dX9_sharpen_28 rfl ?_
  refine x_getr (K := 10) (k := 1) (o2 := 51) C (isK_lit hdm rfl rfl) (by decide) cl_X9 (by decide) ⟨rfl, rfl, rfl⟩ fl_X9_17 rfl dX9_sharpen_29 ?_
  refine x_bipush (v := 6) C dX9_sharpen_32 (by decide +kernel) ?_
  refine x_dup2 C rfl rfl dX9_sharpen_34 ?_
  refine inb_2 hq (fun hi hq => ?_)
  refine x_iald C (isK_lit hdm rfl rfl) hi dX9_sharpen_35 ?_
  refine x_aload_n C 1 dX9_sharpen_36 rfl ?_
  refine x_getr (K := 10) (k := 1) (o2 := 51) C (isK_lit hdm rfl rfl) (by decide) cl_X9 (by decide) ⟨rfl, rfl, rfl⟩ fl_X9_17 rfl dX9_sharpen_37 ?_
  refine x_iconst C dX9_sharpen_40 ?_
  refine inb_2 hq (fun hi hq => ?_)
  refine x_iald C (isK_lit hdm rfl rfl) hi dX9_sharpen_41 ?_
  refine x_iadd C dX9_sharpen_42 ?_
  refine inb_2 hq (fun hi hq => ?_)
  refine x_iast C (isK_lit hdm rfl rfl) hi dX9_sharpen_43 ?_
  refine nmW hq (fun w2 ew2 hq => ?_)
  rw [← ew2]
  refine x_aload_n C 1 dX9_sharpen_44 rfl ?_
  refine x_getr (K := 10) (k := 1) (o2 := 51) C (isK_lit hdm rfl rfl) (by decide) cl_X9 (by decide) ⟨rfl, rfl, rfl⟩ fl_X9_17 rfl dX9_sharpen_45 ?_
  refine x_bipush (v := 7) C dX9_sharpen_48 (by decide +kernel) ?_
  refine x_dup2 C rfl rfl dX9_sharpen_50 ?_
  refine inb_2 hq (fun hi hq => ?_)
  refine x_iald C (isK_lit hdm rfl rfl) hi dX9_sharpen_51 ?_
  refine x_iconst C dX9_sharpen_52 ?_
  refine x_iadd C dX9_sharpen_53 ?_
  refine inb_2 hq (fun hi hq => ?_)
  refine x_iast C (isK_lit hdm rfl rfl) hi dX9_sharpen_54 ?_
  refine x_iload_n C 0 dX9_sharpen_55 rfl ?_
  exact hR _ _ _ _ hq rfl dX9_sharpen_56
set_option maxRecDepth 100000 in
set_option maxHeartbeats 4000000 in
theorem c_X9_sharpen (l : Launch) (G : Gd) {dm na : Nat} {ad : Nat → Nat} (hdm : dm = 1)  {w w' : Wd} {r : Int}  (hq : p_X9_sharpen  w = some (r, w')) : mI l yX9_sharpen cX9_sharpen 2 (some .int) (rmv 2 42 0 0) G dm na ad [.ref (ad (50))] w r w' := by
  refine met_I [(0, .ref (ad (50)))] (by decide) (Nat.le_of_ble_eq_true rfl) rfl .int rfl (fun g d C S hR => ?_)
  obtain ⟨rfl, hR0, rfl, rfl, rfl, hA⟩ := S
  exact L_X9_sharpen (d := (na, ad, 0, 0)) C hdm hA hR0 ⟨Nat.zero_le _, Nat.zero_le _⟩ hR   w hq
set_option maxRecDepth 100000 in
set_option maxHeartbeats 4000000 in
theorem L_X9_setChisel_25 {g : Cx} {d : Dl} (C : CX g cX9_setChisel 4 (some .int) RX9) (hdm : g.dm = 1) (hA : ∀ q : Nat, g.s.heap.size ≤ q → g.A q) (hR0 : g.R = rmv 2 45 0 0) (hce : d.ce ≤ g.R.cells ∧ d.so ≤ g.R.slots) {res : Int × Wd} (hR : rtI g d cX9_setChisel .int res) (x1 : Int) (x2 : Int) (s0 : Int) (w : Wd) (hq : p_X9_setChisel_25 x1 x2 s0 w = some res) : XG g d (hP g d w) [(0, .ref (d.ad (50))), (1, iV (x1)), (2, iV (x2))] [iV (s0), .ref (d.ad (50))] 25 := by
  refine x_callVi (K := 10) (rm := rmv 1 23 0 0) (As := [iV (s0)]) (rest := []) C hA hR0 mf_X9_passes lk_X9_191 rfl (isK_lit hdm rfl rfl) (by decide) ⟨rfl, rfl⟩ ⟨Nat.le_of_ble_eq_true rfl, Nat.le_of_ble_eq_true rfl⟩ rfl rfl (Nat.le_of_ble_eq_true rfl) hce dX9_setChisel_25 hq (fun _ _ h => c_X9_passes g.l g.G hdm  h) (fun r2 w1 _ hq => ?_)
  refine x_if_ne (tgt := 33) C dX9_setChisel_28 (by decide) hq (fun hq => ?_) (fun hq => ?_)
  · refine x_aload_n C 0 dX9_setChisel_33 rfl ?_
    refine x_callVv (K := 10) (rm := rmv 1 22 0 0) (As := []) (rest := []) C hA hR0 mf_X9_remember lk_X9_333 rfl (isK_lit hdm rfl rfl) (by decide) ⟨rfl, rfl⟩ ⟨Nat.le_of_ble_eq_true rfl, Nat.le_of_ble_eq_true rfl⟩ rfl rfl (Nat.le_of_ble_eq_true rfl) hce dX9_setChisel_34 hq (fun _ h => c_X9_remember g.l g.G hdm  h) (fun w3 _ hq => ?_)
    refine x_bipush (v := 100) C dX9_setChisel_37 (by decide +kernel) ?_
    refine x_aload_n C 0 dX9_setChisel_39 rfl ?_
    refine x_getr (K := 10) (k := 1) (o2 := 51) C (isK_lit hdm rfl rfl) (by decide) cl_X9 (by decide) ⟨rfl, rfl, rfl⟩ fl_X9_17 rfl dX9_setChisel_40 ?_
    refine x_iconst C dX9_setChisel_43 ?_
    refine inb_2 hq (fun hi hq => ?_)
    refine x_iald C (isK_lit hdm rfl rfl) hi dX9_setChisel_44 ?_
    refine x_imul C dX9_setChisel_45 ?_
    refine x_aload_n C 0 dX9_setChisel_46 rfl ?_
    refine x_getr (K := 10) (k := 1) (o2 := 51) C (isK_lit hdm rfl rfl) (by decide) cl_X9 (by decide) ⟨rfl, rfl, rfl⟩ fl_X9_17 rfl dX9_setChisel_47 ?_
    refine x_iconst C dX9_setChisel_50 ?_
    refine inb_2 hq (fun hi hq => ?_)
    refine x_iald C (isK_lit hdm rfl rfl) hi dX9_setChisel_51 ?_
    refine x_iadd C dX9_setChisel_52 ?_
    refine x_istore_n (lv' := [(3, iV ((100 * (gA w3 51 3)) + (gA w3 51 4))), (0, .ref (d.ad (50))), (1, iV (x1)), (2, iV (x2))]) C dX9_setChisel_53 (by decide) rfl ?_
    refine x_aload_n C 1 dX9_setChisel_54 rfl ?_
    refine x_getr (K := 10) (k := 1) (o2 := 51) C (isK_lit hdm rfl rfl) (by decide) cl_X9 (by decide) ⟨rfl, rfl, rfl⟩ fl_X9_17 rfl dX9_setChisel_55 ?_
    refine x_iconst C dX9_setChisel_58 ?_
    refine x_iload_n C 2 dX9_setChisel_59 rfl ?_
    refine inb_2 hq (fun hi hq => ?_)
    refine x_iast C (isK_lit hdm rfl rfl) hi dX9_setChisel_60 ?_
    refine x_aload_n C 1 dX9_setChisel_61 rfl ?_
    refine x_getr (K := 10) (k := 1) (o2 := 51) C (isK_lit hdm rfl rfl) (by decide) cl_X9 (by decide) ⟨rfl, rfl, rfl⟩ fl_X9_17 rfl dX9_setChisel_62 ?_
    refine x_iconst C dX9_setChisel_65 ?_
    refine x_iload_n C 2 dX9_setChisel_66 rfl ?_
    refine inb_2 hq (fun hi hq => ?_)
    refine x_iast C (isK_lit hdm rfl rfl) hi dX9_setChisel_67 ?_
    refine nmW hq (fun w4 ew4 hq => ?_)
    rw [← ew4]
    refine x_aload_n C 1 dX9_setChisel_68 rfl ?_
    refine x_getr (K := 10) (k := 1) (o2 := 51) C (isK_lit hdm rfl rfl) (by decide) cl_X9 (by decide) ⟨rfl, rfl, rfl⟩ fl_X9_17 rfl dX9_setChisel_69 ?_
    refine x_iconst C dX9_setChisel_72 ?_
    refine x_iload_n C 3 dX9_setChisel_73 rfl ?_
    refine inb_2 hq (fun hi hq => ?_)
    refine x_iast C (isK_lit hdm rfl rfl) hi dX9_setChisel_74 ?_
    refine x_iload_n C 0 dX9_setChisel_75 rfl ?_
    exact hR _ _ _ _ hq rfl dX9_setChisel_76
  · refine x_iconst C dX9_setChisel_31 ?_
    exact hR _ _ _ _ hq rfl dX9_setChisel_32
set_option maxRecDepth 100000 in
set_option maxHeartbeats 4000000 in
theorem L_X9_setChisel_24 {g : Cx} {d : Dl} (C : CX g cX9_setChisel 4 (some .int) RX9) (hdm : g.dm = 1) (hA : ∀ q : Nat, g.s.heap.size ≤ q → g.A q) (hR0 : g.R = rmv 2 45 0 0) (hce : d.ce ≤ g.R.cells ∧ d.so ≤ g.R.slots) {res : Int × Wd} (hR : rtI g d cX9_setChisel .int res) (x1 : Int) (x2 : Int) (w : Wd) (hq : p_X9_setChisel_24 x1 x2 w = some res) : XG g d (hP g d w) [(0, .ref (d.ad (50))), (1, iV (x1)), (2, iV (x2))] [.ref (d.ad (50))] 24 := by
  refine x_iconst C dX9_setChisel_24 ?_
  exact L_X9_setChisel_25 C hdm hA hR0 hce hR _ _ _ _ hq
set_option maxRecDepth 100000 in
set_option maxHeartbeats 4000000 in
theorem L_X9_setChisel {g : Cx} {d : Dl} (C : CX g cX9_setChisel 4 (some .int) RX9) (hdm : g.dm = 1) (hA : ∀ q : Nat, g.s.heap.size ≤ q → g.A q) (hR0 : g.R = rmv 2 45 0 0) (hce : d.ce ≤ g.R.cells ∧ d.so ≤ g.R.slots) {res : Int × Wd} (hR : rtI g d cX9_setChisel .int res) (x1 : Int) (x2 : Int) (w : Wd) (hq : p_X9_setChisel x1 x2 w = some res) : XG g d (hP g d w) [(0, .ref (d.ad (50))), (1, iV (x1)), (2, iV (x2))] [] 0 := by
  refine x_aload_n C 0 dX9_setChisel_0 rfl ?_
  refine x_iload_n C 1 dX9_setChisel_1 rfl ?_
  refine x_callSi (rm := rmv 1 25 0 0) (As := [iV (x1)]) (rest := [.ref (d.ad (50))]) C hA hR0 mf_X9_isSharp lk_X9_382 ⟨rfl, rfl⟩ ⟨Nat.le_of_ble_eq_true rfl, Nat.le_of_ble_eq_true rfl⟩ rfl rfl (Nat.le_of_ble_eq_true rfl) hce dX9_setChisel_2 hq (fun _ _ h => c_X9_isSharp g.l g.G hdm  h) (fun r2 w1 _ hq => ?_)
  refine x_if_eq (tgt := 24) C dX9_setChisel_5 (by decide) hq (fun hq => ?_) (fun hq => ?_)
  · exact L_X9_setChisel_24 C hdm hA hR0 hce hR _ _ _ hq
  · refine x_iload_n C 2 dX9_setChisel_8 rfl ?_
    refine x_i2l C dX9_setChisel_9 ?_
    refine x_lconst C dX9_setChisel_10 ?_
    refine x_ldc2 (v := 99) C rfl kl_X9_435 dX9_setChisel_11 ?_
    refine x_callSi (rm := rmv 0 0 0 0) (As := [jV (w32 x2), jV (0), jV (99)]) (rest := [.ref (d.ad (50))]) C hA hR0 mf_X9_in lk_X9_75 ⟨rfl, rfl⟩ ⟨Nat.le_of_ble_eq_true rfl, Nat.le_of_ble_eq_true rfl⟩ rfl rfl (Nat.le_of_ble_eq_true rfl) hce dX9_setChisel_14 hq (fun _ _ h => c_X9_in g.l g.G hdm  h) (fun r4 w3 _ hq => ?_)
    refine x_if_eq (tgt := 24) C dX9_setChisel_17 (by decide) hq (fun hq => ?_) (fun hq => ?_)
    · exact L_X9_setChisel_24 C hdm hA hR0 hce hR _ _ _ hq
    · refine x_iconst C dX9_setChisel_20 ?_
      refine x_goto (tgt := 25) C dX9_setChisel_21 (by decide) ?_
      exact L_X9_setChisel_25 C hdm hA hR0 hce hR _ _ _ _ hq
set_option maxRecDepth 100000 in
set_option maxHeartbeats 4000000 in
theorem c_X9_setChisel (l : Launch) (G : Gd) {dm na : Nat} {ad : Nat → Nat} (hdm : dm = 1) {x1 : Int} {x2 : Int} {w w' : Wd} {r : Int}  (hq : p_X9_setChisel x1 x2 w = some (r, w')) : mI l yX9_setChisel cX9_setChisel 4 (some .int) (rmv 2 45 0 0) G dm na ad [.ref (ad (50)), iV (x1), iV (x2)] w r w' := by
  refine met_I [(0, .ref (ad (50))), (1, iV (x1)), (2, iV (x2))] (by decide) (Nat.le_of_ble_eq_true rfl) rfl .int rfl (fun g d C S hR => ?_)
  obtain ⟨rfl, hR0, rfl, rfl, rfl, hA⟩ := S
  exact L_X9_setChisel (d := (na, ad, 0, 0)) C hdm hA hR0 ⟨Nat.zero_le _, Nat.zero_le _⟩ hR  _ _ w hq
set_option maxRecDepth 100000 in
set_option maxHeartbeats 4000000 in
theorem L_X9_isKeep {g : Cx} {d : Dl} (C : CX g cX9_isKeep 1 (some .boolean) RX9) (hdm : g.dm = 1) (hA : ∀ q : Nat, g.s.heap.size ≤ q → g.A q) (hR0 : g.R = rmv 1 25 0 0) (hce : d.ce ≤ g.R.cells ∧ d.so ≤ g.R.slots) {res : Int × Wd} (hR : rtI g d cX9_isKeep .boolean res) (x0 : Int) (w : Wd) (hq : p_X9_isKeep x0 w = some res) : XG g d (hP g d w) [(0, iV (x0))] [] 0 := by
  refine x_iload_n C 0 dX9_isKeep_0 rfl ?_
  refine x_i2l C dX9_isKeep_1 ?_
  refine x_lconst C dX9_isKeep_2 ?_
  refine x_lconst C dX9_isKeep_3 ?_
  refine x_callSi (rm := rmv 0 0 0 0) (As := [jV (w32 x0), jV (0), jV (1)]) (rest := []) C hA hR0 mf_X9_in lk_X9_75 ⟨rfl, rfl⟩ ⟨Nat.le_of_ble_eq_true rfl, Nat.le_of_ble_eq_true rfl⟩ rfl rfl (Nat.le_of_ble_eq_true rfl) hce dX9_isKeep_4 hq (fun _ _ h => c_X9_in g.l g.G hdm  h) (fun r2 w1 _ hq => ?_)
  exact hR _ _ _ _ (zr_2 hq) (zr_1 hq) dX9_isKeep_7
set_option maxRecDepth 100000 in
set_option maxHeartbeats 4000000 in
theorem c_X9_isKeep (l : Launch) (G : Gd) {dm na : Nat} {ad : Nat → Nat} (hdm : dm = 1) {x0 : Int} {w w' : Wd} {r : Int}  (hq : p_X9_isKeep x0 w = some (r, w')) : mI l yX9_isKeep cX9_isKeep 1 (some .boolean) (rmv 1 25 0 0) G dm na ad [iV (x0)] w r w' := by
  refine met_I [(0, iV (x0))] (by decide) (Nat.le_of_ble_eq_true rfl) rfl .boolean rfl (fun g d C S hR => ?_)
  obtain ⟨rfl, hR0, rfl, rfl, rfl, hA⟩ := S
  exact L_X9_isKeep (d := (na, ad, 0, 0)) C hdm hA hR0 ⟨Nat.zero_le _, Nat.zero_le _⟩ hR  _ w hq
set_option maxRecDepth 100000 in
set_option maxHeartbeats 4000000 in
theorem L_X9_keep_46 {g : Cx} {d : Dl} (C : CX g cX9_keep 3 (some .int) RX9) (hdm : g.dm = 1) (hA : ∀ q : Nat, g.s.heap.size ≤ q → g.A q) (hR0 : g.R = rmv 2 45 0 0) (hce : d.ce ≤ g.R.cells ∧ d.so ≤ g.R.slots) {res : Int × Wd} (hR : rtI g d cX9_keep .int res) (x1 : Int) (w : Wd) (hq : p_X9_keep_46 x1 w = some res) : XG g d (hP g d w) [(0, .ref (d.ad (50))), (1, iV (x1))] [] 46 := by
  refine x_aload_n C 0 dX9_keep_46 rfl ?_
  refine x_getr (K := 10) (k := 29) (o2 := 62) C (isK_lit hdm rfl rfl) (by decide) cl_X9 (by decide) ⟨rfl, rfl, rfl⟩ fl_X9_58 rfl dX9_keep_47 ?_
  refine x_iload_n C 1 dX9_keep_50 rfl ?_
  refine x_iconst C dX9_keep_51 ?_
  refine inb_2 hq (fun hi hq => ?_)
  refine x_zast1 C (isK_lit hdm rfl rfl) hi dX9_keep_52 ?_
  refine x_aload_n C 0 dX9_keep_53 rfl ?_
  refine x_getr (K := 10) (k := 1) (o2 := 51) C (isK_lit hdm rfl rfl) (by decide) cl_X9 (by decide) ⟨rfl, rfl, rfl⟩ fl_X9_17 rfl dX9_keep_54 ?_
  refine x_bipush (v := 8) C dX9_keep_57 (by decide +kernel) ?_
  refine inb_2 hq (fun hi hq => ?_)
  refine x_iald C (isK_lit hdm rfl rfl) hi dX9_keep_59 ?_
  exact hR _ _ _ _ hq rfl dX9_keep_60
set_option maxRecDepth 100000 in
set_option maxHeartbeats 4000000 in
theorem L_X9_keep_15 {g : Cx} {d : Dl} (C : CX g cX9_keep 3 (some .int) RX9) (hdm : g.dm = 1) (hA : ∀ q : Nat, g.s.heap.size ≤ q → g.A q) (hR0 : g.R = rmv 2 45 0 0) (hce : d.ce ≤ g.R.cells ∧ d.so ≤ g.R.slots) {res : Int × Wd} (hR : rtI g d cX9_keep .int res) : ∀ (n : Nat) (x1 : Int) (x2 : Int) (w : Wd), p_X9_keep_15 n x1 x2 w = some res → XG g d (hP g d w) [(0, .ref (d.ad (50))), (1, iV (x1)), (2, iV (x2))] [] 15 := by
  intro n
  induction n with
  | zero => intro x1 x2 w  hq; exact nomatch (show none = some _ from hq)
  | succ n ih =>
    intro x1 x2 w  hq
    refine x_iload_n C 2 dX9_keep_15 rfl ?_
    refine x_sipush (v := 1099) C dX9_keep_16 (by decide +kernel) ?_
    refine x_icmp_ge (tgt := 46) C dX9_keep_19 (by decide) hq (fun hq => ?_) (fun hq => ?_)
    · refine XG.sub [0, 1] rfl ?_
      exact L_X9_keep_46 C hdm hA hR0 hce hR _ _ hq
    · refine x_aload_n C 0 dX9_keep_22 rfl ?_
      refine x_getr (K := 10) (k := 28) (o2 := 61) C (isK_lit hdm rfl rfl) (by decide) cl_X9 (by decide) ⟨rfl, rfl, rfl⟩ fl_X9_55 rfl dX9_keep_23 ?_
      refine x_sipush (v := 1099) C dX9_keep_26 (by decide +kernel) ?_
      refine x_iload_n C 1 dX9_keep_29 rfl ?_
      refine x_imul C dX9_keep_30 ?_
      refine x_iload_n C 2 dX9_keep_31 rfl ?_
      refine x_iadd C dX9_keep_32 ?_
      refine x_aload_n C 0 dX9_keep_33 rfl ?_
      refine x_getr (K := 10) (k := 1) (o2 := 51) C (isK_lit hdm rfl rfl) (by decide) cl_X9 (by decide) ⟨rfl, rfl, rfl⟩ fl_X9_17 rfl dX9_keep_34 ?_
      refine x_iload_n C 2 dX9_keep_37 rfl ?_
      refine inb_2 hq (fun hi hq => ?_)
      refine x_iald C (isK_lit hdm rfl rfl) hi dX9_keep_38 ?_
      refine inb_2 hq (fun hi hq => ?_)
      refine x_iast C (isK_lit hdm rfl rfl) hi dX9_keep_39 ?_
      refine x_iinc (lv' := [(2, iV (x2 + 1)), (0, .ref (d.ad (50))), (1, iV (x1))]) C 2 dX9_keep_40 rfl (by decide) rfl ?_
      refine x_goto (tgt := 15) C dX9_keep_43 (by decide) ?_
      refine XG.sub [1, 2, 0] rfl ?_
      exact ih _ _ _ hq
set_option maxRecDepth 100000 in
set_option maxHeartbeats 4000000 in
theorem L_X9_keep {g : Cx} {d : Dl} (C : CX g cX9_keep 3 (some .int) RX9) (hdm : g.dm = 1) (hA : ∀ q : Nat, g.s.heap.size ≤ q → g.A q) (hR0 : g.R = rmv 2 45 0 0) (hce : d.ce ≤ g.R.cells ∧ d.so ≤ g.R.slots) {res : Int × Wd} (hR : rtI g d cX9_keep .int res) (x1 : Int) (w : Wd) (hq : p_X9_keep x1 w = some res) : XG g d (hP g d w) [(0, .ref (d.ad (50))), (1, iV (x1))] [] 0 := by
  refine x_aload_n C 0 dX9_keep_0 rfl ?_
  refine x_iload_n C 1 dX9_keep_1 rfl ?_
  refine x_callSi (rm := rmv 1 25 0 0) (As := [iV (x1)]) (rest := [.ref (d.ad (50))]) C hA hR0 mf_X9_isKeep lk_X9_437 ⟨rfl, rfl⟩ ⟨Nat.le_of_ble_eq_true rfl, Nat.le_of_ble_eq_true rfl⟩ rfl rfl (Nat.le_of_ble_eq_true rfl) hce dX9_keep_2 hq (fun _ _ h => c_X9_isKeep g.l g.G hdm  h) (fun r2 w1 _ hq => ?_)
  refine x_callVi (K := 10) (rm := rmv 1 23 0 0) (As := [iV (r2)]) (rest := []) C hA hR0 mf_X9_passes lk_X9_191 rfl (isK_lit hdm rfl rfl) (by decide) ⟨rfl, rfl⟩ ⟨Nat.le_of_ble_eq_true rfl, Nat.le_of_ble_eq_true rfl⟩ rfl rfl (Nat.le_of_ble_eq_true rfl) hce dX9_keep_5 hq (fun _ _ h => c_X9_passes g.l g.G hdm  h) (fun r4 w3 _ hq => ?_)
  refine x_if_ne (tgt := 13) C dX9_keep_8 (by decide) hq (fun hq => ?_) (fun hq => ?_)
  · refine x_iconst C dX9_keep_13 ?_
    refine x_istore_n (lv' := [(2, iV (0)), (0, .ref (d.ad (50))), (1, iV (x1))]) C dX9_keep_14 (by decide) rfl ?_
    refine XG.sub [1, 2, 0] rfl ?_
    exact L_X9_keep_15 C hdm hA hR0 hce hR _ _ _ _ hq
  · refine x_iconst C dX9_keep_11 ?_
    exact hR _ _ _ _ hq rfl dX9_keep_12
set_option maxRecDepth 100000 in
set_option maxHeartbeats 4000000 in
theorem c_X9_keep (l : Launch) (G : Gd) {dm na : Nat} {ad : Nat → Nat} (hdm : dm = 1) {x1 : Int} {w w' : Wd} {r : Int}  (hq : p_X9_keep x1 w = some (r, w')) : mI l yX9_keep cX9_keep 3 (some .int) (rmv 2 45 0 0) G dm na ad [.ref (ad (50)), iV (x1)] w r w' := by
  refine met_I [(0, .ref (ad (50))), (1, iV (x1))] (by decide) (Nat.le_of_ble_eq_true rfl) rfl .int rfl (fun g d C S hR => ?_)
  obtain ⟨rfl, hR0, rfl, rfl, rfl, hA⟩ := S
  exact L_X9_keep (d := (na, ad, 0, 0)) C hdm hA hR0 ⟨Nat.zero_le _, Nat.zero_le _⟩ hR  _ w hq
set_option maxRecDepth 100000 in
set_option maxHeartbeats 4000000 in
theorem L_X9_restore_71 {g : Cx} {d : Dl} (C : CX g cX9_restore 3 (some .int) RX9) (hdm : g.dm = 1) (hA : ∀ q : Nat, g.s.heap.size ≤ q → g.A q) (hR0 : g.R = rmv 2 45 0 0) (hce : d.ce ≤ g.R.cells ∧ d.so ≤ g.R.slots) {res : Int × Wd} (hR : rtI g d cX9_restore .int res)  (w : Wd) (hq : p_X9_restore_71 w = some res) : XG g d (hP g d w) [(0, .ref (d.ad (50)))] [] 71 := by
  refine x_aload_n C 0 dX9_restore_71 rfl ?_
  refine x_getr (K := 10) (k := 1) (o2 := 51) C (isK_lit hdm rfl rfl) (by decide) cl_X9 (by decide) ⟨rfl, rfl, rfl⟩ fl_X9_17 rfl dX9_restore_72 ?_
  refine x_bipush (v := 8) C dX9_restore_75 (by decide +kernel) ?_
  refine inb_2 hq (fun hi hq => ?_)
  refine x_iald C (isK_lit hdm rfl rfl) hi dX9_restore_77 ?_
  exact hR _ _ _ _ hq rfl dX9_restore_78
set_option maxRecDepth 100000 in
set_option maxHeartbeats 4000000 in
theorem L_X9_restore_40 {g : Cx} {d : Dl} (C : CX g cX9_restore 3 (some .int) RX9) (hdm : g.dm = 1) (hA : ∀ q : Nat, g.s.heap.size ≤ q → g.A q) (hR0 : g.R = rmv 2 45 0 0) (hce : d.ce ≤ g.R.cells ∧ d.so ≤ g.R.slots) {res : Int × Wd} (hR : rtI g d cX9_restore .int res) : ∀ (n : Nat) (x1 : Int) (x2 : Int) (w : Wd), p_X9_restore_40 n x1 x2 w = some res → XG g d (hP g d w) [(0, .ref (d.ad (50))), (1, iV (x1)), (2, iV (x2))] [] 40 := by
  intro n
  induction n with
  | zero => intro x1 x2 w  hq; exact nomatch (show none = some _ from hq)
  | succ n ih =>
    intro x1 x2 w  hq
    refine x_iload_n C 2 dX9_restore_40 rfl ?_
    refine x_sipush (v := 1099) C dX9_restore_41 (by decide +kernel) ?_
    refine x_icmp_ge (tgt := 71) C dX9_restore_44 (by decide) hq (fun hq => ?_) (fun hq => ?_)
    · refine XG.sub [0] rfl ?_
      exact L_X9_restore_71 C hdm hA hR0 hce hR _ hq
    · refine x_aload_n C 0 dX9_restore_47 rfl ?_
      refine x_getr (K := 10) (k := 1) (o2 := 51) C (isK_lit hdm rfl rfl) (by decide) cl_X9 (by decide) ⟨rfl, rfl, rfl⟩ fl_X9_17 rfl dX9_restore_48 ?_
      refine x_iload_n C 2 dX9_restore_51 rfl ?_
      refine x_aload_n C 0 dX9_restore_52 rfl ?_
      refine x_getr (K := 10) (k := 28) (o2 := 61) C (isK_lit hdm rfl rfl) (by decide) cl_X9 (by decide) ⟨rfl, rfl, rfl⟩ fl_X9_55 rfl dX9_restore_53 ?_
      refine x_sipush (v := 1099) C dX9_restore_56 (by decide +kernel) ?_
      refine x_iload_n C 1 dX9_restore_59 rfl ?_
      refine x_imul C dX9_restore_60 ?_
      refine x_iload_n C 2 dX9_restore_61 rfl ?_
      refine x_iadd C dX9_restore_62 ?_
      refine inb_2 hq (fun hi hq => ?_)
      refine x_iald C (isK_lit hdm rfl rfl) hi dX9_restore_63 ?_
      refine inb_2 hq (fun hi hq => ?_)
      refine x_iast C (isK_lit hdm rfl rfl) hi dX9_restore_64 ?_
      refine x_iinc (lv' := [(2, iV (x2 + 1)), (0, .ref (d.ad (50))), (1, iV (x1))]) C 2 dX9_restore_65 rfl (by decide) rfl ?_
      refine x_goto (tgt := 40) C dX9_restore_68 (by decide) ?_
      refine XG.sub [1, 2, 0] rfl ?_
      exact ih _ _ _ hq
set_option maxRecDepth 100000 in
set_option maxHeartbeats 4000000 in
theorem L_X9_restore_26 {g : Cx} {d : Dl} (C : CX g cX9_restore 3 (some .int) RX9) (hdm : g.dm = 1) (hA : ∀ q : Nat, g.s.heap.size ≤ q → g.A q) (hR0 : g.R = rmv 2 45 0 0) (hce : d.ce ≤ g.R.cells ∧ d.so ≤ g.R.slots) {res : Int × Wd} (hR : rtI g d cX9_restore .int res) (x1 : Int) (s0 : Int) (s1 : Int) (w : Wd) (hq : p_X9_restore_26 x1 s0 s1 w = some res) : XG g d (hP g d w) [(0, .ref (d.ad (50))), (1, iV (x1))] [iV (s0), iV (s1), .ref (d.ad (50))] 26 := by
  refine x_callVi (K := 10) (rm := rmv 1 23 0 0) (As := [iV (s1), iV (s0)]) (rest := []) C hA hR0 mf_X9_passes2 lk_X9_349 rfl (isK_lit hdm rfl rfl) (by decide) ⟨rfl, rfl⟩ ⟨Nat.le_of_ble_eq_true rfl, Nat.le_of_ble_eq_true rfl⟩ rfl rfl (Nat.le_of_ble_eq_true rfl) hce dX9_restore_26 hq (fun _ _ h => c_X9_passes2 g.l g.G hdm  h) (fun r2 w1 _ hq => ?_)
  refine x_if_ne (tgt := 34) C dX9_restore_29 (by decide) hq (fun hq => ?_) (fun hq => ?_)
  · refine x_aload_n C 0 dX9_restore_34 rfl ?_
    refine x_callVv (K := 10) (rm := rmv 1 22 0 0) (As := []) (rest := []) C hA hR0 mf_X9_remember lk_X9_333 rfl (isK_lit hdm rfl rfl) (by decide) ⟨rfl, rfl⟩ ⟨Nat.le_of_ble_eq_true rfl, Nat.le_of_ble_eq_true rfl⟩ rfl rfl (Nat.le_of_ble_eq_true rfl) hce dX9_restore_35 hq (fun _ h => c_X9_remember g.l g.G hdm  h) (fun w3 _ hq => ?_)
    refine x_iconst C dX9_restore_38 ?_
    refine x_istore_n (lv' := [(2, iV (0)), (0, .ref (d.ad (50))), (1, iV (x1))]) C dX9_restore_39 (by decide) rfl ?_
    refine XG.sub [1, 2, 0] rfl ?_
    exact L_X9_restore_40 C hdm hA hR0 hce hR _ _ _ _ hq
  · refine x_iconst C dX9_restore_32 ?_
    exact hR _ _ _ _ hq rfl dX9_restore_33
set_option maxRecDepth 100000 in
set_option maxHeartbeats 4000000 in
theorem L_X9_restore_21 {g : Cx} {d : Dl} (C : CX g cX9_restore 3 (some .int) RX9) (hdm : g.dm = 1) (hA : ∀ q : Nat, g.s.heap.size ≤ q → g.A q) (hR0 : g.R = rmv 2 45 0 0) (hce : d.ce ≤ g.R.cells ∧ d.so ≤ g.R.slots) {res : Int × Wd} (hR : rtI g d cX9_restore .int res) (x1 : Int) (s0 : Int) (w : Wd) (hq : p_X9_restore_21 x1 s0 w = some res) : XG g d (hP g d w) [(0, .ref (d.ad (50))), (1, iV (x1))] [iV (s0), .ref (d.ad (50))] 21 := by
  refine x_iconst C dX9_restore_21 ?_
  refine x_goto (tgt := 26) C dX9_restore_22 (by decide) ?_
  exact L_X9_restore_26 C hdm hA hR0 hce hR _ _ _ _ hq
set_option maxRecDepth 100000 in
set_option maxHeartbeats 4000000 in
theorem L_X9_restore {g : Cx} {d : Dl} (C : CX g cX9_restore 3 (some .int) RX9) (hdm : g.dm = 1) (hA : ∀ q : Nat, g.s.heap.size ≤ q → g.A q) (hR0 : g.R = rmv 2 45 0 0) (hce : d.ce ≤ g.R.cells ∧ d.so ≤ g.R.slots) {res : Int × Wd} (hR : rtI g d cX9_restore .int res) (x1 : Int) (w : Wd) (hq : p_X9_restore x1 w = some res) : XG g d (hP g d w) [(0, .ref (d.ad (50))), (1, iV (x1))] [] 0 := by
  refine x_aload_n C 0 dX9_restore_0 rfl ?_
  refine x_iload_n C 1 dX9_restore_1 rfl ?_
  refine x_callSi (rm := rmv 1 25 0 0) (As := [iV (x1)]) (rest := [.ref (d.ad (50))]) C hA hR0 mf_X9_isKeep lk_X9_437 ⟨rfl, rfl⟩ ⟨Nat.le_of_ble_eq_true rfl, Nat.le_of_ble_eq_true rfl⟩ rfl rfl (Nat.le_of_ble_eq_true rfl) hce dX9_restore_2 hq (fun _ _ h => c_X9_isKeep g.l g.G hdm  h) (fun r2 w1 _ hq => ?_)
  refine x_iload_n C 1 dX9_restore_5 rfl ?_
  refine x_callSi (rm := rmv 1 25 0 0) (As := [iV (x1)]) (rest := [iV (r2), .ref (d.ad (50))]) C hA hR0 mf_X9_isKeep lk_X9_437 ⟨rfl, rfl⟩ ⟨Nat.le_of_ble_eq_true rfl, Nat.le_of_ble_eq_true rfl⟩ rfl rfl (Nat.le_of_ble_eq_true rfl) hce dX9_restore_6 hq (fun _ _ h => c_X9_isKeep g.l g.G hdm  h) (fun r4 w3 _ hq => ?_)
  refine x_if_eq (tgt := 21) C dX9_restore_9 (by decide) hq (fun hq => ?_) (fun hq => ?_)
  · exact L_X9_restore_21 C hdm hA hR0 hce hR _ _ _ hq
  · refine x_aload_n C 0 dX9_restore_12 rfl ?_
    refine x_getr (K := 10) (k := 29) (o2 := 62) C (isK_lit hdm rfl rfl) (by decide) cl_X9 (by decide) ⟨rfl, rfl, rfl⟩ fl_X9_58 rfl dX9_restore_13 ?_
    refine x_iload_n C 1 dX9_restore_16 rfl ?_
    refine inb_2 hq (fun hi hq => ?_)
    refine x_zald C (isK_lit hdm rfl rfl) hi dX9_restore_17 ?_
    refine x_if_eq (tgt := 25) C dX9_restore_18 (by decide) hq (fun hq => ?_) (fun hq => ?_)
    · refine x_iconst C dX9_restore_25 ?_
      exact L_X9_restore_26 C hdm hA hR0 hce hR _ _ _ _ hq
    · exact L_X9_restore_21 C hdm hA hR0 hce hR _ _ _ hq
set_option maxRecDepth 100000 in
set_option maxHeartbeats 4000000 in
theorem c_X9_restore (l : Launch) (G : Gd) {dm na : Nat} {ad : Nat → Nat} (hdm : dm = 1) {x1 : Int} {w w' : Wd} {r : Int}  (hq : p_X9_restore x1 w = some (r, w')) : mI l yX9_restore cX9_restore 3 (some .int) (rmv 2 45 0 0) G dm na ad [.ref (ad (50)), iV (x1)] w r w' := by
  refine met_I [(0, .ref (ad (50))), (1, iV (x1))] (by decide) (Nat.le_of_ble_eq_true rfl) rfl .int rfl (fun g d C S hR => ?_)
  obtain ⟨rfl, hR0, rfl, rfl, rfl, hA⟩ := S
  exact L_X9_restore (d := (na, ad, 0, 0)) C hdm hA hR0 ⟨Nat.zero_le _, Nat.zero_le _⟩ hR  _ w hq
set_option maxRecDepth 100000 in
set_option maxHeartbeats 4000000 in
theorem L_X9_undo_33 {g : Cx} {d : Dl} (C : CX g cX9_undo 2 (some .int) RX9) (hdm : g.dm = 1) (hA : ∀ q : Nat, g.s.heap.size ≤ q → g.A q) (hR0 : g.R = rmv 2 44 0 0) (hce : d.ce ≤ g.R.cells ∧ d.so ≤ g.R.slots) {res : Int × Wd} (hR : rtI g d cX9_undo .int res) : ∀ (n : Nat) (x1 : Int) (w : Wd), p_X9_undo_33 n x1 w = some res → XG g d (hP g d w) [(0, .ref (d.ad (50))), (1, iV (x1))] [] 33 := by
  intro n
  induction n with
  | zero => intro x1 w  hq; exact nomatch (show none = some _ from hq)
  | succ n ih =>
    intro x1 w  hq
    refine x_iload_n C 1 dX9_undo_33 rfl ?_
    refine x_sipush (v := 1099) C dX9_undo_34 (by decide +kernel) ?_
    refine x_icmp_ge (tgt := 67) C dX9_undo_37 (by decide) hq (fun hq => ?_) (fun hq => ?_)
    · refine x_aload_n C 0 dX9_undo_67 rfl ?_
      refine x_get (K := 10) (k := 31) C (isK_lit hdm rfl rfl) (by decide) cl_X9 (by decide) ⟨rfl, rfl, rfl⟩ fl_X9_440 dX9_undo_68 ?_
      exact hR _ _ _ _ hq rfl dX9_undo_71
    · refine x_aload_n C 0 dX9_undo_40 rfl ?_
      refine x_getr (K := 10) (k := 1) (o2 := 51) C (isK_lit hdm rfl rfl) (by decide) cl_X9 (by decide) ⟨rfl, rfl, rfl⟩ fl_X9_17 rfl dX9_undo_41 ?_
      refine x_iload_n C 1 dX9_undo_44 rfl ?_
      refine x_aload_n C 0 dX9_undo_45 rfl ?_
      refine x_getr (K := 10) (k := 30) (o2 := 63) C (isK_lit hdm rfl rfl) (by decide) cl_X9 (by decide) ⟨rfl, rfl, rfl⟩ fl_X9_62 rfl dX9_undo_46 ?_
      refine x_sipush (v := 1099) C dX9_undo_49 (by decide +kernel) ?_
      refine x_aload_n C 0 dX9_undo_52 rfl ?_
      refine x_get (K := 10) (k := 31) C (isK_lit hdm rfl rfl) (by decide) cl_X9 (by decide) ⟨rfl, rfl, rfl⟩ fl_X9_440 dX9_undo_53 ?_
      refine x_imul C dX9_undo_56 ?_
      refine x_iload_n C 1 dX9_undo_57 rfl ?_
      refine x_iadd C dX9_undo_58 ?_
      refine inb_2 hq (fun hi hq => ?_)
      refine x_iald C (isK_lit hdm rfl rfl) hi dX9_undo_59 ?_
      refine inb_2 hq (fun hi hq => ?_)
      refine x_iast C (isK_lit hdm rfl rfl) hi dX9_undo_60 ?_
      refine x_iinc (lv' := [(1, iV (x1 + 1)), (0, .ref (d.ad (50)))]) C 1 dX9_undo_61 rfl (by decide) rfl ?_
      refine x_goto (tgt := 33) C dX9_undo_64 (by decide) ?_
      refine XG.sub [1, 0] rfl ?_
      exact ih _ _ hq
set_option maxRecDepth 100000 in
set_option maxHeartbeats 4000000 in
theorem L_X9_undo_13 {g : Cx} {d : Dl} (C : CX g cX9_undo 2 (some .int) RX9) (hdm : g.dm = 1) (hA : ∀ q : Nat, g.s.heap.size ≤ q → g.A q) (hR0 : g.R = rmv 2 44 0 0) (hce : d.ce ≤ g.R.cells ∧ d.so ≤ g.R.slots) {res : Int × Wd} (hR : rtI g d cX9_undo .int res) (s0 : Int) (w : Wd) (hq : p_X9_undo_13 s0 w = some res) : XG g d (hP g d w) [(0, .ref (d.ad (50)))] [iV (s0), .ref (d.ad (50))] 13 := by
  refine x_callVi (K := 10) (rm := rmv 1 23 0 0) (As := [iV (s0)]) (rest := []) C hA hR0 mf_X9_passes lk_X9_191 rfl (isK_lit hdm rfl rfl) (by decide) ⟨rfl, rfl⟩ ⟨Nat.le_of_ble_eq_true rfl, Nat.le_of_ble_eq_true rfl⟩ rfl rfl (Nat.le_of_ble_eq_true rfl) hce dX9_undo_13 hq (fun _ _ h => c_X9_passes g.l g.G hdm  h) (fun r2 w1 _ hq => ?_)
  refine x_if_ne (tgt := 21) C dX9_undo_16 (by decide) hq (fun hq => ?_) (fun hq => ?_)
  · refine x_aload_n C 0 dX9_undo_21 rfl ?_
    refine x_dup C rfl dX9_undo_22 ?_
    refine x_get (K := 10) (k := 31) C (isK_lit hdm rfl rfl) (by decide) cl_X9 (by decide) ⟨rfl, rfl, rfl⟩ fl_X9_440 dX9_undo_23 ?_
    refine x_iconst C dX9_undo_26 ?_
    refine x_isub C dX9_undo_27 ?_
    refine x_put (K := 10) (k := 31) C (isK_lit hdm rfl rfl) (by decide) cl_X9 (by decide) ⟨rfl, rfl, rfl, rfl⟩ fl_X9_440 ⟨rfl, rfl⟩ dX9_undo_28 ?_
    refine x_iconst C dX9_undo_31 ?_
    refine x_istore_n (lv' := [(1, iV (0)), (0, .ref (d.ad (50)))]) C dX9_undo_32 (by decide) rfl ?_
    refine XG.sub [1, 0] rfl ?_
    exact L_X9_undo_33 C hdm hA hR0 hce hR _ _ _ hq
  · refine x_iconst C dX9_undo_19 ?_
    exact hR _ _ _ _ hq rfl dX9_undo_20
set_option maxRecDepth 100000 in
set_option maxHeartbeats 4000000 in
theorem L_X9_undo {g : Cx} {d : Dl} (C : CX g cX9_undo 2 (some .int) RX9) (hdm : g.dm = 1) (hA : ∀ q : Nat, g.s.heap.size ≤ q → g.A q) (hR0 : g.R = rmv 2 44 0 0) (hce : d.ce ≤ g.R.cells ∧ d.so ≤ g.R.slots) {res : Int × Wd} (hR : rtI g d cX9_undo .int res)  (w : Wd) (hq : p_X9_undo  w = some res) : XG g d (hP g d w) [(0, .ref (d.ad (50)))] [] 0 := by
  refine x_aload_n C 0 dX9_undo_0 rfl ?_
  refine x_aload_n C 0 dX9_undo_1 rfl ?_
  refine x_get (K := 10) (k := 31) C (isK_lit hdm rfl rfl) (by decide) cl_X9 (by decide) ⟨rfl, rfl, rfl⟩ fl_X9_440 dX9_undo_2 ?_
  refine x_if_le (tgt := 12) C dX9_undo_5 (by decide) hq (fun hq => ?_) (fun hq => ?_)
  · refine x_iconst C dX9_undo_12 ?_
    exact L_X9_undo_13 C hdm hA hR0 hce hR _ _ hq
  · refine x_iconst C dX9_undo_8 ?_
    refine x_goto (tgt := 13) C dX9_undo_9 (by decide) ?_
    exact L_X9_undo_13 C hdm hA hR0 hce hR _ _ hq
set_option maxRecDepth 100000 in
set_option maxHeartbeats 4000000 in
theorem c_X9_undo (l : Launch) (G : Gd) {dm na : Nat} {ad : Nat → Nat} (hdm : dm = 1)  {w w' : Wd} {r : Int}  (hq : p_X9_undo  w = some (r, w')) : mI l yX9_undo cX9_undo 2 (some .int) (rmv 2 44 0 0) G dm na ad [.ref (ad (50))] w r w' := by
  refine met_I [(0, .ref (ad (50)))] (by decide) (Nat.le_of_ble_eq_true rfl) rfl .int rfl (fun g d C S hR => ?_)
  obtain ⟨rfl, hR0, rfl, rfl, rfl, hA⟩ := S
  exact L_X9_undo (d := (na, ad, 0, 0)) C hdm hA hR0 ⟨Nat.zero_le _, Nat.zero_le _⟩ hR   w hq
set_option maxRecDepth 100000 in
set_option maxHeartbeats 4000000 in
theorem L_X9_undoCount {g : Cx} {d : Dl} (C : CX g cX9_undoCount 1 (some .int) RX9) (hdm : g.dm = 1) (hA : ∀ q : Nat, g.s.heap.size ≤ q → g.A q) (hR0 : g.R = rmv 0 0 0 0) (hce : d.ce ≤ g.R.cells ∧ d.so ≤ g.R.slots) {res : Int × Wd} (hR : rtI g d cX9_undoCount .int res)  (w : Wd) (hq : p_X9_undoCount  w = some res) : XG g d (hP g d w) [(0, .ref (d.ad (50)))] [] 0 := by
  refine x_aload_n C 0 dX9_undoCount_0 rfl ?_
  refine x_iconst C dX9_undoCount_1 ?_
  refine x_put (K := 10) (k := 0) C (isK_lit hdm rfl rfl) (by decide) cl_X9 (by decide) ⟨rfl, rfl, rfl, rfl⟩ fl_X9_3 ⟨rfl, rfl⟩ dX9_undoCount_2 ?_
  refine x_aload_n C 0 dX9_undoCount_5 rfl ?_
  refine x_get (K := 10) (k := 31) C (isK_lit hdm rfl rfl) (by decide) cl_X9 (by decide) ⟨rfl, rfl, rfl⟩ fl_X9_440 dX9_undoCount_6 ?_
  exact hR _ _ _ _ hq rfl dX9_undoCount_9
set_option maxRecDepth 100000 in
set_option maxHeartbeats 4000000 in
theorem c_X9_undoCount (l : Launch) (G : Gd) {dm na : Nat} {ad : Nat → Nat} (hdm : dm = 1)  {w w' : Wd} {r : Int}  (hq : p_X9_undoCount  w = some (r, w')) : mI l yX9_undoCount cX9_undoCount 1 (some .int) (rmv 0 0 0 0) G dm na ad [.ref (ad (50))] w r w' := by
  refine met_I [(0, .ref (ad (50)))] (by decide) (Nat.le_of_ble_eq_true rfl) rfl .int rfl (fun g d C S hR => ?_)
  obtain ⟨rfl, hR0, rfl, rfl, rfl, hA⟩ := S
  exact L_X9_undoCount (d := (na, ad, 0, 0)) C hdm hA hR0 ⟨Nat.zero_le _, Nat.zero_le _⟩ hR   w hq
set_option maxRecDepth 100000 in
set_option maxHeartbeats 4000000 in
theorem L_X9_write {g : Cx} {d : Dl} (C : CX g cX9_write 2 none RX9) (hdm : g.dm = 1) (hA : ∀ q : Nat, g.s.heap.size ≤ q → g.A q) (hR0 : g.R = rmv 0 0 0 0) (hce : d.ce ≤ g.R.cells ∧ d.so ≤ g.R.slots) {res : Wd} (hR : rtV g d cX9_write res) (x1 : Int) (w : Wd) (hq : p_X9_write x1 w = some res) : XG g d (hP g d w) [(0, .ref (d.ad (50))), (1, iV (x1))] [] 0 := by
  refine x_aload_n C 0 dX9_write_0 rfl ?_
  refine x_getr (K := 10) (k := 32) (o2 := 64) C (isK_lit hdm rfl rfl) (by decide) cl_X9 (by decide) ⟨rfl, rfl, rfl⟩ fl_X9_65 rfl dX9_write_1 ?_
  refine x_aload_n C 0 dX9_write_4 rfl ?_
  refine x_get (K := 10) (k := 33) C (isK_lit hdm rfl rfl) (by decide) cl_X9 (by decide) ⟨rfl, rfl, rfl⟩ fl_X9_443 dX9_write_5 ?_
  refine x_iload_n C 1 dX9_write_8 rfl ?_
  refine x_i2b C dX9_write_9 ?_
  refine inb_2 hq (fun hi hq => ?_)
  refine x_bast C (isK_lit hdm rfl rfl) hi dX9_write_10 ?_
  refine x_aload_n C 0 dX9_write_11 rfl ?_
  refine x_dup C rfl dX9_write_12 ?_
  refine x_get (K := 10) (k := 33) C (isK_lit hdm rfl rfl) (by decide) cl_X9 (by decide) ⟨rfl, rfl, rfl⟩ fl_X9_443 dX9_write_13 ?_
  refine x_iconst C dX9_write_16 ?_
  refine x_iadd C dX9_write_17 ?_
  refine x_put (K := 10) (k := 33) C (isK_lit hdm rfl rfl) (by decide) cl_X9 (by decide) ⟨rfl, rfl, rfl, rfl⟩ fl_X9_443 ⟨rfl, rfl⟩ dX9_write_18 ?_
  refine nmW hq (fun w1 ew1 hq => ?_)
  rw [← ew1]
  exact hR _ _ _ hq dX9_write_21
set_option maxRecDepth 100000 in
set_option maxHeartbeats 4000000 in
theorem c_X9_write (l : Launch) (G : Gd) {dm na : Nat} {ad : Nat → Nat} (hdm : dm = 1) {x1 : Int} {w w' : Wd}   (hq : p_X9_write x1 w = some w') : mV l yX9_write cX9_write 2 none (rmv 0 0 0 0) G dm na ad [.ref (ad (50)), iV (x1)] w w' := by
  refine met_V [(0, .ref (ad (50))), (1, iV (x1))] (by decide) (Nat.le_of_ble_eq_true rfl) rfl rfl (fun g d C S hR => ?_)
  obtain ⟨rfl, hR0, rfl, rfl, rfl, hA⟩ := S
  exact L_X9_write (d := (na, ad, 0, 0)) C hdm hA hR0 ⟨Nat.zero_le _, Nat.zero_le _⟩ hR  _ w hq
set_option maxRecDepth 100000 in
set_option maxHeartbeats 4000000 in
theorem L_X9_shown {g : Cx} {d : Dl} (C : CX g cX9_shown 4 (some .int) RX9) (hdm : g.dm = 1) (hA : ∀ q : Nat, g.s.heap.size ≤ q → g.A q) (hR0 : g.R = rmv 3 65 0 0) (hce : d.ce ≤ g.R.cells ∧ d.so ≤ g.R.slots) {res : Int × Wd} (hR : rtI g d cX9_shown .int res) (x1 : Int) (x2 : Int) (w : Wd) (hq : p_X9_shown x1 x2 w = some res) : XG g d (hP g d w) [(0, .ref (d.ad (50))), (1, iV (x1)), (2, iV (x2))] [] 0 := by
  refine x_aload_n C 0 dX9_shown_0 rfl ?_
  refine x_iload_n C 1 dX9_shown_1 rfl ?_
  refine x_iload_n C 2 dX9_shown_2 rfl ?_
  refine x_callVi (K := 10) (rm := rmv 0 0 0 0) (As := [iV (x1), iV (x2)]) (rest := []) C hA hR0 mf_X9_byteOf lk_X9_132 rfl (isK_lit hdm rfl rfl) (by decide) ⟨rfl, rfl⟩ ⟨Nat.le_of_ble_eq_true rfl, Nat.le_of_ble_eq_true rfl⟩ rfl rfl (Nat.le_of_ble_eq_true rfl) hce dX9_shown_3 hq (fun _ _ h => c_X9_byteOf g.l g.G hdm  h) (fun r2 w1 _ hq => ?_)
  refine x_istore_n (lv' := [(3, iV (r2)), (0, .ref (d.ad (50))), (1, iV (x1)), (2, iV (x2))]) C dX9_shown_6 (by decide) rfl ?_
  refine x_iload_n C 3 dX9_shown_7 rfl ?_
  refine x_aload_n C 1 dX9_shown_8 rfl ?_
  refine x_iload_n C 2 dX9_shown_9 rfl ?_
  refine x_callVi (K := 10) (rm := rmv 2 44 0 0) (As := [iV (x1)]) (rest := [iV (x2)]) C hA hR0 mf_X9_carvedOf lk_X9_362 rfl (isK_lit hdm rfl rfl) (by decide) ⟨rfl, rfl⟩ ⟨Nat.le_of_ble_eq_true rfl, Nat.le_of_ble_eq_true rfl⟩ rfl rfl (Nat.le_of_ble_eq_true rfl) hce dX9_shown_10 hq (fun _ _ h => c_X9_carvedOf g.l g.G hdm  h) (fun r4 w3 _ hq => ?_)
  refine x_icmp_ge (tgt := 29) C dX9_shown_13 (by decide) hq (fun hq => ?_) (fun hq => ?_)
  · refine x_iload_n C 0 dX9_shown_29 rfl ?_
    exact hR _ _ _ _ hq rfl dX9_shown_30
  · refine x_iload_n C 0 dX9_shown_16 rfl ?_
    refine x_bipush (v := 97) C dX9_shown_17 (by decide +kernel) ?_
    refine x_icmp_lt (tgt := 29) C dX9_shown_19 (by decide) hq (fun hq => ?_) (fun hq => ?_)
    · refine x_iload_n C 0 dX9_shown_29 rfl ?_
      exact hR _ _ _ _ hq rfl dX9_shown_30
    · refine x_iload_n C 0 dX9_shown_22 rfl ?_
      refine x_bipush (v := 32) C dX9_shown_23 (by decide +kernel) ?_
      refine x_isub C dX9_shown_25 ?_
      refine x_goto (tgt := 30) C dX9_shown_26 (by decide) ?_
      exact hR _ _ _ _ hq rfl dX9_shown_30
set_option maxRecDepth 100000 in
set_option maxHeartbeats 4000000 in
theorem c_X9_shown (l : Launch) (G : Gd) {dm na : Nat} {ad : Nat → Nat} (hdm : dm = 1) {x1 : Int} {x2 : Int} {w w' : Wd} {r : Int}  (hq : p_X9_shown x1 x2 w = some (r, w')) : mI l yX9_shown cX9_shown 4 (some .int) (rmv 3 65 0 0) G dm na ad [.ref (ad (50)), iV (x1), iV (x2)] w r w' := by
  refine met_I [(0, .ref (ad (50))), (1, iV (x1)), (2, iV (x2))] (by decide) (Nat.le_of_ble_eq_true rfl) rfl .int rfl (fun g d C S hR => ?_)
  obtain ⟨rfl, hR0, rfl, rfl, rfl, hA⟩ := S
  exact L_X9_shown (d := (na, ad, 0, 0)) C hdm hA hR0 ⟨Nat.zero_le _, Nat.zero_le _⟩ hR  _ _ w hq
set_option maxRecDepth 100000 in
set_option maxHeartbeats 4000000 in
theorem L_X9_writeRow_87 {g : Cx} {d : Dl} (C : CX g cX9_writeRow 6 (some .int) RX9) (hdm : g.dm = 1) (hA : ∀ q : Nat, g.s.heap.size ≤ q → g.A q) (hR0 : g.R = rmv 9 213 0 0) (hce : d.ce ≤ g.R.cells ∧ d.so ≤ g.R.slots) {res : Int × Wd} (hR : rtI g d cX9_writeRow .int res) {k26 : Int → Int → Wd → Option (Int × Wd)} (hk26 : ∀ (x1 : Int) (x3 : Int) (w : Wd), k26 x1 x3 w = some res → XG g d (hP g d w) [(0, .ref (d.ad (50))), (1, iV (x1)), (3, iV (x3))] [] 26) (x1 : Int) (x3 : Int) (s0 : Int) (w : Wd) (hq : p_X9_writeRow_87 k26 x1 x3 s0 w = some res) : XG g d (hP g d w) [(0, .ref (d.ad (50))), (1, iV (x1)), (3, iV (x3))] [iV (s0), .ref (d.ad (50))] 87 := by
  refine x_callVv (K := 10) (rm := rmv 0 0 0 0) (As := [iV (s0)]) (rest := []) C hA hR0 mf_X9_write lk_X9_449 rfl (isK_lit hdm rfl rfl) (by decide) ⟨rfl, rfl⟩ ⟨Nat.le_of_ble_eq_true rfl, Nat.le_of_ble_eq_true rfl⟩ rfl rfl (Nat.le_of_ble_eq_true rfl) hce dX9_writeRow_87 hq (fun _ h => c_X9_write g.l g.G hdm  h) (fun w1 _ hq => ?_)
  refine x_iinc (lv' := [(3, iV (x3 + 1)), (0, .ref (d.ad (50))), (1, iV (x1))]) C 2 dX9_writeRow_90 rfl (by decide) rfl ?_
  refine x_goto (tgt := 26) C dX9_writeRow_93 (by decide) ?_
  refine XG.sub [1, 2, 0] rfl ?_
  exact hk26 _ _ _ hq
set_option maxRecDepth 100000 in
set_option maxHeartbeats 4000000 in
theorem L_X9_writeRow_58 {g : Cx} {d : Dl} (C : CX g cX9_writeRow 6 (some .int) RX9) (hdm : g.dm = 1) (hA : ∀ q : Nat, g.s.heap.size ≤ q → g.A q) (hR0 : g.R = rmv 9 213 0 0) (hce : d.ce ≤ g.R.cells ∧ d.so ≤ g.R.slots) {res : Int × Wd} (hR : rtI g d cX9_writeRow .int res) {k26 : Int → Int → Wd → Option (Int × Wd)} (hk26 : ∀ (x1 : Int) (x3 : Int) (w : Wd), k26 x1 x3 w = some res → XG g d (hP g d w) [(0, .ref (d.ad (50))), (1, iV (x1)), (3, iV (x3))] [] 26) (x1 : Int) (x3 : Int) (x4 : Int) (s0 : Int) (w : Wd) (hq : p_X9_writeRow_58 k26 x1 x3 x4 s0 w = some res) : XG g d (hP g d w) [(0, .ref (d.ad (50))), (1, iV (x1)), (3, iV (x3)), (4, iV (x4))] [iV (s0)] 58 := by
  refine x_istore (lv' := [(5, iV (s0)), (0, .ref (d.ad (50))), (1, iV (x1)), (3, iV (x3)), (4, iV (x4))]) C dX9_writeRow_58 (by decide) rfl ?_
  refine x_aload_n C 1 dX9_writeRow_60 rfl ?_
  refine x_iload C 4 dX9_writeRow_61 rfl ?_
  refine x_iconst C dX9_writeRow_63 ?_
  refine x_icmp_ne (tgt := 72) C dX9_writeRow_64 (by decide) hq (fun hq => ?_) (fun hq => ?_)
  · refine x_aload_n C 1 dX9_writeRow_72 rfl ?_
    refine x_iload C 4 dX9_writeRow_73 rfl ?_
    refine x_iload_n C 3 dX9_writeRow_75 rfl ?_
    refine x_aload_n C 1 dX9_writeRow_76 rfl ?_
    refine x_getr (K := 10) (k := 5) (o2 := 54) C (isK_lit hdm rfl rfl) (by decide) cl_X9 (by decide) ⟨rfl, rfl, rfl⟩ fl_X9_30 rfl dX9_writeRow_77 ?_
    refine x_iload C 4 dX9_writeRow_80 rfl ?_
    refine inb_2 hq (fun hi hq => ?_)
    refine x_iald C (isK_lit hdm rfl rfl) hi dX9_writeRow_82 ?_
    refine x_isub C dX9_writeRow_83 ?_
    refine x_callVi (K := 10) (rm := rmv 3 65 0 0) (As := [iV (x4), iV (x3 - (gA w 54 x4))]) (rest := [.ref (d.ad (50))]) C hA hR0 mf_X9_shown lk_X9_446 rfl (isK_lit hdm rfl rfl) (by decide) ⟨rfl, rfl⟩ ⟨Nat.le_of_ble_eq_true rfl, Nat.le_of_ble_eq_true rfl⟩ rfl rfl (Nat.le_of_ble_eq_true rfl) hce dX9_writeRow_84 hq (fun _ _ h => c_X9_shown g.l g.G hdm  h) (fun r2 w1 _ hq => ?_)
    refine XG.sub [1, 2, 3] rfl ?_
    exact L_X9_writeRow_87 C hdm hA hR0 hce hR hk26 _ _ _ _ hq
  · refine x_iload C 0 dX9_writeRow_67 rfl ?_
    refine x_goto (tgt := 87) C dX9_writeRow_69 (by decide) ?_
    refine XG.sub [1, 2, 3] rfl ?_
    exact L_X9_writeRow_87 C hdm hA hR0 hce hR hk26 _ _ _ _ hq
set_option maxRecDepth 100000 in
set_option maxHeartbeats 4000000 in
theorem L_X9_writeRow_26 {g : Cx} {d : Dl} (C : CX g cX9_writeRow 6 (some .int) RX9) (hdm : g.dm = 1) (hA : ∀ q : Nat, g.s.heap.size ≤ q → g.A q) (hR0 : g.R = rmv 9 213 0 0) (hce : d.ce ≤ g.R.cells ∧ d.so ≤ g.R.slots) {res : Int × Wd} (hR : rtI g d cX9_writeRow .int res) : ∀ (n : Nat) (x1 : Int) (x3 : Int) (w : Wd), p_X9_writeRow_26 n x1 x3 w = some res → XG g d (hP g d w) [(0, .ref (d.ad (50))), (1, iV (x1)), (3, iV (x3))] [] 26 := by
  intro n
  induction n with
  | zero => intro x1 x3 w  hq; exact nomatch (show none = some _ from hq)
  | succ n ih =>
    intro x1 x3 w  hq
    refine x_iload_n C 2 dX9_writeRow_26 rfl ?_
    refine x_aload_n C 0 dX9_writeRow_27 rfl ?_
    refine x_callVi (K := 10) (rm := rmv 0 0 0 0) (As := []) (rest := [iV (x3)]) C hA hR0 mf_X9_wide lk_X9_71 rfl (isK_lit hdm rfl rfl) (by decide) ⟨rfl, rfl⟩ ⟨Nat.le_of_ble_eq_true rfl, Nat.le_of_ble_eq_true rfl⟩ rfl rfl (Nat.le_of_ble_eq_true rfl) hce dX9_writeRow_28 hq (fun _ _ h => c_X9_wide g.l g.G hdm  h) (fun r2 w1 _ hq => ?_)
    refine x_icmp_ge (tgt := 96) C dX9_writeRow_31 (by decide) hq (fun hq => ?_) (fun hq => ?_)
    · refine x_aload_n C 0 dX9_writeRow_96 rfl ?_
      refine x_get (K := 10) (k := 33) C (isK_lit hdm rfl rfl) (by decide) cl_X9 (by decide) ⟨rfl, rfl, rfl⟩ fl_X9_443 dX9_writeRow_97 ?_
      exact hR _ _ _ _ hq rfl dX9_writeRow_100
    · refine x_aload_n C 0 dX9_writeRow_34 rfl ?_
      refine x_iload_n C 2 dX9_writeRow_35 rfl ?_
      refine x_iload_n C 1 dX9_writeRow_36 rfl ?_
      refine x_callVi (K := 10) (rm := rmv 1 25 0 0) (As := [iV (x3), iV (x1)]) (rest := []) C hA hR0 mf_X9_wordIn lk_X9_365 rfl (isK_lit hdm rfl rfl) (by decide) ⟨rfl, rfl⟩ ⟨Nat.le_of_ble_eq_true rfl, Nat.le_of_ble_eq_true rfl⟩ rfl rfl (Nat.le_of_ble_eq_true rfl) hce dX9_writeRow_37 hq (fun _ _ h => c_X9_wordIn g.l g.G hdm  h) (fun r4 w3 _ hq => ?_)
      refine x_istore (lv' := [(4, iV (r4)), (0, .ref (d.ad (50))), (1, iV (x1)), (3, iV (x3))]) C dX9_writeRow_40 (by decide) rfl ?_
      refine x_aload_n C 1 dX9_writeRow_42 rfl ?_
      refine x_iload_n C 3 dX9_writeRow_43 rfl ?_
      refine x_iload_n C 2 dX9_writeRow_44 rfl ?_
      refine x_callVi (K := 10) (rm := rmv 2 47 0 0) (As := [iV (x3), iV (x1)]) (rest := []) C hA hR0 mf_X9_hasFlaw lk_X9_93 rfl (isK_lit hdm rfl rfl) (by decide) ⟨rfl, rfl⟩ ⟨Nat.le_of_ble_eq_true rfl, Nat.le_of_ble_eq_true rfl⟩ rfl rfl (Nat.le_of_ble_eq_true rfl) hce dX9_writeRow_45 hq (fun _ _ h => c_X9_hasFlaw g.l g.G hdm  h) (fun r6 w5 _ hq => ?_)
      refine x_if_eq (tgt := 56) C dX9_writeRow_48 (by decide) hq (fun hq => ?_) (fun hq => ?_)
      · refine x_bipush (v := 46) C dX9_writeRow_56 (by decide +kernel) ?_
        refine XG.sub [1, 2, 3, 0] rfl ?_
        exact L_X9_writeRow_58 C hdm hA hR0 hce hR ih _ _ _ _ _ hq
      · refine x_bipush (v := 35) C dX9_writeRow_51 (by decide +kernel) ?_
        refine x_goto (tgt := 58) C dX9_writeRow_53 (by decide) ?_
        refine XG.sub [1, 2, 3, 0] rfl ?_
        exact L_X9_writeRow_58 C hdm hA hR0 hce hR ih _ _ _ _ _ hq
set_option maxRecDepth 100000 in
set_option maxHeartbeats 4000000 in
theorem L_X9_writeRow {g : Cx} {d : Dl} (C : CX g cX9_writeRow 6 (some .int) RX9) (hdm : g.dm = 1) (hA : ∀ q : Nat, g.s.heap.size ≤ q → g.A q) (hR0 : g.R = rmv 9 213 0 0) (hce : d.ce ≤ g.R.cells ∧ d.so ≤ g.R.slots) {res : Int × Wd} (hR : rtI g d cX9_writeRow .int res) (x1 : Int) (w : Wd) (hq : p_X9_writeRow x1 w = some res) : XG g d (hP g d w) [(0, .ref (d.ad (50))), (1, iV (x1))] [] 0 := by
  refine x_aload_n C 0 dX9_writeRow_0 rfl ?_
  refine x_aload_n C 0 dX9_writeRow_1 rfl ?_
  refine x_iload_n C 1 dX9_writeRow_2 rfl ?_
  refine x_callVi (K := 10) (rm := rmv 1 25 0 0) (As := [iV (x1)]) (rest := [.ref (d.ad (50))]) C hA hR0 mf_X9_isRow lk_X9_368 rfl (isK_lit hdm rfl rfl) (by decide) ⟨rfl, rfl⟩ ⟨Nat.le_of_ble_eq_true rfl, Nat.le_of_ble_eq_true rfl⟩ rfl rfl (Nat.le_of_ble_eq_true rfl) hce dX9_writeRow_3 hq (fun _ _ h => c_X9_isRow g.l g.G hdm  h) (fun r2 w1 _ hq => ?_)
  refine x_callVi (K := 10) (rm := rmv 1 23 0 0) (As := [iV (r2)]) (rest := []) C hA hR0 mf_X9_passes lk_X9_191 rfl (isK_lit hdm rfl rfl) (by decide) ⟨rfl, rfl⟩ ⟨Nat.le_of_ble_eq_true rfl, Nat.le_of_ble_eq_true rfl⟩ rfl rfl (Nat.le_of_ble_eq_true rfl) hce dX9_writeRow_6 hq (fun _ _ h => c_X9_passes g.l g.G hdm  h) (fun r4 w3 _ hq => ?_)
  refine x_if_ne (tgt := 14) C dX9_writeRow_9 (by decide) hq (fun hq => ?_) (fun hq => ?_)
  · refine x_aload_n C 0 dX9_writeRow_14 rfl ?_
    refine x_callVi (K := 10) (rm := rmv 8 192 0 0) (As := []) (rest := []) C hA hR0 mf_X9_lay lk_X9_179 rfl (isK_lit hdm rfl rfl) (by decide) ⟨rfl, rfl⟩ ⟨Nat.le_of_ble_eq_true rfl, Nat.le_of_ble_eq_true rfl⟩ rfl rfl (Nat.le_of_ble_eq_true rfl) hce dX9_writeRow_15 hq (fun _ _ h => c_X9_lay g.l g.G hdm  h) (fun r6 w5 _ hq => ?_)
    refine x_istore_n (lv' := [(2, iV (r6)), (0, .ref (d.ad (50))), (1, iV (x1))]) C dX9_writeRow_18 (by decide) rfl ?_
    refine x_aload_n C 1 dX9_writeRow_19 rfl ?_
    refine x_iconst C dX9_writeRow_20 ?_
    refine x_put (K := 10) (k := 33) C (isK_lit hdm rfl rfl) (by decide) cl_X9 (by decide) ⟨rfl, rfl, rfl, rfl⟩ fl_X9_443 ⟨rfl, rfl⟩ dX9_writeRow_21 ?_
    refine x_iconst C dX9_writeRow_24 ?_
    refine x_istore_n (lv' := [(3, iV (0)), (2, iV (r6)), (0, .ref (d.ad (50))), (1, iV (x1))]) C dX9_writeRow_25 (by decide) rfl ?_
    refine XG.sub [2, 3, 0] rfl ?_
    exact L_X9_writeRow_26 C hdm hA hR0 hce hR _ _ _ _ hq
  · refine x_iconst C dX9_writeRow_12 ?_
    exact hR _ _ _ _ hq rfl dX9_writeRow_13
set_option maxRecDepth 100000 in
set_option maxHeartbeats 4000000 in
theorem c_X9_writeRow (l : Launch) (G : Gd) {dm na : Nat} {ad : Nat → Nat} (hdm : dm = 1) {x1 : Int} {w w' : Wd} {r : Int}  (hq : p_X9_writeRow x1 w = some (r, w')) : mI l yX9_writeRow cX9_writeRow 6 (some .int) (rmv 9 213 0 0) G dm na ad [.ref (ad (50)), iV (x1)] w r w' := by
  refine met_I [(0, .ref (ad (50))), (1, iV (x1))] (by decide) (Nat.le_of_ble_eq_true rfl) rfl .int rfl (fun g d C S hR => ?_)
  obtain ⟨rfl, hR0, rfl, rfl, rfl, hA⟩ := S
  exact L_X9_writeRow (d := (na, ad, 0, 0)) C hdm hA hR0 ⟨Nat.zero_le _, Nat.zero_le _⟩ hR  _ w hq
set_option maxRecDepth 100000 in
set_option maxHeartbeats 4000000 in
theorem L_X9_writeWord_2 {g : Cx} {d : Dl} (C : CX g cX9_writeWord 3 none RX9) (hdm : g.dm = 1) (hA : ∀ q : Nat, g.s.heap.size ≤ q → g.A q) (hR0 : g.R = rmv 1 22 0 0) (hce : d.ce ≤ g.R.cells ∧ d.so ≤ g.R.slots) {res : Wd} (hR : rtV g d cX9_writeWord res) : ∀ (n : Nat) (x1 : Int) (x2 : Int) (w : Wd), p_X9_writeWord_2 n x1 x2 w = some res → XG g d (hP g d w) [(0, .ref (d.ad (50))), (1, iV (x1)), (2, iV (x2))] [] 2 := by
  intro n
  induction n with
  | zero => intro x1 x2 w  hq; exact nomatch (show none = some _ from hq)
  | succ n ih =>
    intro x1 x2 w  hq
    refine x_iload_n C 2 dX9_writeWord_2 rfl ?_
    refine x_aload_n C 0 dX9_writeWord_3 rfl ?_
    refine x_iload_n C 1 dX9_writeWord_4 rfl ?_
    refine x_callVi (K := 10) (rm := rmv 0 0 0 0) (As := [iV (x1)]) (rest := [iV (x2)]) C hA hR0 mf_X9_bytesOf lk_X9_106 rfl (isK_lit hdm rfl rfl) (by decide) ⟨rfl, rfl⟩ ⟨Nat.le_of_ble_eq_true rfl, Nat.le_of_ble_eq_true rfl⟩ rfl rfl (Nat.le_of_ble_eq_true rfl) hce dX9_writeWord_5 hq (fun _ _ h => c_X9_bytesOf g.l g.G hdm  h) (fun r2 w1 _ hq => ?_)
    refine x_icmp_ge (tgt := 27) C dX9_writeWord_8 (by decide) hq (fun hq => ?_) (fun hq => ?_)
    · exact hR _ _ _ hq dX9_writeWord_27
    · refine x_aload_n C 0 dX9_writeWord_11 rfl ?_
      refine x_aload_n C 0 dX9_writeWord_12 rfl ?_
      refine x_iload_n C 1 dX9_writeWord_13 rfl ?_
      refine x_iload_n C 2 dX9_writeWord_14 rfl ?_
      refine x_callVi (K := 10) (rm := rmv 0 0 0 0) (As := [iV (x1), iV (x2)]) (rest := [.ref (d.ad (50))]) C hA hR0 mf_X9_byteOf lk_X9_132 rfl (isK_lit hdm rfl rfl) (by decide) ⟨rfl, rfl⟩ ⟨Nat.le_of_ble_eq_true rfl, Nat.le_of_ble_eq_true rfl⟩ rfl rfl (Nat.le_of_ble_eq_true rfl) hce dX9_writeWord_15 hq (fun _ _ h => c_X9_byteOf g.l g.G hdm  h) (fun r4 w3 _ hq => ?_)
      refine x_callVv (K := 10) (rm := rmv 0 0 0 0) (As := [iV (r4)]) (rest := []) C hA hR0 mf_X9_write lk_X9_449 rfl (isK_lit hdm rfl rfl) (by decide) ⟨rfl, rfl⟩ ⟨Nat.le_of_ble_eq_true rfl, Nat.le_of_ble_eq_true rfl⟩ rfl rfl (Nat.le_of_ble_eq_true rfl) hce dX9_writeWord_18 hq (fun _ h => c_X9_write g.l g.G hdm  h) (fun w5 _ hq => ?_)
      refine x_iinc (lv' := [(2, iV (x2 + 1)), (0, .ref (d.ad (50))), (1, iV (x1))]) C 2 dX9_writeWord_21 rfl (by decide) rfl ?_
      refine x_goto (tgt := 2) C dX9_writeWord_24 (by decide) ?_
      refine XG.sub [1, 2, 0] rfl ?_
      exact ih _ _ _ hq
set_option maxRecDepth 100000 in
set_option maxHeartbeats 4000000 in
theorem L_X9_writeWord {g : Cx} {d : Dl} (C : CX g cX9_writeWord 3 none RX9) (hdm : g.dm = 1) (hA : ∀ q : Nat, g.s.heap.size ≤ q → g.A q) (hR0 : g.R = rmv 1 22 0 0) (hce : d.ce ≤ g.R.cells ∧ d.so ≤ g.R.slots) {res : Wd} (hR : rtV g d cX9_writeWord res) (x1 : Int) (w : Wd) (hq : p_X9_writeWord x1 w = some res) : XG g d (hP g d w) [(0, .ref (d.ad (50))), (1, iV (x1))] [] 0 := by
  refine x_iconst C dX9_writeWord_0 ?_
  refine x_istore_n (lv' := [(2, iV (0)), (0, .ref (d.ad (50))), (1, iV (x1))]) C dX9_writeWord_1 (by decide) rfl ?_
  refine XG.sub [1, 2, 0] rfl ?_
  exact L_X9_writeWord_2 C hdm hA hR0 hce hR _ _ _ _ hq
set_option maxRecDepth 100000 in
set_option maxHeartbeats 4000000 in
theorem c_X9_writeWord (l : Launch) (G : Gd) {dm na : Nat} {ad : Nat → Nat} (hdm : dm = 1) {x1 : Int} {w w' : Wd}   (hq : p_X9_writeWord x1 w = some w') : mV l yX9_writeWord cX9_writeWord 3 none (rmv 1 22 0 0) G dm na ad [.ref (ad (50)), iV (x1)] w w' := by
  refine met_V [(0, .ref (ad (50))), (1, iV (x1))] (by decide) (Nat.le_of_ble_eq_true rfl) rfl rfl (fun g d C S hR => ?_)
  obtain ⟨rfl, hR0, rfl, rfl, rfl, hA⟩ := S
  exact L_X9_writeWord (d := (na, ad, 0, 0)) C hdm hA hR0 ⟨Nat.zero_le _, Nat.zero_le _⟩ hR  _ w hq
set_option maxRecDepth 100000 in
set_option maxHeartbeats 4000000 in
theorem L_X9_writePart_90 {g : Cx} {d : Dl} (C : CX g cX9_writePart 5 (some .int) RX9) (hdm : g.dm = 1) (hA : ∀ q : Nat, g.s.heap.size ≤ q → g.A q) (hR0 : g.R = rmv 9 213 0 0) (hce : d.ce ≤ g.R.cells ∧ d.so ≤ g.R.slots) {res : Int × Wd} (hR : rtI g d cX9_writePart .int res) {k33 : Int → Int → Int → Int → Wd → Option (Int × Wd)} (hk33 : ∀ (x1 : Int) (x2 : Int) (x3 : Int) (x4 : Int) (w : Wd), k33 x1 x2 x3 x4 w = some res → XG g d (hP g d w) [(0, .ref (d.ad (50))), (1, iV (x1)), (2, iV (x2)), (3, iV (x3)), (4, iV (x4))] [] 33) (x1 : Int) (x2 : Int) (x3 : Int) (x4 : Int) (w : Wd) (hq : p_X9_writePart_90 k33 x1 x2 x3 x4 w = some res) : XG g d (hP g d w) [(0, .ref (d.ad (50))), (1, iV (x1)), (2, iV (x2)), (3, iV (x3)), (4, iV (x4))] [] 90 := by
  refine x_iinc (lv' := [(4, iV (x4 + 1)), (0, .ref (d.ad (50))), (1, iV (x1)), (2, iV (x2)), (3, iV (x3))]) C 4 dX9_writePart_90 rfl (by decide) rfl ?_
  refine x_goto (tgt := 33) C dX9_writePart_93 (by decide) ?_
  refine XG.sub [1, 2, 3, 4, 0] rfl ?_
  exact hk33 _ _ _ _ _ hq
set_option maxRecDepth 100000 in
set_option maxHeartbeats 4000000 in
theorem L_X9_writePart_57 {g : Cx} {d : Dl} (C : CX g cX9_writePart 5 (some .int) RX9) (hdm : g.dm = 1) (hA : ∀ q : Nat, g.s.heap.size ≤ q → g.A q) (hR0 : g.R = rmv 9 213 0 0) (hce : d.ce ≤ g.R.cells ∧ d.so ≤ g.R.slots) {res : Int × Wd} (hR : rtI g d cX9_writePart .int res) {k33 : Int → Int → Int → Int → Wd → Option (Int × Wd)} (hk33 : ∀ (x1 : Int) (x2 : Int) (x3 : Int) (x4 : Int) (w : Wd), k33 x1 x2 x3 x4 w = some res → XG g d (hP g d w) [(0, .ref (d.ad (50))), (1, iV (x1)), (2, iV (x2)), (3, iV (x3)), (4, iV (x4))] [] 33) (x1 : Int) (x2 : Int) (x3 : Int) (x4 : Int) (w : Wd) (hq : p_X9_writePart_57 k33 x1 x2 x3 x4 w = some res) : XG g d (hP g d w) [(0, .ref (d.ad (50))), (1, iV (x1)), (2, iV (x2)), (3, iV (x3)), (4, iV (x4))] [] 57 := by
  refine x_iload C 4 dX9_writePart_57 rfl ?_
  refine x_iload_n C 2 dX9_writePart_59 rfl ?_
  refine x_icmp_ge (tgt := 72) C dX9_writePart_60 (by decide) hq (fun hq => ?_) (fun hq => ?_)
  · refine x_aload_n C 0 dX9_writePart_72 rfl ?_
    refine x_bipush (v := 91) C dX9_writePart_73 (by decide +kernel) ?_
    refine x_callVv (K := 10) (rm := rmv 0 0 0 0) (As := [iV (91)]) (rest := []) C hA hR0 mf_X9_write lk_X9_449 rfl (isK_lit hdm rfl rfl) (by decide) ⟨rfl, rfl⟩ ⟨Nat.le_of_ble_eq_true rfl, Nat.le_of_ble_eq_true rfl⟩ rfl rfl (Nat.le_of_ble_eq_true rfl) hce dX9_writePart_75 hq (fun _ h => c_X9_write g.l g.G hdm  h) (fun w1 _ hq => ?_)
    refine x_aload_n C 0 dX9_writePart_78 rfl ?_
    refine x_iload C 4 dX9_writePart_79 rfl ?_
    refine x_callVv (K := 10) (rm := rmv 1 22 0 0) (As := [iV (x4)]) (rest := []) C hA hR0 mf_X9_writeWord lk_X9_452 rfl (isK_lit hdm rfl rfl) (by decide) ⟨rfl, rfl⟩ ⟨Nat.le_of_ble_eq_true rfl, Nat.le_of_ble_eq_true rfl⟩ rfl rfl (Nat.le_of_ble_eq_true rfl) hce dX9_writePart_81 hq (fun _ h => c_X9_writeWord g.l g.G hdm  h) (fun w2 _ hq => ?_)
    refine x_aload_n C 0 dX9_writePart_84 rfl ?_
    refine x_bipush (v := 93) C dX9_writePart_85 (by decide +kernel) ?_
    refine x_callVv (K := 10) (rm := rmv 0 0 0 0) (As := [iV (93)]) (rest := []) C hA hR0 mf_X9_write lk_X9_449 rfl (isK_lit hdm rfl rfl) (by decide) ⟨rfl, rfl⟩ ⟨Nat.le_of_ble_eq_true rfl, Nat.le_of_ble_eq_true rfl⟩ rfl rfl (Nat.le_of_ble_eq_true rfl) hce dX9_writePart_87 hq (fun _ h => c_X9_write g.l g.G hdm  h) (fun w3 _ hq => ?_)
    exact L_X9_writePart_90 C hdm hA hR0 hce hR hk33 _ _ _ _ _ hq
  · refine x_aload_n C 0 dX9_writePart_63 rfl ?_
    refine x_iload C 4 dX9_writePart_64 rfl ?_
    refine x_callVv (K := 10) (rm := rmv 1 22 0 0) (As := [iV (x4)]) (rest := []) C hA hR0 mf_X9_writeWord lk_X9_452 rfl (isK_lit hdm rfl rfl) (by decide) ⟨rfl, rfl⟩ ⟨Nat.le_of_ble_eq_true rfl, Nat.le_of_ble_eq_true rfl⟩ rfl rfl (Nat.le_of_ble_eq_true rfl) hce dX9_writePart_66 hq (fun _ h => c_X9_writeWord g.l g.G hdm  h) (fun w4 _ hq => ?_)
    refine x_goto (tgt := 90) C dX9_writePart_69 (by decide) ?_
    exact L_X9_writePart_90 C hdm hA hR0 hce hR hk33 _ _ _ _ _ hq
set_option maxRecDepth 100000 in
set_option maxHeartbeats 4000000 in
theorem L_X9_writePart_33 {g : Cx} {d : Dl} (C : CX g cX9_writePart 5 (some .int) RX9) (hdm : g.dm = 1) (hA : ∀ q : Nat, g.s.heap.size ≤ q → g.A q) (hR0 : g.R = rmv 9 213 0 0) (hce : d.ce ≤ g.R.cells ∧ d.so ≤ g.R.slots) {res : Int × Wd} (hR : rtI g d cX9_writePart .int res) : ∀ (n : Nat) (x1 : Int) (x2 : Int) (x3 : Int) (x4 : Int) (w : Wd), p_X9_writePart_33 n x1 x2 x3 x4 w = some res → XG g d (hP g d w) [(0, .ref (d.ad (50))), (1, iV (x1)), (2, iV (x2)), (3, iV (x3)), (4, iV (x4))] [] 33 := by
  intro n
  induction n with
  | zero => intro x1 x2 x3 x4 w  hq; exact nomatch (show none = some _ from hq)
  | succ n ih =>
    intro x1 x2 x3 x4 w  hq
    refine x_iload C 4 dX9_writePart_33 rfl ?_
    refine x_iload_n C 3 dX9_writePart_35 rfl ?_
    refine x_aload_n C 0 dX9_writePart_36 rfl ?_
    refine x_iload_n C 1 dX9_writePart_37 rfl ?_
    refine x_callVi (K := 10) (rm := rmv 0 0 0 0) (As := [iV (x1)]) (rest := [iV (x3), iV (x4)]) C hA hR0 mf_X9_manyOf lk_X9_86 rfl (isK_lit hdm rfl rfl) (by decide) ⟨rfl, rfl⟩ ⟨Nat.le_of_ble_eq_true rfl, Nat.le_of_ble_eq_true rfl⟩ rfl rfl (Nat.le_of_ble_eq_true rfl) hce dX9_writePart_38 hq (fun _ _ h => c_X9_manyOf g.l g.G hdm  h) (fun r2 w1 _ hq => ?_)
    refine x_iadd C dX9_writePart_41 ?_
    refine x_icmp_ge (tgt := 96) C dX9_writePart_42 (by decide) hq (fun hq => ?_) (fun hq => ?_)
    · refine x_aload_n C 0 dX9_writePart_96 rfl ?_
      refine x_get (K := 10) (k := 33) C (isK_lit hdm rfl rfl) (by decide) cl_X9 (by decide) ⟨rfl, rfl, rfl⟩ fl_X9_443 dX9_writePart_97 ?_
      exact hR _ _ _ _ hq rfl dX9_writePart_100
    · refine x_iload C 4 dX9_writePart_45 rfl ?_
      refine x_iload_n C 3 dX9_writePart_47 rfl ?_
      refine x_icmp_le (tgt := 57) C dX9_writePart_48 (by decide) hq (fun hq => ?_) (fun hq => ?_)
      · exact L_X9_writePart_57 C hdm hA hR0 hce hR ih _ _ _ _ _ hq
      · refine x_aload_n C 0 dX9_writePart_51 rfl ?_
        refine x_bipush (v := 32) C dX9_writePart_52 (by decide +kernel) ?_
        refine x_callVv (K := 10) (rm := rmv 0 0 0 0) (As := [iV (32)]) (rest := []) C hA hR0 mf_X9_write lk_X9_449 rfl (isK_lit hdm rfl rfl) (by decide) ⟨rfl, rfl⟩ ⟨Nat.le_of_ble_eq_true rfl, Nat.le_of_ble_eq_true rfl⟩ rfl rfl (Nat.le_of_ble_eq_true rfl) hce dX9_writePart_54 hq (fun _ h => c_X9_write g.l g.G hdm  h) (fun w3 _ hq => ?_)
        exact L_X9_writePart_57 C hdm hA hR0 hce hR ih _ _ _ _ _ hq
set_option maxRecDepth 100000 in
set_option maxHeartbeats 4000000 in
theorem L_X9_writePart {g : Cx} {d : Dl} (C : CX g cX9_writePart 5 (some .int) RX9) (hdm : g.dm = 1) (hA : ∀ q : Nat, g.s.heap.size ≤ q → g.A q) (hR0 : g.R = rmv 9 213 0 0) (hce : d.ce ≤ g.R.cells ∧ d.so ≤ g.R.slots) {res : Int × Wd} (hR : rtI g d cX9_writePart .int res) (x1 : Int) (w : Wd) (hq : p_X9_writePart x1 w = some res) : XG g d (hP g d w) [(0, .ref (d.ad (50))), (1, iV (x1))] [] 0 := by
  refine x_aload_n C 0 dX9_writePart_0 rfl ?_
  refine x_aload_n C 0 dX9_writePart_1 rfl ?_
  refine x_iload_n C 1 dX9_writePart_2 rfl ?_
  refine x_callVi (K := 10) (rm := rmv 1 25 0 0) (As := [iV (x1)]) (rest := [.ref (d.ad (50))]) C hA hR0 mf_X9_isPart lk_X9_344 rfl (isK_lit hdm rfl rfl) (by decide) ⟨rfl, rfl⟩ ⟨Nat.le_of_ble_eq_true rfl, Nat.le_of_ble_eq_true rfl⟩ rfl rfl (Nat.le_of_ble_eq_true rfl) hce dX9_writePart_3 hq (fun _ _ h => c_X9_isPart g.l g.G hdm  h) (fun r2 w1 _ hq => ?_)
  refine x_callVi (K := 10) (rm := rmv 1 23 0 0) (As := [iV (r2)]) (rest := []) C hA hR0 mf_X9_passes lk_X9_191 rfl (isK_lit hdm rfl rfl) (by decide) ⟨rfl, rfl⟩ ⟨Nat.le_of_ble_eq_true rfl, Nat.le_of_ble_eq_true rfl⟩ rfl rfl (Nat.le_of_ble_eq_true rfl) hce dX9_writePart_6 hq (fun _ _ h => c_X9_passes g.l g.G hdm  h) (fun r4 w3 _ hq => ?_)
  refine x_if_ne (tgt := 14) C dX9_writePart_9 (by decide) hq (fun hq => ?_) (fun hq => ?_)
  · refine x_aload_n C 0 dX9_writePart_14 rfl ?_
    refine x_callVi (K := 10) (rm := rmv 8 192 0 0) (As := []) (rest := []) C hA hR0 mf_X9_lay lk_X9_179 rfl (isK_lit hdm rfl rfl) (by decide) ⟨rfl, rfl⟩ ⟨Nat.le_of_ble_eq_true rfl, Nat.le_of_ble_eq_true rfl⟩ rfl rfl (Nat.le_of_ble_eq_true rfl) hce dX9_writePart_15 hq (fun _ _ h => c_X9_lay g.l g.G hdm  h) (fun r6 w5 _ hq => ?_)
    refine x_istore_n (lv' := [(2, iV (r6)), (0, .ref (d.ad (50))), (1, iV (x1))]) C dX9_writePart_18 (by decide) rfl ?_
    refine x_aload_n C 1 dX9_writePart_19 rfl ?_
    refine x_iconst C dX9_writePart_20 ?_
    refine x_put (K := 10) (k := 33) C (isK_lit hdm rfl rfl) (by decide) cl_X9 (by decide) ⟨rfl, rfl, rfl, rfl⟩ fl_X9_443 ⟨rfl, rfl⟩ dX9_writePart_21 ?_
    refine x_aload_n C 1 dX9_writePart_24 rfl ?_
    refine x_iload_n C 2 dX9_writePart_25 rfl ?_
    refine x_callVi (K := 10) (rm := rmv 1 21 0 0) (As := [iV (x1)]) (rest := []) C hA hR0 mf_X9_firstOf lk_X9_90 rfl (isK_lit hdm rfl rfl) (by decide) ⟨rfl, rfl⟩ ⟨Nat.le_of_ble_eq_true rfl, Nat.le_of_ble_eq_true rfl⟩ rfl rfl (Nat.le_of_ble_eq_true rfl) hce dX9_writePart_26 hq (fun _ _ h => c_X9_firstOf g.l g.G hdm  h) (fun r8 w7 _ hq => ?_)
    refine x_istore_n (lv' := [(3, iV (r8)), (2, iV (r6)), (0, .ref (d.ad (50))), (1, iV (x1))]) C dX9_writePart_29 (by decide) rfl ?_
    refine x_iload_n C 0 dX9_writePart_30 rfl ?_
    refine x_istore (lv' := [(4, iV (r8)), (3, iV (r8)), (2, iV (r6)), (0, .ref (d.ad (50))), (1, iV (x1))]) C dX9_writePart_31 (by decide) rfl ?_
    refine XG.sub [3, 4, 2, 1, 0] rfl ?_
    exact L_X9_writePart_33 C hdm hA hR0 hce hR _ _ _ _ _ _ hq
  · refine x_iconst C dX9_writePart_12 ?_
    exact hR _ _ _ _ hq rfl dX9_writePart_13
set_option maxRecDepth 100000 in
set_option maxHeartbeats 4000000 in
theorem c_X9_writePart (l : Launch) (G : Gd) {dm na : Nat} {ad : Nat → Nat} (hdm : dm = 1) {x1 : Int} {w w' : Wd} {r : Int}  (hq : p_X9_writePart x1 w = some (r, w')) : mI l yX9_writePart cX9_writePart 5 (some .int) (rmv 9 213 0 0) G dm na ad [.ref (ad (50)), iV (x1)] w r w' := by
  refine met_I [(0, .ref (ad (50))), (1, iV (x1))] (by decide) (Nat.le_of_ble_eq_true rfl) rfl .int rfl (fun g d C S hR => ?_)
  obtain ⟨rfl, hR0, rfl, rfl, rfl, hA⟩ := S
  exact L_X9_writePart (d := (na, ad, 0, 0)) C hdm hA hR0 ⟨Nat.zero_le _, Nat.zero_le _⟩ hR  _ w hq
set_option maxRecDepth 100000 in
set_option maxHeartbeats 4000000 in
theorem L_X9_outputByte {g : Cx} {d : Dl} (C : CX g cX9_outputByte 2 (some .int) RX9) (hdm : g.dm = 1) (hA : ∀ q : Nat, g.s.heap.size ≤ q → g.A q) (hR0 : g.R = rmv 2 44 0 0) (hce : d.ce ≤ g.R.cells ∧ d.so ≤ g.R.slots) {res : Int × Wd} (hR : rtI g d cX9_outputByte .int res) (x1 : Int) (w : Wd) (hq : p_X9_outputByte x1 w = some res) : XG g d (hP g d w) [(0, .ref (d.ad (50))), (1, iV (x1))] [] 0 := by
  refine x_aload_n C 0 dX9_outputByte_0 rfl ?_
  refine x_iload_n C 1 dX9_outputByte_1 rfl ?_
  refine x_i2l C dX9_outputByte_2 ?_
  refine x_lconst C dX9_outputByte_3 ?_
  refine x_aload_n C 0 dX9_outputByte_4 rfl ?_
  refine x_get (K := 10) (k := 33) C (isK_lit hdm rfl rfl) (by decide) cl_X9 (by decide) ⟨rfl, rfl, rfl⟩ fl_X9_443 dX9_outputByte_5 ?_
  refine x_iconst C dX9_outputByte_8 ?_
  refine x_isub C dX9_outputByte_9 ?_
  refine x_i2l C dX9_outputByte_10 ?_
  refine x_callSi (rm := rmv 0 0 0 0) (As := [jV (w32 x1), jV (0), jV (w32 ((gF w 50 33) - 1))]) (rest := [.ref (d.ad (50))]) C hA hR0 mf_X9_in lk_X9_75 ⟨rfl, rfl⟩ ⟨Nat.le_of_ble_eq_true rfl, Nat.le_of_ble_eq_true rfl⟩ rfl rfl (Nat.le_of_ble_eq_true rfl) hce dX9_outputByte_11 hq (fun _ _ h => c_X9_in g.l g.G hdm  h) (fun r2 w1 _ hq => ?_)
  refine x_callVi (K := 10) (rm := rmv 1 23 0 0) (As := [iV (r2)]) (rest := []) C hA hR0 mf_X9_passes lk_X9_191 rfl (isK_lit hdm rfl rfl) (by decide) ⟨rfl, rfl⟩ ⟨Nat.le_of_ble_eq_true rfl, Nat.le_of_ble_eq_true rfl⟩ rfl rfl (Nat.le_of_ble_eq_true rfl) hce dX9_outputByte_14 hq (fun _ _ h => c_X9_passes g.l g.G hdm  h) (fun r4 w3 _ hq => ?_)
  refine x_if_eq (tgt := 29) C dX9_outputByte_17 (by decide) hq (fun hq => ?_) (fun hq => ?_)
  · refine x_iconst C dX9_outputByte_29 ?_
    exact hR _ _ _ _ hq rfl dX9_outputByte_30
  · refine x_aload_n C 0 dX9_outputByte_20 rfl ?_
    refine x_getr (K := 10) (k := 32) (o2 := 64) C (isK_lit hdm rfl rfl) (by decide) cl_X9 (by decide) ⟨rfl, rfl, rfl⟩ fl_X9_65 rfl dX9_outputByte_21 ?_
    refine x_iload_n C 1 dX9_outputByte_24 rfl ?_
    refine inb_2 hq (fun hi hq => ?_)
    refine x_bald C (isK_lit hdm rfl rfl) hi dX9_outputByte_25 ?_
    refine x_goto (tgt := 30) C dX9_outputByte_26 (by decide) ?_
    exact hR _ _ _ _ hq rfl dX9_outputByte_30
set_option maxRecDepth 100000 in
set_option maxHeartbeats 4000000 in
theorem c_X9_outputByte (l : Launch) (G : Gd) {dm na : Nat} {ad : Nat → Nat} (hdm : dm = 1) {x1 : Int} {w w' : Wd} {r : Int}  (hq : p_X9_outputByte x1 w = some (r, w')) : mI l yX9_outputByte cX9_outputByte 2 (some .int) (rmv 2 44 0 0) G dm na ad [.ref (ad (50)), iV (x1)] w r w' := by
  refine met_I [(0, .ref (ad (50))), (1, iV (x1))] (by decide) (Nat.le_of_ble_eq_true rfl) rfl .int rfl (fun g d C S hR => ?_)
  obtain ⟨rfl, hR0, rfl, rfl, rfl, hA⟩ := S
  exact L_X9_outputByte (d := (na, ad, 0, 0)) C hdm hA hR0 ⟨Nat.zero_le _, Nat.zero_le _⟩ hR  _ w hq
