def p_step (xs : Nat → Int32) (i : Int) (na : Nat) (wC wM : Wd) : Option (Nat × Wd × Wd) :=
  if w32 (an32 (sc xs i) 63) = 0 then p_op_0 xs i na wC wM else
  if w32 (an32 (sc xs i) 63) = 1 then p_op_1 xs i na wC wM else
  if w32 (an32 (sc xs i) 63) = 2 then p_op_2 xs i na wC wM else
  if w32 (an32 (sc xs i) 63) = 3 then p_op_3 xs i na wC wM else
  if w32 (an32 (sc xs i) 63) = 4 then p_op_4 xs i na wC wM else
  if w32 (an32 (sc xs i) 63) = 5 then p_op_5 xs i na wC wM else
  if w32 (an32 (sc xs i) 63) = 6 then p_op_6 xs i na wC wM else
  if w32 (an32 (sc xs i) 63) = 7 then p_op_7 xs i na wC wM else
  if w32 (an32 (sc xs i) 63) = 8 then p_op_8 xs i na wC wM else
  if w32 (an32 (sc xs i) 63) = 9 then p_op_9 xs i na wC wM else
  if w32 (an32 (sc xs i) 63) = 10 then p_op_10 xs i na wC wM else
  if w32 (an32 (sc xs i) 63) = 11 then p_op_11 xs i na wC wM else
  if w32 (an32 (sc xs i) 63) = 12 then p_op_12 xs i na wC wM else
  if w32 (an32 (sc xs i) 63) = 13 then p_op_13 xs i na wC wM else
  if w32 (an32 (sc xs i) 63) = 14 then p_op_14 xs i na wC wM else
  if w32 (an32 (sc xs i) 63) = 15 then p_op_15 xs i na wC wM else
  if w32 (an32 (sc xs i) 63) = 16 then p_op_16 xs i na wC wM else
  if w32 (an32 (sc xs i) 63) = 17 then p_op_17 xs i na wC wM else
  if w32 (an32 (sc xs i) 63) = 18 then p_op_18 xs i na wC wM else
  if w32 (an32 (sc xs i) 63) = 19 then p_op_19 xs i na wC wM else
  if w32 (an32 (sc xs i) 63) = 20 then p_op_20 xs i na wC wM else
  if w32 (an32 (sc xs i) 63) = 21 then p_op_21 xs i na wC wM else
  if w32 (an32 (sc xs i) 63) = 22 then p_op_22 xs i na wC wM else
  if w32 (an32 (sc xs i) 63) = 23 then p_op_23 xs i na wC wM else
  if w32 (an32 (sc xs i) 63) = 24 then p_op_24 xs i na wC wM else
  if w32 (an32 (sc xs i) 63) = 25 then p_op_25 xs i na wC wM else
  if w32 (an32 (sc xs i) 63) = 26 then p_op_26 xs i na wC wM else
  if w32 (an32 (sc xs i) 63) = 27 then p_op_27 xs i na wC wM else
  if w32 (an32 (sc xs i) 63) = 28 then p_op_28 xs i na wC wM else
  if w32 (an32 (sc xs i) 63) = 29 then p_op_29 xs i na wC wM else
  if w32 (an32 (sc xs i) 63) = 30 then p_op_30 xs i na wC wM else
  if w32 (an32 (sc xs i) 63) = 31 then p_op_31 xs i na wC wM else
  if w32 (an32 (sc xs i) 63) = 32 then p_op_32 xs i na wC wM else
  if w32 (an32 (sc xs i) 63) = 33 then p_op_33 xs i na wC wM else
  if w32 (an32 (sc xs i) 63) = 34 then p_op_34 xs i na wC wM else
  if w32 (an32 (sc xs i) 63) = 35 then p_op_35 xs i na wC wM else
  if w32 (an32 (sc xs i) 63) = 36 then p_op_36 xs i na wC wM else
  if w32 (an32 (sc xs i) 63) = 37 then p_op_37 xs i na wC wM else
  if w32 (an32 (sc xs i) 63) = 38 then p_op_38 xs i na wC wM else
  if w32 (an32 (sc xs i) 63) = 39 then p_op_39 xs i na wC wM else
  if w32 (an32 (sc xs i) 63) = 40 then p_op_40 xs i na wC wM else
  if w32 (an32 (sc xs i) 63) = 41 then p_op_41 xs i na wC wM else
  if w32 (an32 (sc xs i) 63) = 42 then p_op_42 xs i na wC wM else
  if w32 (an32 (sc xs i) 63) = 43 then p_op_43 xs i na wC wM else
  if w32 (an32 (sc xs i) 63) = 44 then p_op_44 xs i na wC wM else
  if w32 (an32 (sc xs i) 63) = 45 then p_op_45 xs i na wC wM else
  if w32 (an32 (sc xs i) 63) = 46 then p_op_46 xs i na wC wM else
  if w32 (an32 (sc xs i) 63) = 47 then p_op_47 xs i na wC wM else
  if w32 (an32 (sc xs i) 63) = 48 then p_op_48 xs i na wC wM else
  if w32 (an32 (sc xs i) 63) = 49 then p_op_49 xs i na wC wM else
  if w32 (an32 (sc xs i) 63) = 50 then p_op_50 xs i na wC wM else
  some (na, wC, wM)
def p_law (xs : Nat → Int32) (L : Nat) : Nat → Int → Nat → Wd → Wd → Option Unit
  | 0, _, _, _, _ => none
  | n + 1, i, na, wC, wM => if lt32 ((L : Int) - 6) i = true then some () else (p_step xs i na wC wM).bind fun z => p_law xs L n (i + 6) z.1 z.2.1 z.2.2
theorem tsw {x k : Int} (e : w32 x = k) (hk : w32 k = k) : ¬ lt32 x k = true ∧ ¬ lt32 k x = true := by
  unfold lt32
  rw [decide_eq_true_iff, decide_eq_true_iff, e, hk]
  exact ⟨Int.lt_irrefl _, Int.lt_irrefl _⟩
theorem if_t {α : Type} {c : Prop} [Decidable c] {a b : Option α} {r : α} (h : (if c then a else b) = some r) (hc : c) : a = some r := by rw [if_pos hc] at h; exact h
theorem if_f {α : Type} {c : Prop} [Decidable c] {a b : Option α} {r : α} (h : (if c then a else b) = some r) (hc : ¬ c) : b = some r := by rw [if_neg hc] at h; exact h
set_option maxRecDepth 100000 in
theorem L_step {g : Cx} {ret9 : Option FieldType} (C : CX g cL_law 9 ret9 RL) (hfl : g.l.stackTraces = false) (hA : ∀ q : Nat, g.s.heap.size ≤ q → g.A q) (hR : g.R = room_1) (hNC : NC3 g.s) {b L : Nat} {xs : Nat → Int32} (hX : va_X b L xs g.s g.s.heap) (hb : b < g.s.heap.size) (hbA : ¬ g.A b) (hL : L ≤ 3072) {i : Int} (hi : 0 ≤ i ∧ i + 5 < L) {d : Dl} {adM : Nat → Nat} {wC wM : Wd} (hce : d.ce + 15 ≤ MCL ∧ d.so + 852 ≤ MSL) {res : Nat × Wd × Wd} (hq : p_step xs i d.na wC wM = some res)
    (K : ∀ (d1 : Dl) (w1 w2 : Wd), AG d.na d.ad d1 → d1.ce ≤ d.ce + 15 → d1.so ≤ d.so + 852 → some (d1.na, w1, w2) = some res → XG g d1 (hQ g d1 adM w1 w2) [(0, .ref b), (1, .ref (d1.ad 1)), (2, .ref (adM 50)), (3, .ref (d1.ad 34)), (4, iV i)] [] 2560) :
    XG g d (hQ g d adM wC wM) [(0, .ref b), (1, .ref (d.ad 1)), (2, .ref (adM 50)), (3, .ref (d.ad 34)), (4, iV i)] [] 33 := by
  refine x_aload_n C 0 dL_law_33 rfl ?_
  refine x_iload C 4 dL_law_34 rfl ?_
  refine q_sld C hX hb hbA ⟨by omega, by omega⟩ hL dL_law_36 ?_
  refine x_bipush (v := 63) C dL_law_37 (by decide +kernel) ?_
  refine x_iand C dL_law_39 ?_
  unfold p_step at hq
  by_cases c0 : w32 (an32 (sc xs i) 63) = 0
  · exact x_tswk (tgt := 260) C (0) (tsw c0 (by decide +kernel)).1 (tsw c0 (by decide +kernel)).2 (by decide +kernel) dL_law_40 rfl (by decide) (L_op_0 C hfl hA hR hNC hX hb hbA hL hi hce (if_t hq c0) K)
  replace hq := if_f hq c0
  by_cases c1 : w32 (an32 (sc xs i) 63) = 1
  · exact x_tswk (tgt := 364) C (1) (tsw c1 (by decide +kernel)).1 (tsw c1 (by decide +kernel)).2 (by decide +kernel) dL_law_40 rfl (by decide) (L_op_1 C hfl hA hR hNC hX hb hbA hL hi hce (if_t hq c1) K)
  replace hq := if_f hq c1
  by_cases c2 : w32 (an32 (sc xs i) 63) = 2
  · exact x_tswk (tgt := 400) C (2) (tsw c2 (by decide +kernel)).1 (tsw c2 (by decide +kernel)).2 (by decide +kernel) dL_law_40 rfl (by decide) (L_op_2 C hfl hA hR hNC hX hb hbA hL hi hce (if_t hq c2) K)
  replace hq := if_f hq c2
  by_cases c3 : w32 (an32 (sc xs i) 63) = 3
  · exact x_tswk (tgt := 413) C (3) (tsw c3 (by decide +kernel)).1 (tsw c3 (by decide +kernel)).2 (by decide +kernel) dL_law_40 rfl (by decide) (L_op_3 C hfl hA hR hNC hX hb hbA hL hi hce (if_t hq c3) K)
  replace hq := if_f hq c3
  by_cases c4 : w32 (an32 (sc xs i) 63) = 4
  · exact x_tswk (tgt := 426) C (4) (tsw c4 (by decide +kernel)).1 (tsw c4 (by decide +kernel)).2 (by decide +kernel) dL_law_40 rfl (by decide) (L_op_4 C hfl hA hR hNC hX hb hbA hL hi hce (if_t hq c4) K)
  replace hq := if_f hq c4
  by_cases c5 : w32 (an32 (sc xs i) 63) = 5
  · exact x_tswk (tgt := 439) C (5) (tsw c5 (by decide +kernel)).1 (tsw c5 (by decide +kernel)).2 (by decide +kernel) dL_law_40 rfl (by decide) (L_op_5 C hfl hA hR hNC hX hb hbA hL hi hce (if_t hq c5) K)
  replace hq := if_f hq c5
  by_cases c6 : w32 (an32 (sc xs i) 63) = 6
  · exact x_tswk (tgt := 495) C (6) (tsw c6 (by decide +kernel)).1 (tsw c6 (by decide +kernel)).2 (by decide +kernel) dL_law_40 rfl (by decide) (L_op_6 C hfl hA hR hNC hX hb hbA hL hi hce (if_t hq c6) K)
  replace hq := if_f hq c6
  by_cases c7 : w32 (an32 (sc xs i) 63) = 7
  · exact x_tswk (tgt := 563) C (7) (tsw c7 (by decide +kernel)).1 (tsw c7 (by decide +kernel)).2 (by decide +kernel) dL_law_40 rfl (by decide) (L_op_7 C hfl hA hR hNC hX hb hbA hL hi hce (if_t hq c7) K)
  replace hq := if_f hq c7
  by_cases c8 : w32 (an32 (sc xs i) 63) = 8
  · exact x_tswk (tgt := 631) C (8) (tsw c8 (by decide +kernel)).1 (tsw c8 (by decide +kernel)).2 (by decide +kernel) dL_law_40 rfl (by decide) (L_op_8 C hfl hA hR hNC hX hb hbA hL hi hce (if_t hq c8) K)
  replace hq := if_f hq c8
  by_cases c9 : w32 (an32 (sc xs i) 63) = 9
  · exact x_tswk (tgt := 699) C (9) (tsw c9 (by decide +kernel)).1 (tsw c9 (by decide +kernel)).2 (by decide +kernel) dL_law_40 rfl (by decide) (L_op_9 C hfl hA hR hNC hX hb hbA hL hi hce (if_t hq c9) K)
  replace hq := if_f hq c9
  by_cases c10 : w32 (an32 (sc xs i) 63) = 10
  · exact x_tswk (tgt := 767) C (10) (tsw c10 (by decide +kernel)).1 (tsw c10 (by decide +kernel)).2 (by decide +kernel) dL_law_40 rfl (by decide) (L_op_10 C hfl hA hR hNC hX hb hbA hL hi hce (if_t hq c10) K)
  replace hq := if_f hq c10
  by_cases c11 : w32 (an32 (sc xs i) 63) = 11
  · exact x_tswk (tgt := 835) C (11) (tsw c11 (by decide +kernel)).1 (tsw c11 (by decide +kernel)).2 (by decide +kernel) dL_law_40 rfl (by decide) (L_op_11 C hfl hA hR hNC hX hb hbA hL hi hce (if_t hq c11) K)
  replace hq := if_f hq c11
  by_cases c12 : w32 (an32 (sc xs i) 63) = 12
  · exact x_tswk (tgt := 891) C (12) (tsw c12 (by decide +kernel)).1 (tsw c12 (by decide +kernel)).2 (by decide +kernel) dL_law_40 rfl (by decide) (L_op_12 C hfl hA hR hNC hX hb hbA hL hi hce (if_t hq c12) K)
  replace hq := if_f hq c12
  by_cases c13 : w32 (an32 (sc xs i) 63) = 13
  · exact x_tswk (tgt := 947) C (13) (tsw c13 (by decide +kernel)).1 (tsw c13 (by decide +kernel)).2 (by decide +kernel) dL_law_40 rfl (by decide) (L_op_13 C hfl hA hR hNC hX hb hbA hL hi hce (if_t hq c13) K)
  replace hq := if_f hq c13
  by_cases c14 : w32 (an32 (sc xs i) 63) = 14
  · exact x_tswk (tgt := 960) C (14) (tsw c14 (by decide +kernel)).1 (tsw c14 (by decide +kernel)).2 (by decide +kernel) dL_law_40 rfl (by decide) (L_op_14 C hfl hA hR hNC hX hb hbA hL hi hce (if_t hq c14) K)
  replace hq := if_f hq c14
  by_cases c15 : w32 (an32 (sc xs i) 63) = 15
  · exact x_tswk (tgt := 973) C (15) (tsw c15 (by decide +kernel)).1 (tsw c15 (by decide +kernel)).2 (by decide +kernel) dL_law_40 rfl (by decide) (L_op_15 C hfl hA hR hNC hX hb hbA hL hi hce (if_t hq c15) K)
  replace hq := if_f hq c15
  by_cases c16 : w32 (an32 (sc xs i) 63) = 16
  · exact x_tswk (tgt := 986) C (16) (tsw c16 (by decide +kernel)).1 (tsw c16 (by decide +kernel)).2 (by decide +kernel) dL_law_40 rfl (by decide) (L_op_16 C hfl hA hR hNC hX hb hbA hL hi hce (if_t hq c16) K)
  replace hq := if_f hq c16
  by_cases c17 : w32 (an32 (sc xs i) 63) = 17
  · exact x_tswk (tgt := 1042) C (17) (tsw c17 (by decide +kernel)).1 (tsw c17 (by decide +kernel)).2 (by decide +kernel) dL_law_40 rfl (by decide) (L_op_17 C hfl hA hR hNC hX hb hbA hL hi hce (if_t hq c17) K)
  replace hq := if_f hq c17
  by_cases c18 : w32 (an32 (sc xs i) 63) = 18
  · exact x_tswk (tgt := 1098) C (18) (tsw c18 (by decide +kernel)).1 (tsw c18 (by decide +kernel)).2 (by decide +kernel) dL_law_40 rfl (by decide) (L_op_18 C hfl hA hR hNC hX hb hbA hL hi hce (if_t hq c18) K)
  replace hq := if_f hq c18
  by_cases c19 : w32 (an32 (sc xs i) 63) = 19
  · exact x_tswk (tgt := 1111) C (19) (tsw c19 (by decide +kernel)).1 (tsw c19 (by decide +kernel)).2 (by decide +kernel) dL_law_40 rfl (by decide) (L_op_19 C hfl hA hR hNC hX hb hbA hL hi hce (if_t hq c19) K)
  replace hq := if_f hq c19
  by_cases c20 : w32 (an32 (sc xs i) 63) = 20
  · exact x_tswk (tgt := 1167) C (20) (tsw c20 (by decide +kernel)).1 (tsw c20 (by decide +kernel)).2 (by decide +kernel) dL_law_40 rfl (by decide) (L_op_20 C hfl hA hR hNC hX hb hbA hL hi hce (if_t hq c20) K)
  replace hq := if_f hq c20
  by_cases c21 : w32 (an32 (sc xs i) 63) = 21
  · exact x_tswk (tgt := 1180) C (21) (tsw c21 (by decide +kernel)).1 (tsw c21 (by decide +kernel)).2 (by decide +kernel) dL_law_40 rfl (by decide) (L_op_21 C hfl hA hR hNC hX hb hbA hL hi hce (if_t hq c21) K)
  replace hq := if_f hq c21
  by_cases c22 : w32 (an32 (sc xs i) 63) = 22
  · exact x_tswk (tgt := 1248) C (22) (tsw c22 (by decide +kernel)).1 (tsw c22 (by decide +kernel)).2 (by decide +kernel) dL_law_40 rfl (by decide) (L_op_22 C hfl hA hR hNC hX hb hbA hL hi hce (if_t hq c22) K)
  replace hq := if_f hq c22
  by_cases c23 : w32 (an32 (sc xs i) 63) = 23
  · exact x_tswk (tgt := 1261) C (23) (tsw c23 (by decide +kernel)).1 (tsw c23 (by decide +kernel)).2 (by decide +kernel) dL_law_40 rfl (by decide) (L_op_23 C hfl hA hR hNC hX hb hbA hL hi hce (if_t hq c23) K)
  replace hq := if_f hq c23
  by_cases c24 : w32 (an32 (sc xs i) 63) = 24
  · exact x_tswk (tgt := 1274) C (24) (tsw c24 (by decide +kernel)).1 (tsw c24 (by decide +kernel)).2 (by decide +kernel) dL_law_40 rfl (by decide) (L_op_24 C hfl hA hR hNC hX hb hbA hL hi hce (if_t hq c24) K)
  replace hq := if_f hq c24
  by_cases c25 : w32 (an32 (sc xs i) 63) = 25
  · exact x_tswk (tgt := 1330) C (25) (tsw c25 (by decide +kernel)).1 (tsw c25 (by decide +kernel)).2 (by decide +kernel) dL_law_40 rfl (by decide) (L_op_25 C hfl hA hR hNC hX hb hbA hL hi hce (if_t hq c25) K)
  replace hq := if_f hq c25
  by_cases c26 : w32 (an32 (sc xs i) 63) = 26
  · exact x_tswk (tgt := 1343) C (26) (tsw c26 (by decide +kernel)).1 (tsw c26 (by decide +kernel)).2 (by decide +kernel) dL_law_40 rfl (by decide) (L_op_26 C hfl hA hR hNC hX hb hbA hL hi hce (if_t hq c26) K)
  replace hq := if_f hq c26
  by_cases c27 : w32 (an32 (sc xs i) 63) = 27
  · exact x_tswk (tgt := 1356) C (27) (tsw c27 (by decide +kernel)).1 (tsw c27 (by decide +kernel)).2 (by decide +kernel) dL_law_40 rfl (by decide) (L_op_27 C hfl hA hR hNC hX hb hbA hL hi hce (if_t hq c27) K)
  replace hq := if_f hq c27
  by_cases c28 : w32 (an32 (sc xs i) 63) = 28
  · exact x_tswk (tgt := 1412) C (28) (tsw c28 (by decide +kernel)).1 (tsw c28 (by decide +kernel)).2 (by decide +kernel) dL_law_40 rfl (by decide) (L_op_28 C hfl hA hR hNC hX hb hbA hL hi hce (if_t hq c28) K)
  replace hq := if_f hq c28
  by_cases c29 : w32 (an32 (sc xs i) 63) = 29
  · exact x_tswk (tgt := 1468) C (29) (tsw c29 (by decide +kernel)).1 (tsw c29 (by decide +kernel)).2 (by decide +kernel) dL_law_40 rfl (by decide) (L_op_29 C hfl hA hR hNC hX hb hbA hL hi hce (if_t hq c29) K)
  replace hq := if_f hq c29
  by_cases c30 : w32 (an32 (sc xs i) 63) = 30
  · exact x_tswk (tgt := 1481) C (30) (tsw c30 (by decide +kernel)).1 (tsw c30 (by decide +kernel)).2 (by decide +kernel) dL_law_40 rfl (by decide) (L_op_30 C hfl hA hR hNC hX hb hbA hL hi hce (if_t hq c30) K)
  replace hq := if_f hq c30
  by_cases c31 : w32 (an32 (sc xs i) 63) = 31
  · exact x_tswk (tgt := 1494) C (31) (tsw c31 (by decide +kernel)).1 (tsw c31 (by decide +kernel)).2 (by decide +kernel) dL_law_40 rfl (by decide) (L_op_31 C hfl hA hR hNC hX hb hbA hL hi hce (if_t hq c31) K)
  replace hq := if_f hq c31
  by_cases c32 : w32 (an32 (sc xs i) 63) = 32
  · exact x_tswk (tgt := 1537) C (32) (tsw c32 (by decide +kernel)).1 (tsw c32 (by decide +kernel)).2 (by decide +kernel) dL_law_40 rfl (by decide) (L_op_32 C hfl hA hR hNC hX hb hbA hL hi hce (if_t hq c32) K)
  replace hq := if_f hq c32
  by_cases c33 : w32 (an32 (sc xs i) 63) = 33
  · exact x_tswk (tgt := 1578) C (33) (tsw c33 (by decide +kernel)).1 (tsw c33 (by decide +kernel)).2 (by decide +kernel) dL_law_40 rfl (by decide) (L_op_33 C hfl hA hR hNC hX hb hbA hL hi hce (if_t hq c33) K)
  replace hq := if_f hq c33
  by_cases c34 : w32 (an32 (sc xs i) 63) = 34
  · exact x_tswk (tgt := 1619) C (34) (tsw c34 (by decide +kernel)).1 (tsw c34 (by decide +kernel)).2 (by decide +kernel) dL_law_40 rfl (by decide) (L_op_34 C hfl hA hR hNC hX hb hbA hL hi hce (if_t hq c34) K)
  replace hq := if_f hq c34
  by_cases c35 : w32 (an32 (sc xs i) 63) = 35
  · exact x_tswk (tgt := 1675) C (35) (tsw c35 (by decide +kernel)).1 (tsw c35 (by decide +kernel)).2 (by decide +kernel) dL_law_40 rfl (by decide) (L_op_35 C hfl hA hR hNC hX hb hbA hL hi hce (if_t hq c35) K)
  replace hq := if_f hq c35
  by_cases c36 : w32 (an32 (sc xs i) 63) = 36
  · exact x_tswk (tgt := 1731) C (36) (tsw c36 (by decide +kernel)).1 (tsw c36 (by decide +kernel)).2 (by decide +kernel) dL_law_40 rfl (by decide) (L_op_36 C hfl hA hR hNC hX hb hbA hL hi hce (if_t hq c36) K)
  replace hq := if_f hq c36
  by_cases c37 : w32 (an32 (sc xs i) 63) = 37
  · exact x_tswk (tgt := 1799) C (37) (tsw c37 (by decide +kernel)).1 (tsw c37 (by decide +kernel)).2 (by decide +kernel) dL_law_40 rfl (by decide) (L_op_37 C hfl hA hR hNC hX hb hbA hL hi hce (if_t hq c37) K)
  replace hq := if_f hq c37
  by_cases c38 : w32 (an32 (sc xs i) 63) = 38
  · exact x_tswk (tgt := 1902) C (38) (tsw c38 (by decide +kernel)).1 (tsw c38 (by decide +kernel)).2 (by decide +kernel) dL_law_40 rfl (by decide) (L_op_38 C hfl hA hR hNC hX hb hbA hL hi hce (if_t hq c38) K)
  replace hq := if_f hq c38
  by_cases c39 : w32 (an32 (sc xs i) 63) = 39
  · exact x_tswk (tgt := 1958) C (39) (tsw c39 (by decide +kernel)).1 (tsw c39 (by decide +kernel)).2 (by decide +kernel) dL_law_40 rfl (by decide) (L_op_39 C hfl hA hR hNC hX hb hbA hL hi hce (if_t hq c39) K)
  replace hq := if_f hq c39
  by_cases c40 : w32 (an32 (sc xs i) 63) = 40
  · exact x_tswk (tgt := 2002) C (40) (tsw c40 (by decide +kernel)).1 (tsw c40 (by decide +kernel)).2 (by decide +kernel) dL_law_40 rfl (by decide) (L_op_40 C hfl hA hR hNC hX hb hbA hL hi hce (if_t hq c40) K)
  replace hq := if_f hq c40
  by_cases c41 : w32 (an32 (sc xs i) 63) = 41
  · exact x_tswk (tgt := 2086) C (41) (tsw c41 (by decide +kernel)).1 (tsw c41 (by decide +kernel)).2 (by decide +kernel) dL_law_40 rfl (by decide) (L_op_41 C hfl hA hR hNC hX hb hbA hL hi hce (if_t hq c41) K)
  replace hq := if_f hq c41
  by_cases c42 : w32 (an32 (sc xs i) 63) = 42
  · exact x_tswk (tgt := 2142) C (42) (tsw c42 (by decide +kernel)).1 (tsw c42 (by decide +kernel)).2 (by decide +kernel) dL_law_40 rfl (by decide) (L_op_42 C hfl hA hR hNC hX hb hbA hL hi hce (if_t hq c42) K)
  replace hq := if_f hq c42
  by_cases c43 : w32 (an32 (sc xs i) 63) = 43
  · exact x_tswk (tgt := 2155) C (43) (tsw c43 (by decide +kernel)).1 (tsw c43 (by decide +kernel)).2 (by decide +kernel) dL_law_40 rfl (by decide) (L_op_43 C hfl hA hR hNC hX hb hbA hL hi hce (if_t hq c43) K)
  replace hq := if_f hq c43
  by_cases c44 : w32 (an32 (sc xs i) 63) = 44
  · exact x_tswk (tgt := 2223) C (44) (tsw c44 (by decide +kernel)).1 (tsw c44 (by decide +kernel)).2 (by decide +kernel) dL_law_40 rfl (by decide) (L_op_44 C hfl hA hR hNC hX hb hbA hL hi hce (if_t hq c44) K)
  replace hq := if_f hq c44
  by_cases c45 : w32 (an32 (sc xs i) 63) = 45
  · exact x_tswk (tgt := 2279) C (45) (tsw c45 (by decide +kernel)).1 (tsw c45 (by decide +kernel)).2 (by decide +kernel) dL_law_40 rfl (by decide) (L_op_45 C hfl hA hR hNC hX hb hbA hL hi hce (if_t hq c45) K)
  replace hq := if_f hq c45
  by_cases c46 : w32 (an32 (sc xs i) 63) = 46
  · exact x_tswk (tgt := 2335) C (46) (tsw c46 (by decide +kernel)).1 (tsw c46 (by decide +kernel)).2 (by decide +kernel) dL_law_40 rfl (by decide) (L_op_46 C hfl hA hR hNC hX hb hbA hL hi hce (if_t hq c46) K)
  replace hq := if_f hq c46
  by_cases c47 : w32 (an32 (sc xs i) 63) = 47
  · exact x_tswk (tgt := 2379) C (47) (tsw c47 (by decide +kernel)).1 (tsw c47 (by decide +kernel)).2 (by decide +kernel) dL_law_40 rfl (by decide) (L_op_47 C hfl hA hR hNC hX hb hbA hL hi hce (if_t hq c47) K)
  replace hq := if_f hq c47
  by_cases c48 : w32 (an32 (sc xs i) 63) = 48
  · exact x_tswk (tgt := 2392) C (48) (tsw c48 (by decide +kernel)).1 (tsw c48 (by decide +kernel)).2 (by decide +kernel) dL_law_40 rfl (by decide) (L_op_48 C hfl hA hR hNC hX hb hbA hL hi hce (if_t hq c48) K)
  replace hq := if_f hq c48
  by_cases c49 : w32 (an32 (sc xs i) 63) = 49
  · exact x_tswk (tgt := 2448) C (49) (tsw c49 (by decide +kernel)).1 (tsw c49 (by decide +kernel)).2 (by decide +kernel) dL_law_40 rfl (by decide) (L_op_49 C hfl hA hR hNC hX hb hbA hL hi hce (if_t hq c49) K)
  replace hq := if_f hq c49
  by_cases c50 : w32 (an32 (sc xs i) 63) = 50
  · exact x_tswk (tgt := 2504) C (50) (tsw c50 (by decide +kernel)).1 (tsw c50 (by decide +kernel)).2 (by decide +kernel) dL_law_40 rfl (by decide) (L_op_50 C hfl hA hR hNC hX hb hbA hL hi hce (if_t hq c50) K)
  replace hq := if_f hq c50
  refine x_tswd (tgt := 2560) C ?_ (by decide +kernel) dL_law_40 (by decide) ?_
  · unfold lt32
    rw [decide_eq_true_iff, decide_eq_true_iff, show w32 0 = 0 from by decide +kernel, show w32 50 = 50 from by decide +kernel]
    omega
  · exact K d _ _ (AG.rf _) (Nat.le_add_right _ _) (Nat.le_add_right _ _) hq
set_option maxRecDepth 100000 in
theorem L_loop {g : Cx} {ret9 : Option FieldType} (C : CX g cL_law 9 ret9 RL) (hfl : g.l.stackTraces = false) (hA : ∀ q : Nat, g.s.heap.size ≤ q → g.A q) (hR : g.R = room_1) (hNC : NC3 g.s) {b L : Nat} {xs : Nat → Int32} (hX : va_X b L xs g.s g.s.heap) (hb : b < g.s.heap.size) (hbA : ¬ g.A b) (hL : L ≤ 3072) {adM : Nat → Nat}
    (K : ∀ (d1 : Dl) (lv : List (Nat × Value)) (w1 w2 : Wd), d1.ce ≤ MCL → d1.so ≤ MSL → XG g d1 (hQ g d1 adM w1 w2) lv [] 2566) :
    ∀ (n k : Nat) (i : Int) (d : Dl) (wC wM : Wd), i = 6 * (k : Int) → k ≤ 513 → d.ce ≤ 1000 + 15 * k → d.so ≤ 30000 + 852 * k → p_law xs L n i d.na wC wM = some () → XG g d (hQ g d adM wC wM) [(0, .ref b), (1, .ref (d.ad 1)), (2, .ref (adM 50)), (3, .ref (d.ad 34)), (4, iV i)] [] 23 := by
  intro n
  induction n with
  | zero => intro k i d wC wM hi hk h1 h2 hq; cases hq
  | succ n ih =>
    intro k i d wC wM hi hk h1 h2 hq
    unfold p_law at hq
    refine x_iload C 4 dL_law_23 rfl ?_
    refine x_aload_n C 0 dL_law_25 rfl ?_
    refine q_slen C hX hb hbA dL_law_26 ?_
    refine x_bipush (v := 6) C dL_law_27 (by decide +kernel) ?_
    refine x_isub C dL_law_29 ?_
    by_cases hlt : lt32 ((L : Int) - 6) i = true
    · refine x_icmp_gt (tgt := 2566) (P1 := some ()) (P2 := none) (z := ()) C dL_law_30 (by decide) (by rw [if_pos hlt]) (fun _ => ?_) (fun h => nomatch h)
      exact K d _ _ _ (by show d.ce ≤ 601024; omega) (by show d.so ≤ 7293034; omega)
    · refine x_icmp_gt (tgt := 2566) (P1 := none) (P2 := some ()) (z := ()) C dL_law_30 (by decide) (by rw [if_neg hlt]) (fun h => nomatch h) (fun _ => ?_)
      replace hq := if_f hq hlt
      obtain ⟨z, hz, hq⟩ := Option.bind_eq_some_iff.mp hq
      have hlt2 : ¬ ((L : Int) - 6 < i) := by
        unfold lt32 at hlt
        rw [decide_eq_true_iff, w32_id (by omega) (by omega), w32_id (by omega) (by omega)] at hlt
        exact hlt
      refine L_step C hfl hA hR hNC hX hb hbA hL (i := i) ⟨by omega, by omega⟩ ⟨by show d.ce + 15 ≤ 601024; omega, by show d.so + 852 ≤ 7293034; omega⟩ hz (fun d1 w1 w2 hag hc hs he => ?_)
      cases he
      refine x_iinc C 4 dL_law_2560 rfl (by decide) rfl ?_
      refine x_goto (tgt := 23) C dL_law_2563 (by decide) ?_
      refine XG.sub [1, 2, 3, 4, 0] rfl ?_
      exact ih (k + 1) (i + 6) d1 w1 w2 (by omega) (by omega) (by omega) (by omega) hq
