theorem step_all {P : Nat × Wd × Wd → Prop} {xs : Nat → Int32} {i : Int} {na : Nat} {wC wM : Wd}
    (h0 : ∃ z, p_op_0 xs i na wC wM = some z ∧ P z)
    (h1 : ∃ z, p_op_1 xs i na wC wM = some z ∧ P z)
    (h2 : ∃ z, p_op_2 xs i na wC wM = some z ∧ P z)
    (h3 : ∃ z, p_op_3 xs i na wC wM = some z ∧ P z)
    (h4 : ∃ z, p_op_4 xs i na wC wM = some z ∧ P z)
    (h5 : ∃ z, p_op_5 xs i na wC wM = some z ∧ P z)
    (h6 : ∃ z, p_op_6 xs i na wC wM = some z ∧ P z)
    (h7 : ∃ z, p_op_7 xs i na wC wM = some z ∧ P z)
    (h8 : ∃ z, p_op_8 xs i na wC wM = some z ∧ P z)
    (h9 : ∃ z, p_op_9 xs i na wC wM = some z ∧ P z)
    (h10 : ∃ z, p_op_10 xs i na wC wM = some z ∧ P z)
    (h11 : ∃ z, p_op_11 xs i na wC wM = some z ∧ P z)
    (h12 : ∃ z, p_op_12 xs i na wC wM = some z ∧ P z)
    (h13 : ∃ z, p_op_13 xs i na wC wM = some z ∧ P z)
    (h14 : ∃ z, p_op_14 xs i na wC wM = some z ∧ P z)
    (h15 : ∃ z, p_op_15 xs i na wC wM = some z ∧ P z)
    (h16 : ∃ z, p_op_16 xs i na wC wM = some z ∧ P z)
    (h17 : ∃ z, p_op_17 xs i na wC wM = some z ∧ P z)
    (h18 : ∃ z, p_op_18 xs i na wC wM = some z ∧ P z)
    (h19 : ∃ z, p_op_19 xs i na wC wM = some z ∧ P z)
    (h20 : ∃ z, p_op_20 xs i na wC wM = some z ∧ P z)
    (h21 : ∃ z, p_op_21 xs i na wC wM = some z ∧ P z)
    (h22 : ∃ z, p_op_22 xs i na wC wM = some z ∧ P z)
    (h23 : ∃ z, p_op_23 xs i na wC wM = some z ∧ P z)
    (h24 : ∃ z, p_op_24 xs i na wC wM = some z ∧ P z)
    (h25 : ∃ z, p_op_25 xs i na wC wM = some z ∧ P z)
    (h26 : ∃ z, p_op_26 xs i na wC wM = some z ∧ P z)
    (h27 : ∃ z, p_op_27 xs i na wC wM = some z ∧ P z)
    (h28 : ∃ z, p_op_28 xs i na wC wM = some z ∧ P z)
    (h29 : ∃ z, p_op_29 xs i na wC wM = some z ∧ P z)
    (h30 : ∃ z, p_op_30 xs i na wC wM = some z ∧ P z)
    (h31 : ∃ z, p_op_31 xs i na wC wM = some z ∧ P z)
    (h32 : ∃ z, p_op_32 xs i na wC wM = some z ∧ P z)
    (h33 : ∃ z, p_op_33 xs i na wC wM = some z ∧ P z)
    (h34 : ∃ z, p_op_34 xs i na wC wM = some z ∧ P z)
    (h35 : ∃ z, p_op_35 xs i na wC wM = some z ∧ P z)
    (h36 : ∃ z, p_op_36 xs i na wC wM = some z ∧ P z)
    (h37 : ∃ z, p_op_37 xs i na wC wM = some z ∧ P z)
    (h38 : ∃ z, p_op_38 xs i na wC wM = some z ∧ P z)
    (h39 : ∃ z, p_op_39 xs i na wC wM = some z ∧ P z)
    (h40 : ∃ z, p_op_40 xs i na wC wM = some z ∧ P z)
    (h41 : ∃ z, p_op_41 xs i na wC wM = some z ∧ P z)
    (h42 : ∃ z, p_op_42 xs i na wC wM = some z ∧ P z)
    (h43 : ∃ z, p_op_43 xs i na wC wM = some z ∧ P z)
    (h44 : ∃ z, p_op_44 xs i na wC wM = some z ∧ P z)
    (h45 : ∃ z, p_op_45 xs i na wC wM = some z ∧ P z)
    (h46 : ∃ z, p_op_46 xs i na wC wM = some z ∧ P z)
    (h47 : ∃ z, p_op_47 xs i na wC wM = some z ∧ P z)
    (h48 : ∃ z, p_op_48 xs i na wC wM = some z ∧ P z)
    (h49 : ∃ z, p_op_49 xs i na wC wM = some z ∧ P z)
    (h50 : ∃ z, p_op_50 xs i na wC wM = some z ∧ P z)
    (hd : P (na, wC, wM)) : ∃ z, p_step xs i na wC wM = some z ∧ P z := by
  unfold p_step
  by_cases c0 : w32 (an32 (sc xs i) 63) = 0
  · rw [if_pos c0]; exact h0
  rw [if_neg c0]
  by_cases c1 : w32 (an32 (sc xs i) 63) = 1
  · rw [if_pos c1]; exact h1
  rw [if_neg c1]
  by_cases c2 : w32 (an32 (sc xs i) 63) = 2
  · rw [if_pos c2]; exact h2
  rw [if_neg c2]
  by_cases c3 : w32 (an32 (sc xs i) 63) = 3
  · rw [if_pos c3]; exact h3
  rw [if_neg c3]
  by_cases c4 : w32 (an32 (sc xs i) 63) = 4
  · rw [if_pos c4]; exact h4
  rw [if_neg c4]
  by_cases c5 : w32 (an32 (sc xs i) 63) = 5
  · rw [if_pos c5]; exact h5
  rw [if_neg c5]
  by_cases c6 : w32 (an32 (sc xs i) 63) = 6
  · rw [if_pos c6]; exact h6
  rw [if_neg c6]
  by_cases c7 : w32 (an32 (sc xs i) 63) = 7
  · rw [if_pos c7]; exact h7
  rw [if_neg c7]
  by_cases c8 : w32 (an32 (sc xs i) 63) = 8
  · rw [if_pos c8]; exact h8
  rw [if_neg c8]
  by_cases c9 : w32 (an32 (sc xs i) 63) = 9
  · rw [if_pos c9]; exact h9
  rw [if_neg c9]
  by_cases c10 : w32 (an32 (sc xs i) 63) = 10
  · rw [if_pos c10]; exact h10
  rw [if_neg c10]
  by_cases c11 : w32 (an32 (sc xs i) 63) = 11
  · rw [if_pos c11]; exact h11
  rw [if_neg c11]
  by_cases c12 : w32 (an32 (sc xs i) 63) = 12
  · rw [if_pos c12]; exact h12
  rw [if_neg c12]
  by_cases c13 : w32 (an32 (sc xs i) 63) = 13
  · rw [if_pos c13]; exact h13
  rw [if_neg c13]
  by_cases c14 : w32 (an32 (sc xs i) 63) = 14
  · rw [if_pos c14]; exact h14
  rw [if_neg c14]
  by_cases c15 : w32 (an32 (sc xs i) 63) = 15
  · rw [if_pos c15]; exact h15
  rw [if_neg c15]
  by_cases c16 : w32 (an32 (sc xs i) 63) = 16
  · rw [if_pos c16]; exact h16
  rw [if_neg c16]
  by_cases c17 : w32 (an32 (sc xs i) 63) = 17
  · rw [if_pos c17]; exact h17
  rw [if_neg c17]
  by_cases c18 : w32 (an32 (sc xs i) 63) = 18
  · rw [if_pos c18]; exact h18
  rw [if_neg c18]
  by_cases c19 : w32 (an32 (sc xs i) 63) = 19
  · rw [if_pos c19]; exact h19
  rw [if_neg c19]
  by_cases c20 : w32 (an32 (sc xs i) 63) = 20
  · rw [if_pos c20]; exact h20
  rw [if_neg c20]
  by_cases c21 : w32 (an32 (sc xs i) 63) = 21
  · rw [if_pos c21]; exact h21
  rw [if_neg c21]
  by_cases c22 : w32 (an32 (sc xs i) 63) = 22
  · rw [if_pos c22]; exact h22
  rw [if_neg c22]
  by_cases c23 : w32 (an32 (sc xs i) 63) = 23
  · rw [if_pos c23]; exact h23
  rw [if_neg c23]
  by_cases c24 : w32 (an32 (sc xs i) 63) = 24
  · rw [if_pos c24]; exact h24
  rw [if_neg c24]
  by_cases c25 : w32 (an32 (sc xs i) 63) = 25
  · rw [if_pos c25]; exact h25
  rw [if_neg c25]
  by_cases c26 : w32 (an32 (sc xs i) 63) = 26
  · rw [if_pos c26]; exact h26
  rw [if_neg c26]
  by_cases c27 : w32 (an32 (sc xs i) 63) = 27
  · rw [if_pos c27]; exact h27
  rw [if_neg c27]
  by_cases c28 : w32 (an32 (sc xs i) 63) = 28
  · rw [if_pos c28]; exact h28
  rw [if_neg c28]
  by_cases c29 : w32 (an32 (sc xs i) 63) = 29
  · rw [if_pos c29]; exact h29
  rw [if_neg c29]
  by_cases c30 : w32 (an32 (sc xs i) 63) = 30
  · rw [if_pos c30]; exact h30
  rw [if_neg c30]
  by_cases c31 : w32 (an32 (sc xs i) 63) = 31
  · rw [if_pos c31]; exact h31
  rw [if_neg c31]
  by_cases c32 : w32 (an32 (sc xs i) 63) = 32
  · rw [if_pos c32]; exact h32
  rw [if_neg c32]
  by_cases c33 : w32 (an32 (sc xs i) 63) = 33
  · rw [if_pos c33]; exact h33
  rw [if_neg c33]
  by_cases c34 : w32 (an32 (sc xs i) 63) = 34
  · rw [if_pos c34]; exact h34
  rw [if_neg c34]
  by_cases c35 : w32 (an32 (sc xs i) 63) = 35
  · rw [if_pos c35]; exact h35
  rw [if_neg c35]
  by_cases c36 : w32 (an32 (sc xs i) 63) = 36
  · rw [if_pos c36]; exact h36
  rw [if_neg c36]
  by_cases c37 : w32 (an32 (sc xs i) 63) = 37
  · rw [if_pos c37]; exact h37
  rw [if_neg c37]
  by_cases c38 : w32 (an32 (sc xs i) 63) = 38
  · rw [if_pos c38]; exact h38
  rw [if_neg c38]
  by_cases c39 : w32 (an32 (sc xs i) 63) = 39
  · rw [if_pos c39]; exact h39
  rw [if_neg c39]
  by_cases c40 : w32 (an32 (sc xs i) 63) = 40
  · rw [if_pos c40]; exact h40
  rw [if_neg c40]
  by_cases c41 : w32 (an32 (sc xs i) 63) = 41
  · rw [if_pos c41]; exact h41
  rw [if_neg c41]
  by_cases c42 : w32 (an32 (sc xs i) 63) = 42
  · rw [if_pos c42]; exact h42
  rw [if_neg c42]
  by_cases c43 : w32 (an32 (sc xs i) 63) = 43
  · rw [if_pos c43]; exact h43
  rw [if_neg c43]
  by_cases c44 : w32 (an32 (sc xs i) 63) = 44
  · rw [if_pos c44]; exact h44
  rw [if_neg c44]
  by_cases c45 : w32 (an32 (sc xs i) 63) = 45
  · rw [if_pos c45]; exact h45
  rw [if_neg c45]
  by_cases c46 : w32 (an32 (sc xs i) 63) = 46
  · rw [if_pos c46]; exact h46
  rw [if_neg c46]
  by_cases c47 : w32 (an32 (sc xs i) 63) = 47
  · rw [if_pos c47]; exact h47
  rw [if_neg c47]
  by_cases c48 : w32 (an32 (sc xs i) 63) = 48
  · rw [if_pos c48]; exact h48
  rw [if_neg c48]
  by_cases c49 : w32 (an32 (sc xs i) 63) = 49
  · rw [if_pos c49]; exact h49
  rw [if_neg c49]
  by_cases c50 : w32 (an32 (sc xs i) 63) = 50
  · rw [if_pos c50]; exact h50
  rw [if_neg c50]
  exact ⟨_, rfl, hd⟩
