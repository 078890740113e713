theorem imf_X8_init : mfI yX8_init cX8_init 1 0 := ⟨in_tg 64 (by decide +kernel) rfl, in_tg 34 (by decide +kernel) rfl, in_tg 65 (by decide +kernel) rfl, by decide +kernel, by decide +kernel, by decide +kernel, rfl⟩
theorem ilk_L_214 : lkI RL 214 yX8_init := Or.inl (in_tg 63 (by decide +kernel) rfl)
theorem icw_L_25 : Cond.classLink RL 25 RX8 ∈ lw_tg ∧ Cond.instantiable RX8 (nf 8) ∈ lw_tg ∧ Cond.initialized RX8 ∈ lw_tg := ⟨in_tg 61 (by decide +kernel) rfl, in_tg 62 (by decide +kernel) rfl, in_tg 34 (by decide +kernel) rfl⟩
def w8b : Wd := (fun o k => if o = 9 ∧ k = 2 then -1 else if o = 30 ∧ (k = 0 ∨ k = 2) then 100 else if o = 30 ∧ k = 1 then 10 else 0, fun _ _ => 0, fun o _ => if o = 50 then 51 else 0)
/-- the class's first world -/
def w8 : Wd := initS (initS w8b 100) 116
theorem okW8 : okW 0 w8 := by
  intro o i
  unfold okP
  by_cases c : o = 50
  · rw [if_pos c]; exact Or.inl (if_pos c)
  · rw [if_neg c]
    by_cases c2 : o = 32 ∨ o = 33
    · rw [if_pos c2]; exact Or.inl (if_neg c)
    · rw [if_neg c2]; trivial
def ad8 (h0 : Nat) (qs : Nat → Nat) (q3 : Nat) : Nat → Nat := fun o => if o = 1 then h0 else if o ≤ 9 then qs (o - 2) else if o ≤ 18 then qs (o - 10 + 20) else if o ≤ 28 then qs (o - 20 + 41) else if o ≤ 33 then qs (o - 30 + 50) else if o = 34 then q3 else if o ≤ 111 then qs (o - 100 + 8) else qs (o - 116 + 29)
theorem OL00 : OL 0 0 = [1, 2, 3, 4, 5, 6, 7, 8, 9, 10, 11, 12, 13, 14, 15, 16, 17, 18, 20, 21, 22, 23, 24, 25, 26, 27, 28, 30, 31, 32, 33, 100, 101, 102, 103, 104, 105, 106, 107, 108, 109, 110, 111, 116, 117, 118, 119, 120, 121, 122, 123, 124, 125, 126, 127] := by decide +kernel
theorem e8_1 {G : Gd} {h0 q3 : Nat} {qs : Nat → Nat} : hE G 0 (ad8 h0 qs q3) w8 1 = (h0, .inr (8, [.ref (qs 0), .ref (qs 3), .ref (qs 6), .ref (qs 7), .ref (qs 8), .ref (qs 20), .ref (qs 29), .ref (qs 41), .ref (qs 50), .ref (qs 51), .ref (qs 53)])) := rfl
theorem e8_2 {G : Gd} {h0 q3 : Nat} {qs : Nat → Nat} : hE G 0 (ad8 h0 qs q3) w8 2 = (qs 0, .inr (0, [.ref (qs 1), iV 0])) := rfl
theorem e8_3 {G : Gd} {h0 q3 : Nat} {qs : Nat → Nat} : hE G 0 (ad8 h0 qs q3) w8 3 = (qs 1, .inr (5, [.ref (qs 2)])) := rfl
theorem e8_4 {G : Gd} {h0 q3 : Nat} {qs : Nat → Nat} : hE G 0 (ad8 h0 qs q3) w8 4 = (qs 2, .inl (G.cy 0, (500, .inl fun _ => 0))) := rfl
theorem e8_5 {G : Gd} {h0 q3 : Nat} {qs : Nat → Nat} : hE G 0 (ad8 h0 qs q3) w8 5 = (qs 3, .inr (0, [.ref (qs 4), iV 0])) := rfl
theorem e8_6 {G : Gd} {h0 q3 : Nat} {qs : Nat → Nat} : hE G 0 (ad8 h0 qs q3) w8 6 = (qs 4, .inr (5, [.ref (qs 5)])) := rfl
theorem e8_7 {G : Gd} {h0 q3 : Nat} {qs : Nat → Nat} : hE G 0 (ad8 h0 qs q3) w8 7 = (qs 5, .inl (G.cy 0, (900, .inl fun _ => 0))) := rfl
theorem e8_8 {G : Gd} {h0 q3 : Nat} {qs : Nat → Nat} : hE G 0 (ad8 h0 qs q3) w8 8 = (qs 6, .inr (7, [.ref (qs 0), iV 0, iV 0, iV 0])) := rfl
theorem e8_9 {G : Gd} {h0 q3 : Nat} {qs : Nat → Nat} : hE G 0 (ad8 h0 qs q3) w8 9 = (qs 7, .inr (3, [.ref (qs 6), iV 0, iV (-1), iV 0, iV 0, iV 0, iV 0])) := rfl
theorem e8_10 {G : Gd} {h0 q3 : Nat} {qs : Nat → Nat} : hE G 0 (ad8 h0 qs q3) w8 10 = (qs 20, .inr (2, [.ref (qs 21), .ref (qs 23), .ref (qs 25), .ref (qs 27), iV 0, iV 0, iV 0, iV 0])) := rfl
theorem e8_11 {G : Gd} {h0 q3 : Nat} {qs : Nat → Nat} : hE G 0 (ad8 h0 qs q3) w8 11 = (qs 21, .inr (5, [.ref (qs 22)])) := rfl
theorem e8_12 {G : Gd} {h0 q3 : Nat} {qs : Nat → Nat} : hE G 0 (ad8 h0 qs q3) w8 12 = (qs 22, .inl (G.cy 0, (60, .inl fun _ => 0))) := rfl
theorem e8_13 {G : Gd} {h0 q3 : Nat} {qs : Nat → Nat} : hE G 0 (ad8 h0 qs q3) w8 13 = (qs 23, .inr (5, [.ref (qs 24)])) := rfl
theorem e8_14 {G : Gd} {h0 q3 : Nat} {qs : Nat → Nat} : hE G 0 (ad8 h0 qs q3) w8 14 = (qs 24, .inl (G.cy 0, (60, .inl fun _ => 0))) := rfl
theorem e8_15 {G : Gd} {h0 q3 : Nat} {qs : Nat → Nat} : hE G 0 (ad8 h0 qs q3) w8 15 = (qs 25, .inr (5, [.ref (qs 26)])) := rfl
theorem e8_16 {G : Gd} {h0 q3 : Nat} {qs : Nat → Nat} : hE G 0 (ad8 h0 qs q3) w8 16 = (qs 26, .inl (G.cy 0, (288, .inl fun _ => 0))) := rfl
theorem e8_17 {G : Gd} {h0 q3 : Nat} {qs : Nat → Nat} : hE G 0 (ad8 h0 qs q3) w8 17 = (qs 27, .inr (5, [.ref (qs 28)])) := rfl
theorem e8_18 {G : Gd} {h0 q3 : Nat} {qs : Nat → Nat} : hE G 0 (ad8 h0 qs q3) w8 18 = (qs 28, .inl (G.cy 0, (288, .inl fun _ => 0))) := rfl
theorem e8_20 {G : Gd} {h0 q3 : Nat} {qs : Nat → Nat} : hE G 0 (ad8 h0 qs q3) w8 20 = (qs 41, .inr (2, [.ref (qs 42), .ref (qs 44), .ref (qs 46), .ref (qs 48), iV 0, iV 0, iV 0, iV 0])) := rfl
theorem e8_21 {G : Gd} {h0 q3 : Nat} {qs : Nat → Nat} : hE G 0 (ad8 h0 qs q3) w8 21 = (qs 42, .inr (5, [.ref (qs 43)])) := rfl
theorem e8_22 {G : Gd} {h0 q3 : Nat} {qs : Nat → Nat} : hE G 0 (ad8 h0 qs q3) w8 22 = (qs 43, .inl (G.cy 0, (60, .inl fun _ => 0))) := rfl
theorem e8_23 {G : Gd} {h0 q3 : Nat} {qs : Nat → Nat} : hE G 0 (ad8 h0 qs q3) w8 23 = (qs 44, .inr (5, [.ref (qs 45)])) := rfl
theorem e8_24 {G : Gd} {h0 q3 : Nat} {qs : Nat → Nat} : hE G 0 (ad8 h0 qs q3) w8 24 = (qs 45, .inl (G.cy 0, (60, .inl fun _ => 0))) := rfl
theorem e8_25 {G : Gd} {h0 q3 : Nat} {qs : Nat → Nat} : hE G 0 (ad8 h0 qs q3) w8 25 = (qs 46, .inr (5, [.ref (qs 47)])) := rfl
theorem e8_26 {G : Gd} {h0 q3 : Nat} {qs : Nat → Nat} : hE G 0 (ad8 h0 qs q3) w8 26 = (qs 47, .inl (G.cy 0, (288, .inl fun _ => 0))) := rfl
theorem e8_27 {G : Gd} {h0 q3 : Nat} {qs : Nat → Nat} : hE G 0 (ad8 h0 qs q3) w8 27 = (qs 48, .inr (5, [.ref (qs 49)])) := rfl
theorem e8_28 {G : Gd} {h0 q3 : Nat} {qs : Nat → Nat} : hE G 0 (ad8 h0 qs q3) w8 28 = (qs 49, .inl (G.cy 0, (288, .inl fun _ => 0))) := rfl
theorem e8_30 {G : Gd} {h0 q3 : Nat} {qs : Nat → Nat} : hE G 0 (ad8 h0 qs q3) w8 30 = (qs 50, .inr (1, [iV 100, iV 10, iV 100, iV 0, iV 0])) := rfl
theorem e8_31 {G : Gd} {h0 q3 : Nat} {qs : Nat → Nat} : hE G 0 (ad8 h0 qs q3) w8 31 = (qs 51, .inr (4, [.ref (qs 52), iV 0])) := rfl
theorem e8_32 {G : Gd} {h0 q3 : Nat} {qs : Nat → Nat} : hE G 0 (ad8 h0 qs q3) w8 32 = (qs 52, .inl (G.cy 3, (6, .inr (.inr (.inr (.inr fun _ => none)))))) := rfl
theorem e8_33 {G : Gd} {h0 q3 : Nat} {qs : Nat → Nat} : hE G 0 (ad8 h0 qs q3) w8 33 = (qs 53, .inl (G.cy 3, (2, .inr (.inr (.inr (.inr fun _ => none)))))) := rfl
theorem e8_100 {G : Gd} {h0 q3 : Nat} {qs : Nat → Nat} : hE G 0 (ad8 h0 qs q3) w8 100 = (qs 8, .inr (6, [iV 10, iV 4, iV 0, .ref (qs 9), iV 0, .ref (qs 11), .ref (qs 13), iV 0, .ref (qs 15), .ref (qs 17), .ref (qs 19), iV 0])) := rfl
theorem e8_101 {G : Gd} {h0 q3 : Nat} {qs : Nat → Nat} : hE G 0 (ad8 h0 qs q3) w8 101 = (qs 9, .inr (5, [.ref (qs 10)])) := rfl
theorem e8_102 {G : Gd} {h0 q3 : Nat} {qs : Nat → Nat} : hE G 0 (ad8 h0 qs q3) w8 102 = (qs 10, .inl (G.cy 0, (12, .inl fun _ => 0))) := rfl
theorem e8_103 {G : Gd} {h0 q3 : Nat} {qs : Nat → Nat} : hE G 0 (ad8 h0 qs q3) w8 103 = (qs 11, .inr (5, [.ref (qs 12)])) := rfl
theorem e8_104 {G : Gd} {h0 q3 : Nat} {qs : Nat → Nat} : hE G 0 (ad8 h0 qs q3) w8 104 = (qs 12, .inl (G.cy 0, (10, .inl fun _ => 0))) := rfl
theorem e8_105 {G : Gd} {h0 q3 : Nat} {qs : Nat → Nat} : hE G 0 (ad8 h0 qs q3) w8 105 = (qs 13, .inr (5, [.ref (qs 14)])) := rfl
theorem e8_106 {G : Gd} {h0 q3 : Nat} {qs : Nat → Nat} : hE G 0 (ad8 h0 qs q3) w8 106 = (qs 14, .inl (G.cy 0, (10, .inl fun _ => 0))) := rfl
theorem e8_107 {G : Gd} {h0 q3 : Nat} {qs : Nat → Nat} : hE G 0 (ad8 h0 qs q3) w8 107 = (qs 15, .inr (5, [.ref (qs 16)])) := rfl
theorem e8_108 {G : Gd} {h0 q3 : Nat} {qs : Nat → Nat} : hE G 0 (ad8 h0 qs q3) w8 108 = (qs 16, .inl (G.cy 0, (60, .inl fun _ => 0))) := rfl
theorem e8_109 {G : Gd} {h0 q3 : Nat} {qs : Nat → Nat} : hE G 0 (ad8 h0 qs q3) w8 109 = (qs 17, .inr (5, [.ref (qs 18)])) := rfl
theorem e8_110 {G : Gd} {h0 q3 : Nat} {qs : Nat → Nat} : hE G 0 (ad8 h0 qs q3) w8 110 = (qs 18, .inl (G.cy 0, (720, .inl fun _ => 0))) := rfl
theorem e8_111 {G : Gd} {h0 q3 : Nat} {qs : Nat → Nat} : hE G 0 (ad8 h0 qs q3) w8 111 = (qs 19, .inr (1, [iV 100, iV 10, iV 100, iV 0, iV 0])) := rfl
theorem e8_116 {G : Gd} {h0 q3 : Nat} {qs : Nat → Nat} : hE G 0 (ad8 h0 qs q3) w8 116 = (qs 29, .inr (6, [iV 10, iV 4, iV 0, .ref (qs 30), iV 0, .ref (qs 32), .ref (qs 34), iV 0, .ref (qs 36), .ref (qs 38), .ref (qs 40), iV 0])) := rfl
theorem e8_117 {G : Gd} {h0 q3 : Nat} {qs : Nat → Nat} : hE G 0 (ad8 h0 qs q3) w8 117 = (qs 30, .inr (5, [.ref (qs 31)])) := rfl
theorem e8_118 {G : Gd} {h0 q3 : Nat} {qs : Nat → Nat} : hE G 0 (ad8 h0 qs q3) w8 118 = (qs 31, .inl (G.cy 0, (12, .inl fun _ => 0))) := rfl
theorem e8_119 {G : Gd} {h0 q3 : Nat} {qs : Nat → Nat} : hE G 0 (ad8 h0 qs q3) w8 119 = (qs 32, .inr (5, [.ref (qs 33)])) := rfl
theorem e8_120 {G : Gd} {h0 q3 : Nat} {qs : Nat → Nat} : hE G 0 (ad8 h0 qs q3) w8 120 = (qs 33, .inl (G.cy 0, (10, .inl fun _ => 0))) := rfl
theorem e8_121 {G : Gd} {h0 q3 : Nat} {qs : Nat → Nat} : hE G 0 (ad8 h0 qs q3) w8 121 = (qs 34, .inr (5, [.ref (qs 35)])) := rfl
theorem e8_122 {G : Gd} {h0 q3 : Nat} {qs : Nat → Nat} : hE G 0 (ad8 h0 qs q3) w8 122 = (qs 35, .inl (G.cy 0, (10, .inl fun _ => 0))) := rfl
theorem e8_123 {G : Gd} {h0 q3 : Nat} {qs : Nat → Nat} : hE G 0 (ad8 h0 qs q3) w8 123 = (qs 36, .inr (5, [.ref (qs 37)])) := rfl
theorem e8_124 {G : Gd} {h0 q3 : Nat} {qs : Nat → Nat} : hE G 0 (ad8 h0 qs q3) w8 124 = (qs 37, .inl (G.cy 0, (60, .inl fun _ => 0))) := rfl
theorem e8_125 {G : Gd} {h0 q3 : Nat} {qs : Nat → Nat} : hE G 0 (ad8 h0 qs q3) w8 125 = (qs 38, .inr (5, [.ref (qs 39)])) := rfl
theorem e8_126 {G : Gd} {h0 q3 : Nat} {qs : Nat → Nat} : hE G 0 (ad8 h0 qs q3) w8 126 = (qs 39, .inl (G.cy 0, (720, .inl fun _ => 0))) := rfl
theorem e8_127 {G : Gd} {h0 q3 : Nat} {qs : Nat → Nat} : hE G 0 (ad8 h0 qs q3) w8 127 = (qs 40, .inr (1, [iV 100, iV 10, iV 100, iV 0, iV 0])) := rfl
theorem hw_8a {G : Gd} {h0 q3 : Nat} {qs : Nat → Nat} : hw G 0 0 (ad8 h0 qs q3) w8 = [(h0, .inr (8, [.ref (qs 0), .ref (qs 3), .ref (qs 6), .ref (qs 7), .ref (qs 8), .ref (qs 20), .ref (qs 29), .ref (qs 41), .ref (qs 50), .ref (qs 51), .ref (qs 53)])), (qs 0, .inr (0, [.ref (qs 1), iV 0])), (qs 1, .inr (5, [.ref (qs 2)])), (qs 2, .inl (G.cy 0, (500, .inl fun _ => 0))), (qs 3, .inr (0, [.ref (qs 4), iV 0])), (qs 4, .inr (5, [.ref (qs 5)])), (qs 5, .inl (G.cy 0, (900, .inl fun _ => 0))), (qs 6, .inr (7, [.ref (qs 0), iV 0, iV 0, iV 0])), (qs 7, .inr (3, [.ref (qs 6), iV 0, iV (-1), iV 0, iV 0, iV 0, iV 0])), (qs 20, .inr (2, [.ref (qs 21), .ref (qs 23), .ref (qs 25), .ref (qs 27), iV 0, iV 0, iV 0, iV 0])), (qs 21, .inr (5, [.ref (qs 22)])), (qs 22, .inl (G.cy 0, (60, .inl fun _ => 0))), (qs 23, .inr (5, [.ref (qs 24)])), (qs 24, .inl (G.cy 0, (60, .inl fun _ => 0))), (qs 25, .inr (5, [.ref (qs 26)])), (qs 26, .inl (G.cy 0, (288, .inl fun _ => 0))), (qs 27, .inr (5, [.ref (qs 28)])), (qs 28, .inl (G.cy 0, (288, .inl fun _ => 0))), (qs 41, .inr (2, [.ref (qs 42), .ref (qs 44), .ref (qs 46), .ref (qs 48), iV 0, iV 0, iV 0, iV 0])), (qs 42, .inr (5, [.ref (qs 43)])), (qs 43, .inl (G.cy 0, (60, .inl fun _ => 0))), (qs 44, .inr (5, [.ref (qs 45)])), (qs 45, .inl (G.cy 0, (60, .inl fun _ => 0))), (qs 46, .inr (5, [.ref (qs 47)])), (qs 47, .inl (G.cy 0, (288, .inl fun _ => 0))), (qs 48, .inr (5, [.ref (qs 49)])), (qs 49, .inl (G.cy 0, (288, .inl fun _ => 0))), (qs 50, .inr (1, [iV 100, iV 10, iV 100, iV 0, iV 0])), (qs 51, .inr (4, [.ref (qs 52), iV 0])), (qs 52, .inl (G.cy 3, (6, .inr (.inr (.inr (.inr fun _ => none)))))), (qs 53, .inl (G.cy 3, (2, .inr (.inr (.inr (.inr fun _ => none)))))), (qs 8, .inr (6, [iV 10, iV 4, iV 0, .ref (qs 9), iV 0, .ref (qs 11), .ref (qs 13), iV 0, .ref (qs 15), .ref (qs 17), .ref (qs 19), iV 0])), (qs 9, .inr (5, [.ref (qs 10)])), (qs 10, .inl (G.cy 0, (12, .inl fun _ => 0))), (qs 11, .inr (5, [.ref (qs 12)])), (qs 12, .inl (G.cy 0, (10, .inl fun _ => 0))), (qs 13, .inr (5, [.ref (qs 14)])), (qs 14, .inl (G.cy 0, (10, .inl fun _ => 0))), (qs 15, .inr (5, [.ref (qs 16)])), (qs 16, .inl (G.cy 0, (60, .inl fun _ => 0))), (qs 17, .inr (5, [.ref (qs 18)])), (qs 18, .inl (G.cy 0, (720, .inl fun _ => 0))), (qs 19, .inr (1, [iV 100, iV 10, iV 100, iV 0, iV 0])), (qs 29, .inr (6, [iV 10, iV 4, iV 0, .ref (qs 30), iV 0, .ref (qs 32), .ref (qs 34), iV 0, .ref (qs 36), .ref (qs 38), .ref (qs 40), iV 0])), (qs 30, .inr (5, [.ref (qs 31)])), (qs 31, .inl (G.cy 0, (12, .inl fun _ => 0))), (qs 32, .inr (5, [.ref (qs 33)])), (qs 33, .inl (G.cy 0, (10, .inl fun _ => 0))), (qs 34, .inr (5, [.ref (qs 35)])), (qs 35, .inl (G.cy 0, (10, .inl fun _ => 0))), (qs 36, .inr (5, [.ref (qs 37)])), (qs 37, .inl (G.cy 0, (60, .inl fun _ => 0))), (qs 38, .inr (5, [.ref (qs 39)])), (qs 39, .inl (G.cy 0, (720, .inl fun _ => 0))), (qs 40, .inr (1, [iV 100, iV 10, iV 100, iV 0, iV 0]))] := by
  unfold hw; rw [OL00]
  show [hE G 0 (ad8 h0 qs q3) w8 1, hE G 0 (ad8 h0 qs q3) w8 2, hE G 0 (ad8 h0 qs q3) w8 3, hE G 0 (ad8 h0 qs q3) w8 4, hE G 0 (ad8 h0 qs q3) w8 5, hE G 0 (ad8 h0 qs q3) w8 6, hE G 0 (ad8 h0 qs q3) w8 7, hE G 0 (ad8 h0 qs q3) w8 8, hE G 0 (ad8 h0 qs q3) w8 9, hE G 0 (ad8 h0 qs q3) w8 10, hE G 0 (ad8 h0 qs q3) w8 11, hE G 0 (ad8 h0 qs q3) w8 12, hE G 0 (ad8 h0 qs q3) w8 13, hE G 0 (ad8 h0 qs q3) w8 14, hE G 0 (ad8 h0 qs q3) w8 15, hE G 0 (ad8 h0 qs q3) w8 16, hE G 0 (ad8 h0 qs q3) w8 17, hE G 0 (ad8 h0 qs q3) w8 18, hE G 0 (ad8 h0 qs q3) w8 20, hE G 0 (ad8 h0 qs q3) w8 21, hE G 0 (ad8 h0 qs q3) w8 22, hE G 0 (ad8 h0 qs q3) w8 23, hE G 0 (ad8 h0 qs q3) w8 24, hE G 0 (ad8 h0 qs q3) w8 25, hE G 0 (ad8 h0 qs q3) w8 26, hE G 0 (ad8 h0 qs q3) w8 27, hE G 0 (ad8 h0 qs q3) w8 28, hE G 0 (ad8 h0 qs q3) w8 30, hE G 0 (ad8 h0 qs q3) w8 31, hE G 0 (ad8 h0 qs q3) w8 32, hE G 0 (ad8 h0 qs q3) w8 33, hE G 0 (ad8 h0 qs q3) w8 100, hE G 0 (ad8 h0 qs q3) w8 101, hE G 0 (ad8 h0 qs q3) w8 102, hE G 0 (ad8 h0 qs q3) w8 103, hE G 0 (ad8 h0 qs q3) w8 104, hE G 0 (ad8 h0 qs q3) w8 105, hE G 0 (ad8 h0 qs q3) w8 106, hE G 0 (ad8 h0 qs q3) w8 107, hE G 0 (ad8 h0 qs q3) w8 108, hE G 0 (ad8 h0 qs q3) w8 109, hE G 0 (ad8 h0 qs q3) w8 110, hE G 0 (ad8 h0 qs q3) w8 111, hE G 0 (ad8 h0 qs q3) w8 116, hE G 0 (ad8 h0 qs q3) w8 117, hE G 0 (ad8 h0 qs q3) w8 118, hE G 0 (ad8 h0 qs q3) w8 119, hE G 0 (ad8 h0 qs q3) w8 120, hE G 0 (ad8 h0 qs q3) w8 121, hE G 0 (ad8 h0 qs q3) w8 122, hE G 0 (ad8 h0 qs q3) w8 123, hE G 0 (ad8 h0 qs q3) w8 124, hE G 0 (ad8 h0 qs q3) w8 125, hE G 0 (ad8 h0 qs q3) w8 126, hE G 0 (ad8 h0 qs q3) w8 127] = _
  rw [e8_1, e8_2, e8_3, e8_4, e8_5, e8_6, e8_7, e8_8, e8_9, e8_10, e8_11, e8_12, e8_13, e8_14, e8_15, e8_16, e8_17, e8_18, e8_20, e8_21, e8_22, e8_23, e8_24, e8_25, e8_26, e8_27, e8_28, e8_30, e8_31, e8_32, e8_33, e8_100, e8_101, e8_102, e8_103, e8_104, e8_105, e8_106, e8_107, e8_108, e8_109, e8_110, e8_111, e8_116, e8_117, e8_118, e8_119, e8_120, e8_121, e8_122, e8_123, e8_124, e8_125, e8_126, e8_127]
set_option maxRecDepth 100000 in
set_option maxHeartbeats 4000000 in
theorem hw_8 {G : Gd} {h0 q3 : Nat} {qs : Nat → Nat} : ([0, 1, 2, 3, 4, 5, 6, 7, 8, 21, 22, 23, 24, 25, 26, 27, 28, 29, 42, 43, 44, 45, 46, 47, 48, 49, 50, 51, 52, 53, 54, 9, 10, 11, 12, 13, 14, 15, 16, 17, 18, 19, 20, 30, 31, 32, 33, 34, 35, 36, 37, 38, 39, 40, 41] : List Nat).map (fun i => (([] : va_W) ++ postX8 G h0 qs)[i]?) = (hw G 0 0 (ad8 h0 qs q3) w8).map some := by
  rw [hw_8a]; rfl

set_option maxRecDepth 100000 in
theorem law_start {p : Program} {l : Launch} {e : Env} {s : State} {m : MethodId} {below : List Frame} {meth : Method} {c : Code} {Q : State → Prop} {ret9 : Option FieldType} (hst : l.stackTraces = false) {b L : Nat} {xs : Nat → Int32} (hL3 : L ≤ 260) (hx : p.tables.exec = Jvm.exec) (hb : c.code = cL_law) (hr : meth.sig.returnType = ret9) (hml : c.maxLocals = 10) (hown : s.vm.findClass RL = some m.cls) (hts : ∀ w ∈ lw_tbl, w.before #[Value.ref b] s = true) (hX : va_X b L xs s s.heap) (hbl : b < s.heap.size) (hlocks : meth.locks = false) (hgv : (Cond.and given_1 narrow_1).before #[Value.ref b] s = true)
    {I : Nat → Nat → Wd → Prop} (hRo : ∀ (i na : Nat) (w : Wd), i < 50 → I i na w → RoundOK xs L (50 + 3 * (i : Int)) na w (I (i + 1))) {w1 w2 : Wd} {na2 n : Nat} {laid : Int} (hfd : fedF (loadT xs L) n 0 0 w8 = some w1) (hld : LDok xs L 0 w1 na2 w2 laid) (hst2 : p_L_stands w2 = some (1, w2)) (hI : I 0 na2 w2)
    (K : ∀ (H : Heap) (ls : Array Slot), W p l e room_1 s m #[Value.ref b] below meth c H [] 600086 7301442 Q (F0 m 235 ls [iV 1])) :
    W p l e room_1 s m #[Value.ref b] below meth c s.heap [] 0 0 Q (entryFrame m ([Value.ref b] : List Value).toArray 10) := by
  obtain ⟨G, hK, hES⟩ := law_G hts hgv
  have hAO : va_AO RX6 s := va_AO.of (hts _ aov_6)
  have hnw : ∀ w ∈ nw_tbl, va_Nw w s := fun w hw => va_Nw.of (nw_tab hw) (hts w (List.mem_append_right _ (List.mem_filter.mp hw).1))
  have C : CX (p, l, e, room_1, s, m, #[Value.ref b], below, meth, c, 10, Q, G, (fun q : Nat => s.heap.size ≤ q), 0) cL_law 10 ret9 RL := ⟨hx, hb, hml, rfl, hr, hlocks, hown, tg_ok hts, hnw, hK, hES⟩
  obtain ⟨g, hg⟩ : ∃ g : Cx, ((p, l, e, room_1, s, m, #[Value.ref b], below, meth, c, 10, Q, G, (fun q : Nat => s.heap.size ≤ q), 0) : Cx) = g := ⟨_, rfl⟩
  replace C : CX g cL_law 10 ret9 RL := hg ▸ C
  have hA : ∀ q : Nat, g.s.heap.size ≤ q → g.A q := by subst hg; exact fun _ h => h
  have hR : g.R = room_1 := by subst hg; rfl
  have hgs : g.s = s := by subst hg; rfl
  have hgl : g.l = l := by subst hg; rfl
  have hbA : ¬ g.A b := by subst hg; exact Nat.not_le.mpr hbl
  have hA2 : ∀ q, g.A q → s.heap.size ≤ q := by subst hg; exact fun _ h => h
  have hWg : ∀ H locs ce so fr, W g.p g.l g.e g.R g.s g.m g.args g.below g.meth g.c H locs ce so g.Q fr → W p l e room_1 s m #[Value.ref b] below meth c H locs ce so Q fr := by subst hg; exact fun _ _ _ _ _ h => h
  have hWg2 : ∀ H locs ce so fr, W p l e room_1 s m #[Value.ref b] below meth c H locs ce so Q fr → W g.p g.l g.e g.R g.s g.m g.args g.below g.meth g.c H locs ce so g.Q fr := by subst hg; exact fun _ _ _ _ _ h => h
  have hgm : g.m = m := by subst hg; rfl
  have main : XG g (dz 0 0) (hL g []) [(0, .ref b)] [] 0 := by
    refine x_nnew (fs := ifs_X8) (d1 := dz 1 11) C hA hR icl_X8 icw_L_25 idf_X8 (by decide) rfl dL_law_0 (fun q1 => ?_)
    refine x_dup C rfl dL_law_3 ?_
    refine x_ncall (mc' := 54) (ms' := 4516) (rm := rmv 3 54 54 4516) (As := []) (rest := [.ref q1]) (d1 := dz 55 4527) C hA hR imf_X8_init ilk_L_214 ⟨rfl, rfl⟩ ⟨Nat.le_of_ble_eq_true rfl, Nat.le_of_ble_eq_true rfl⟩ (c_X8_init g.l g.G) (fun _ => by rw [hgs]; exact hAO) rfl rfl (Nat.le_of_ble_eq_true rfl) (by decide) rfl dL_law_4 (fun qs => ?_)
    refine x_astore_n C dL_law_7 (by decide) rfl ?_
    intro H locs ls h1 h2 h3
    have key : XG g (0, ad8 q1 qs 0, 55, 4527) (hY g (0, ad8 q1 qs 0, 55, 4527) w8 []) [(1, .ref (ad8 q1 qs 0 1)), (0, .ref b)] [] 8 := by
      refine L_law8 C (by rw [hgl]; exact hst) hA hR (by rw [hgs]; exact hX) (by rw [hgs]; exact hbl) hbA hL3 hRo (fun na ad c s w lv hc hs => ?_) ⟨Nat.le_of_ble_eq_true rfl, Nat.le_of_ble_eq_true rfl⟩ hfd hld hst2 hI
      intro H locs ls h1 h2 h3
      refine hWg2 _ _ _ _ _ (va_forget (fun q hq => hA2 _ (h2.2.2 q hq)) (W.widen (Nat.le_trans hc (by decide : 400000 ≤ 600086)) (Nat.le_trans hs (by decide : 6000000 ≤ 7301442)) ?_))
      rw [hgm]
      exact K H ls
    refine key H locs ls ?_ h2 h3
    have p1 := va_P.part (X := [] ++ postX8 g.G q1 qs) (pl := []) (by rw [List.append_nil]; exact h1.1) _ (hw_8 (q3 := 0))
    have p2 := va_D.part (X := [] ++ postX8 g.G q1 qs) (pl := []) (by rw [List.append_nil]; exact h1.2) _ (by decide +kernel) (hw_8 (q3 := 0))
    exact ⟨p1, p2, okW8⟩
  have hl := lv_entry ([.ref b]) (n := 10) (Nat.le_of_ble_eq_true rfl)
  rw [lg_entry_eq]
  have := hWg _ _ _ _ _ (main s.heap [] _ ⟨fun k q h => by simp at h, ⟨fun i j p q h => by simp at h, fun k q h => by simp at h⟩⟩ (by rw [hgs]; exact va_S.rf) (by have e : g.nL = 10 := C.n; rw [e]; exact hl))
  rw [hgm] at this
  exact this
