def p_X5_put (o0 : Nat) (x1 : Int) (x2 : Int) (w : Wd) : Option (Wd) :=
  if lt32 x1 0 then
    some w
  else
    if lt32 x1 ((ln (o0 + 1) : Nat) : Int) then
      if inb x1 (ln (o0 + 1)) = false then none else
      some (sA w (o0 + 1) x1 x2)
    else
      some w
def p_X0_add (o0 : Nat) (x1 : Int) (w : Wd) : Option (Wd) :=
  (p_X5_put (o0 + 1) (gF w o0 1) (an32 x1 255) w).bind fun w1 =>
  some (sF w1 o0 1 ((gF w1 o0 1) + 1))
def p_X0_addFour (o0 : Nat) (x1 : Int) (w : Wd) : Option (Wd) :=
  (p_X0_add o0 (us32 x1 24) w).bind fun w1 =>
  (p_X0_add o0 (us32 x1 16) w1).bind fun w2 =>
  (p_X0_add o0 (us32 x1 8) w2).bind fun w3 =>
  (p_X0_add o0 x1 w3).bind fun w4 =>
  some w4
def p_X1_renew (o0 : Nat) (x1 : Int) (x2 : Int) (w : Wd) : Option (Wd) :=
  (some (sF (sF w o0 0 x1) o0 1 x2)).bind fun w1 =>
  some (sF w1 o0 2 x1)
def p_X1_hone (o0 : Nat) (w : Wd) : Option (Wd) :=
  (some (sF (sF w o0 2 (gF w o0 0)) o0 3 ((gF (sF w o0 2 (gF w o0 0)) o0 3) + (gF (sF w o0 2 (gF w o0 0)) o0 1)))).bind fun w1 =>
  some (sF w1 o0 4 ((gF w1 o0 4) + 1))
def p_X1_cut_23 (o0 : Nat) (x1 : Int) (w : Wd) : Option (Wd) :=
  (some (sF (sF w o0 3 ((gF w o0 3) + x1)) o0 2 (mx32 0 ((gF (sF w o0 3 ((gF w o0 3) + x1)) o0 2) - x1)))).bind fun w1 =>
  some w1
def p_X1_cut (o0 : Nat) (x1 : Int) (w : Wd) : Option (Wd) :=
  if lt32 (gF w o0 2) x1 then
    if lt32 (gF w o0 2) (gF w o0 0) then
      (p_X1_hone o0 w).bind fun w1 =>
      p_X1_cut_23 o0 x1 w1
    else
      p_X1_cut_23 o0 x1 w
  else
    p_X1_cut_23 o0 x1 w
def p_X1_copy (o0 : Nat) (o1 : Nat) (w : Wd) : Option (Wd) :=
  (some (sF (sF w o0 0 (gF w o1 0)) o0 1 (gF (sF w o0 0 (gF w o1 0)) o1 1))).bind fun w1 =>
  (some (sF (sF w1 o0 2 (gF w1 o1 2)) o0 3 (gF (sF w1 o0 2 (gF w1 o1 2)) o1 3))).bind fun w2 =>
  some (sF w2 o0 4 (gF w2 o1 4))
def p_X5_at (o0 : Nat) (x1 : Int) (w : Wd) : Option (Int × Wd) :=
  if lt32 x1 0 then
    some (0, w)
  else
    if lt32 x1 ((ln (o0 + 1) : Nat) : Int) then
      if inb x1 (ln (o0 + 1)) = false then none else
      some (gA w (o0 + 1) x1, w)
    else
      some (0, w)
def p_X2_cells (x0 : Int) (x1 : Int) (w : Wd) : Option (Int × Wd) :=
  some (sl32 ((sl32 1 x1) - 1) x0, w)
def p_X2_layWord_64 (o0 : Nat) (o1 : Nat) (x2 : Int) (x3 : Int) (x5 : Int) (x6 : Int) (w : Wd) : Option (Int × Wd) :=
  (p_X5_put (o0 + 1) x2 x5 w).bind fun w1 =>
  (p_X5_put (o0 + 3) x2 x6 w1).bind fun w2 =>
  (some (sF (sF w2 o0 4 (x2 + 1)) o0 6 x5)).bind fun w3 =>
  some (1, sF w3 o0 7 ((x6 + x3) + 1))
def p_X2_layWord_115 (o0 : Nat) (o1 : Nat) (k21 : Int → Int → Int → Int → Wd → Option (Int × Wd)) (x2 : Int) (x3 : Int) (x5 : Int) (w : Wd) : Option (Int × Wd) :=
  k21 x2 x3 0 (x5 + 1) w
def p_X2_layWord_34 (o0 : Nat) (o1 : Nat) (k21 : Int → Int → Int → Int → Wd → Option (Int × Wd)) : Nat → Int → Int → Int → Int → Wd → Option (Int × Wd)
  | 0, _, _, _, _, _ => none
  | n + 1, x2, x3, x5, x6, w =>
    if lt32 (gF w o1 0) (x6 + x3) then
      p_X2_layWord_115 o0 o1 k21 x2 x3 x5 w
    else
      (p_X5_at (o1 + 1) x5 w).bind fun ⟨r2, w1⟩ =>
      (p_X2_cells x6 x3 w1).bind fun ⟨r4, w3⟩ =>
      if eq32 (an32 r2 r4) 0 then
        p_X2_layWord_64 o0 o1 x2 x3 x5 x6 w3
      else
        p_X2_layWord_34 o0 o1 k21 n x2 x3 x5 (x6 + 1) w3
def p_X2_layWord_21 (o0 : Nat) (o1 : Nat) : Nat → Int → Int → Int → Int → Wd → Option (Int × Wd)
  | 0, _, _, _, _, _ => none
  | n + 1, x2, x3, x4, x5, w =>
    if lt32 x5 (gF w o1 1) then
      p_X2_layWord_34 o0 o1 (p_X2_layWord_21 o0 o1 n) FU x2 x3 x5 x4 w
    else
      some (0, w)
def p_X2_layWord (o0 : Nat) (o1 : Nat) (x2 : Int) (w : Wd) : Option (Int × Wd) :=
  (p_X5_at (o1 + 7) x2 w).bind fun ⟨r2, w1⟩ =>
  p_X2_layWord_21 o0 o1 FU x2 r2 (gF w1 o0 7) (gF w1 o0 6) w1
def p_X2_layWords_8 (o0 : Nat) (o1 : Nat) : Nat → Int → Int → Int → Wd → Option (Wd)
  | 0, _, _, _, _ => none
  | n + 1, x2, x3, x4, w =>
    if lt32 x4 x2 then
      if eq32 x3 0 then
        some w
      else
        (p_X2_layWord o0 o1 x4 w).bind fun ⟨r2, w1⟩ =>
        p_X2_layWords_8 o0 o1 n x2 r2 (x4 + 1) w1
    else
      some w
def p_X2_layWords (o0 : Nat) (o1 : Nat) (x2 : Int) (w : Wd) : Option (Wd) :=
  p_X2_layWords_8 o0 o1 FU x2 1 (gF w o0 4) w
def p_X2_centreRow_121 (o0 : Nat) (o1 : Nat) : Nat → Int → Int → Int → Wd → Option (Wd)
  | 0, _, _, _, _ => none
  | n + 1, x3, x7, x8, w =>
    if lt32 x8 x3 then
      (p_X5_at (o0 + 3) x8 w).bind fun ⟨r2, w1⟩ =>
      (p_X5_put (o0 + 3) x8 (r2 + x7) w1).bind fun w3 =>
      p_X2_centreRow_121 o0 o1 n x3 x7 (x8 + 1) w3
    else
      some w
def p_X2_centreRow_118 (o0 : Nat) (o1 : Nat) (x2 : Int) (x3 : Int) (x7 : Int) (w : Wd) : Option (Wd) :=
  p_X2_centreRow_121 o0 o1 FU x3 x7 x2 w
def p_X2_centreRow_96 (o0 : Nat) (o1 : Nat) : Nat → Int → Int → Int → Int → Int → Wd → Option (Wd)
  | 0, _, _, _, _, _, _ => none
  | n + 1, x2, x3, x4, x6, x7, w =>
    if lt32 0 x7 then
      if eq32 (an32 x6 (sl32 x4 x7)) 0 then
        p_X2_centreRow_118 o0 o1 x2 x3 x7 w
      else
        p_X2_centreRow_96 o0 o1 n x2 x3 x4 x6 (x7 + (-1)) w
    else
      p_X2_centreRow_118 o0 o1 x2 x3 x7 w
def p_X2_centreRow_68 (o0 : Nat) (o1 : Nat) (x2 : Int) (x3 : Int) (x4 : Int) (x5 : Int) (w : Wd) : Option (Wd) :=
  (p_X5_at (o0 + 1) x2 w).bind fun ⟨r2, w1⟩ =>
  (p_X5_at (o1 + 1) r2 w1).bind fun ⟨r4, w3⟩ =>
  p_X2_centreRow_96 o0 o1 FU x2 x3 x4 r4 (dv32 ((gF w3 o1 0) - x5) 2) w3
def p_X2_centreRow_9 (o0 : Nat) (o1 : Nat) : Nat → Int → Int → Int → Int → Int → Wd → Option (Wd)
  | 0, _, _, _, _, _, _ => none
  | n + 1, x2, x3, x4, x5, x6, w =>
    if lt32 x6 x3 then
      (p_X5_at (o0 + 3) x6 w).bind fun ⟨r2, w1⟩ =>
      (p_X5_at (o1 + 7) x6 w1).bind fun ⟨r4, w3⟩ =>
      (p_X2_cells r2 r4 w3).bind fun ⟨r6, w5⟩ =>
      (p_X5_at (o0 + 3) x6 w5).bind fun ⟨r8, w7⟩ =>
      (p_X5_at (o1 + 7) x6 w7).bind fun ⟨r10, w9⟩ =>
      p_X2_centreRow_9 o0 o1 n x2 x3 (or32 x4 r6) (r8 + r10) (x6 + 1) w9
    else
      p_X2_centreRow_68 o0 o1 x2 x3 x4 x5 w
def p_X2_centreRow (o0 : Nat) (o1 : Nat) (x2 : Int) (x3 : Int) (w : Wd) : Option (Wd) :=
  p_X2_centreRow_9 o0 o1 FU x2 x3 0 0 x2 w
def p_X2_centre_54 (o0 : Nat) (o1 : Nat) (k8 : Int → Int → Int → Wd → Option (Wd)) (x3 : Int) (x4 : Int) (x5 : Int) (w : Wd) : Option (Wd) :=
  k8 x3 x4 (x5 + 1) w
def p_X2_centre_41 (o0 : Nat) (o1 : Nat) (k8 : Int → Int → Int → Wd → Option (Wd)) (x3 : Int) (x4 : Int) (x5 : Int) (w : Wd) : Option (Wd) :=
  (p_X2_centreRow o0 o1 x4 x5 w).bind fun w1 =>
  p_X2_centre_54 o0 o1 k8 x3 x5 x5 w1
def p_X2_centre_8 (o0 : Nat) (o1 : Nat) : Nat → Int → Int → Int → Wd → Option (Wd)
  | 0, _, _, _, _ => none
  | n + 1, x3, x4, x5, w =>
    if lt32 x3 x5 then
      some w
    else
      if eq32 x5 x3 then
        p_X2_centre_41 o0 o1 (p_X2_centre_8 o0 o1 n) x3 x4 x5 w
      else
        (p_X5_at (o0 + 1) x5 w).bind fun ⟨r2, w1⟩ =>
        (p_X5_at (o0 + 1) x4 w1).bind fun ⟨r4, w3⟩ =>
        if eq32 r2 r4 then
          p_X2_centre_54 o0 o1 (p_X2_centre_8 o0 o1 n) x3 x4 x5 w3
        else
          p_X2_centre_41 o0 o1 (p_X2_centre_8 o0 o1 n) x3 x4 x5 w3
def p_X2_centre (o0 : Nat) (o1 : Nat) (x2 : Int) (x3 : Int) (w : Wd) : Option (Wd) :=
  p_X2_centre_8 o0 o1 FU x3 x2 (x2 + 1) w
def p_X2_lay_83 (o0 : Nat) (o1 : Nat) (k19 : Int → Int → Wd → Option (Wd)) (x2 : Int) (x3 : Int) (w : Wd) : Option (Wd) :=
  (some (sF (sF w o0 6 ((gF w o0 6) + ((gF w o1 2) + 1))) o0 7 0)).bind fun w1 =>
  k19 x2 (x3 + 1) w1
def p_X2_lay_114 (o0 : Nat) (o1 : Nat) : Nat → Int → Wd → Option (Wd)
  | 0, _, _ => none
  | n + 1, x3, w =>
    if lt32 x3 (gF w o1 7) then
      (p_X5_put (o0 + 1) x3 (-1) w).bind fun w1 =>
      (p_X5_put (o0 + 3) x3 (-1) w1).bind fun w2 =>
      p_X2_lay_114 o0 o1 n (x3 + 1) w2
    else
      some w
def p_X2_lay_109 (o0 : Nat) (o1 : Nat) (w : Wd) : Option (Wd) :=
  p_X2_lay_114 o0 o1 FU (gF w o0 4) w
def p_X2_lay_19 (o0 : Nat) (o1 : Nat) : Nat → Int → Int → Wd → Option (Wd)
  | 0, _, _, _ => none
  | n + 1, x2, x3, w =>
    if lt32 x3 (gF w o1 4) then
      if eq32 (gF w o0 4) x2 then
        (p_X5_at (o1 + 5) x3 w).bind fun ⟨r2, w1⟩ =>
        (p_X2_layWords o0 o1 (x2 + r2) w1).bind fun w3 =>
        if eq32 (gF w3 o0 4) (x2 + r2) then
          (p_X5_at (o1 + 3) x3 w3).bind fun ⟨r5, w4⟩ =>
          if eq32 r5 0 then
            (p_X2_centre o0 o1 x2 (x2 + r2) w4).bind fun w6 =>
            p_X2_lay_83 o0 o1 (p_X2_lay_19 o0 o1 n) (x2 + r2) x3 w6
          else
            p_X2_lay_83 o0 o1 (p_X2_lay_19 o0 o1 n) (x2 + r2) x3 w4
        else
          p_X2_lay_83 o0 o1 (p_X2_lay_19 o0 o1 n) (x2 + r2) x3 w3
      else
        p_X2_lay_109 o0 o1 w
    else
      p_X2_lay_109 o0 o1 w
def p_X2_lay (o0 : Nat) (o1 : Nat) (w : Wd) : Option (Wd) :=
  (some (sF (sF w o0 4 0) o0 6 0)).bind fun w1 =>
  p_X2_lay_19 o0 o1 FU 0 0 (sF w1 o0 7 0)
def p_X6_byteOf (o0 : Nat) (x1 : Int) (x2 : Int) (w : Wd) : Option (Int × Wd) :=
  (p_X5_at (o0 + 9) ((x1 * 12) + x2) w).bind fun ⟨r2, w1⟩ =>
  some (r2, w1)
def p_X6_touched (o0 : Nat) (x1 : Int) (x2 : Int) (w : Wd) : Option (Int × Wd) :=
  (p_X5_at (o0 + 1) x2 w).bind fun ⟨r2, w1⟩ =>
  (p_X5_at (o0 + 1) (x2 - 1) w1).bind fun ⟨r4, w3⟩ =>
  (p_X5_at (o0 + 1) (x2 + 1) w3).bind fun ⟨r6, w5⟩ =>
  if eq32 (an32 (sr32 (or32 (or32 (or32 (sl32 r2 1) (sr32 r2 1)) r4) r6) x1) 1) 1 then
    some (1, w5)
  else
    some (0, w5)
def p_X6_strokesOn_46 (o0 : Nat) (x2 : Int) (x3 : Int) (s0 : Int) (w : Wd) : Option (Int × Wd) :=
  (p_X6_touched o0 x2 x3 w).bind fun ⟨r2, w1⟩ =>
  if eq32 r2 0 then
    some (s0, w1)
  else
    some (2 * s0, w1)
def p_X6_strokesOn_17 (o0 : Nat) (x1 : Int) (x2 : Int) (x3 : Int) (s0 : Int) (w : Wd) : Option (Int × Wd) :=
  if eq32 s0 0 then
    p_X6_strokesOn_46 o0 x2 x3 (1 + (rm32 (7 * (x1 - 97)) 5)) w
  else
    p_X6_strokesOn_46 o0 x2 x3 (2 + (rm32 (x1 - 48) 3)) w
def p_X6_strokesOn_16 (o0 : Nat) (x1 : Int) (x2 : Int) (x3 : Int) (w : Wd) : Option (Int × Wd) :=
  p_X6_strokesOn_17 o0 x1 x2 x3 0 w
def p_X6_strokesOn (o0 : Nat) (x1 : Int) (x2 : Int) (x3 : Int) (w : Wd) : Option (Int × Wd) :=
  if lt32 x1 48 then
    p_X6_strokesOn_16 o0 x1 x2 x3 w
  else
    if lt32 57 x1 then
      p_X6_strokesOn_16 o0 x1 x2 x3 w
    else
      p_X6_strokesOn_17 o0 x1 x2 x3 1 w
def p_X2_listLetters_119 (o0 : Nat) (o1 : Nat) (k7 : Int → Wd → Option (Wd)) (x2 : Int) (w : Wd) : Option (Wd) :=
  k7 (x2 + 1) w
def p_X2_listLetters_27 (o0 : Nat) (o1 : Nat) (k7 : Int → Wd → Option (Wd)) : Nat → Int → Int → Int → Wd → Option (Wd)
  | 0, _, _, _, _ => none
  | n + 1, x2, x3, x4, w =>
    if lt32 x4 x3 then
      (p_X5_at (o0 + 3) x2 w).bind fun ⟨r2, w1⟩ =>
      (p_X5_at (o0 + 1) x2 w1).bind fun ⟨r4, w3⟩ =>
      (p_X5_put (o0 + 5) (gF w1 o0 5) ((100 * r4) + (r2 + x4)) w3).bind fun w5 =>
      (p_X6_byteOf o1 x2 x4 w5).bind fun ⟨r7, w6⟩ =>
      (p_X5_at (o0 + 1) x2 w6).bind fun ⟨r9, w8⟩ =>
      (p_X6_strokesOn o1 r7 (r2 + x4) r9 w8).bind fun ⟨r11, w10⟩ =>
      (p_X5_put (o0 + 7) (gF w5 o0 5) r11 w10).bind fun w12 =>
      p_X2_listLetters_27 o0 o1 k7 n x2 x3 (x4 + 1) (sF w12 o0 5 ((gF w12 o0 5) + 1))
    else
      p_X2_listLetters_119 o0 o1 k7 x2 w
def p_X2_listLetters_7 (o0 : Nat) (o1 : Nat) : Nat → Int → Wd → Option (Wd)
  | 0, _, _ => none
  | n + 1, x2, w =>
    if lt32 x2 (gF w o0 4) then
      (p_X5_at (o1 + 7) x2 w).bind fun ⟨r2, w1⟩ =>
      p_X2_listLetters_27 o0 o1 (p_X2_listLetters_7 o0 o1 n) FU x2 r2 0 w1
    else
      some w
def p_X2_listLetters (o0 : Nat) (o1 : Nat) (w : Wd) : Option (Wd) :=
  p_X2_listLetters_7 o0 o1 FU 0 (sF w o0 5 0)
def p_X2_costsOf_5 (o0 : Nat) : Nat → Int → Int → Int → Wd → Option (Int × Wd)
  | 0, _, _, _, _ => none
  | n + 1, x2, x3, x4, w =>
    if lt32 x4 x2 then
      (p_X5_at (o0 + 7) x4 w).bind fun ⟨r2, w1⟩ =>
      p_X2_costsOf_5 o0 n x2 (x3 + r2) (x4 + 1) w1
    else
      some (x3, w)
def p_X2_costsOf (o0 : Nat) (x1 : Int) (x2 : Int) (w : Wd) : Option (Int × Wd) :=
  p_X2_costsOf_5 o0 FU x2 0 x1 w
def p_X2_wordOn_73 (o0 : Nat) (o1 : Nat) (k3 : Int → Int → Int → Wd → Option (Int × Wd)) (x2 : Int) (x3 : Int) (x4 : Int) (w : Wd) : Option (Int × Wd) :=
  k3 x2 x3 (x4 + 1) w
def p_X2_wordOn_50 (o0 : Nat) (o1 : Nat) (k3 : Int → Int → Int → Wd → Option (Int × Wd)) (x2 : Int) (x3 : Int) (x4 : Int) (s0 : Int) (w : Wd) : Option (Int × Wd) :=
  if eq32 s0 0 then
    p_X2_wordOn_73 o0 o1 k3 x2 x3 x4 w
  else
    (p_X5_at (o0 + 1) x4 w).bind fun ⟨r2, w1⟩ =>
    if eq32 r2 x3 then
      some (x4, w1)
    else
      p_X2_wordOn_73 o0 o1 k3 x2 x3 x4 w1
def p_X2_wordOn_49 (o0 : Nat) (o1 : Nat) (k3 : Int → Int → Int → Wd → Option (Int × Wd)) (x2 : Int) (x3 : Int) (x4 : Int) (w : Wd) : Option (Int × Wd) :=
  p_X2_wordOn_50 o0 o1 k3 x2 x3 x4 0 w
def p_X2_wordOn_3 (o0 : Nat) (o1 : Nat) : Nat → Int → Int → Int → Wd → Option (Int × Wd)
  | 0, _, _, _, _ => none
  | n + 1, x2, x3, x4, w =>
    if lt32 x4 (gF w o0 4) then
      (p_X5_at (o0 + 3) x4 w).bind fun ⟨r2, w1⟩ =>
      if lt32 x2 r2 then
        p_X2_wordOn_49 o0 o1 (p_X2_wordOn_3 o0 o1 n) x2 x3 x4 w1
      else
        (p_X5_at (o1 + 7) x4 w1).bind fun ⟨r4, w3⟩ =>
        if lt32 x2 (r2 + r4) then
          p_X2_wordOn_50 o0 o1 (p_X2_wordOn_3 o0 o1 n) x2 x3 x4 1 w3
        else
          p_X2_wordOn_49 o0 o1 (p_X2_wordOn_3 o0 o1 n) x2 x3 x4 w3
    else
      some (-1, w)
def p_X2_wordOn (o0 : Nat) (o1 : Nat) (x2 : Int) (x3 : Int) (w : Wd) : Option (Int × Wd) :=
  p_X2_wordOn_3 o0 o1 FU x2 x3 0 w
def p_X5_clear_2 (o0 : Nat) : Nat → Int → Wd → Option (Wd)
  | 0, _, _ => none
  | n + 1, x1, w =>
    if lt32 x1 ((ln (o0 + 1) : Nat) : Int) then
      if inb x1 (ln (o0 + 1)) = false then none else
      p_X5_clear_2 o0 n (x1 + 1) (sA w (o0 + 1) x1 0)
    else
      some w
def p_X5_clear (o0 : Nat) (w : Wd) : Option (Wd) :=
  p_X5_clear_2 o0 FU 0 w
def p_X5_copy_16 (o0 : Nat) (o1 : Nat) : Nat → Int → Int → Wd → Option (Wd)
  | 0, _, _, _ => none
  | n + 1, x2, x3, w =>
    if lt32 x3 x2 then
      if inb x3 (ln (o1 + 1)) = false then none else
      if inb x3 (ln (o0 + 1)) = false then none else
      p_X5_copy_16 o0 o1 n x2 (x3 + 1) (sA w (o0 + 1) x3 (gA w (o1 + 1) x3))
    else
      some w
def p_X5_copy (o0 : Nat) (o1 : Nat) (w : Wd) : Option (Wd) :=
  p_X5_copy_16 o0 o1 FU (mn32 ((ln (o0 + 1) : Nat) : Int) ((ln (o1 + 1) : Nat) : Int)) 0 w
def p_X6_clearParts (o0 : Nat) (w : Wd) : Option (Wd) :=
  (some (sF (sF w o0 4 0) o0 7 0)).bind fun w1 =>
  some w1
def p_X6_begin (o0 : Nat) (x1 : Int) (x2 : Int) (w : Wd) : Option (Wd) :=
  (some (sF (sF w o0 0 x1) o0 1 x2)).bind fun w1 =>
  (some (sF (sF w1 o0 2 0) o0 11 0)).bind fun w2 =>
  (p_X5_clear (o0 + 1) w2).bind fun w3 =>
  (p_X6_clearParts o0 w3).bind fun w4 =>
  (p_X1_renew (o0 + 11) 100 10 w4).bind fun w5 =>
  (some (sF (sF w5 (o0 + 11) 3 0) (o0 + 11) 4 0)).bind fun w6 =>
  some w6
def p_X6_copy (o0 : Nat) (o1 : Nat) (w : Wd) : Option (Wd) :=
  (some (sF (sF w o0 0 (gF w o1 0)) o0 1 (gF (sF w o0 0 (gF w o1 0)) o1 1))).bind fun w1 =>
  (p_X5_copy (o0 + 1) (o1 + 1) (sF w1 o0 2 (gF w1 o1 2))).bind fun w2 =>
  (p_X5_copy (o0 + 3) (o1 + 3) (sF w2 o0 4 (gF w2 o1 4))).bind fun w3 =>
  (p_X5_copy (o0 + 5) (o1 + 5) w3).bind fun w4 =>
  (p_X5_copy (o0 + 7) (o1 + 7) (sF w4 o0 7 (gF w4 o1 7))).bind fun w5 =>
  (p_X5_copy (o0 + 9) (o1 + 9) w5).bind fun w6 =>
  (p_X1_copy (o0 + 11) (o1 + 11) w6).bind fun w7 =>
  some (sF w7 o0 11 (gF w7 o1 11))
def p_X6_flawed_29 (o0 : Nat) (x1 : Int) (x2 : Int) (s0 : Int) (w : Wd) : Option (Int × Wd) :=
  if eq32 s0 0 then
    some (0, w)
  else
    (p_X5_at (o0 + 1) x2 w).bind fun ⟨r2, w1⟩ =>
    if eq32 (an32 (sr32 r2 x1) 1) 1 then
      some (1, w1)
    else
      some (0, w1)
def p_X6_flawed_28 (o0 : Nat) (x1 : Int) (x2 : Int) (w : Wd) : Option (Int × Wd) :=
  p_X6_flawed_29 o0 x1 x2 0 w
def p_X6_flawed (o0 : Nat) (x1 : Int) (x2 : Int) (w : Wd) : Option (Int × Wd) :=
  if lt32 x1 0 then
    p_X6_flawed_28 o0 x1 x2 w
  else
    if lt32 x1 (gF w o0 0) then
      if lt32 x2 0 then
        p_X6_flawed_28 o0 x1 x2 w
      else
        if lt32 x2 (gF w o0 1) then
          p_X6_flawed_29 o0 x1 x2 1 w
        else
          p_X6_flawed_28 o0 x1 x2 w
    else
      p_X6_flawed_28 o0 x1 x2 w
def p_X6_mark_65 (o0 : Nat) (s0 : Int) (s1 : Int) (w : Wd) : Option (Wd) :=
  (p_X5_put (o0 + 1) s1 s0 w).bind fun w1 =>
  some w1
def p_X6_mark (o0 : Nat) (x1 : Int) (x2 : Int) (x3 : Int) (w : Wd) : Option (Wd) :=
  if lt32 x1 0 then
    some w
  else
    if lt32 x1 (gF w o0 0) then
      if lt32 x2 0 then
        some w
      else
        if lt32 x2 (gF w o0 1) then
          if eq32 x3 0 then
            (p_X5_at (o0 + 1) x2 w).bind fun ⟨r2, w1⟩ =>
            p_X6_mark_65 o0 (an32 r2 (xo32 (sl32 1 x1) (-1))) x2 w1
          else
            (p_X5_at (o0 + 1) x2 w).bind fun ⟨r4, w3⟩ =>
            p_X6_mark_65 o0 (or32 r4 (sl32 1 x1)) x2 w3
        else
          some w
    else
      some w
def p_X6_turnFlaws_59 (o0 : Nat) (o1 : Nat) (k9 : Int → Wd → Option (Wd)) (x2 : Int) (w : Wd) : Option (Wd) :=
  k9 (x2 + 1) w
def p_X6_turnFlaws_19 (o0 : Nat) (o1 : Nat) (k9 : Int → Wd → Option (Wd)) : Nat → Int → Int → Wd → Option (Wd)
  | 0, _, _, _ => none
  | n + 1, x2, x3, w =>
    if lt32 x3 (gF w o0 0) then
      (p_X6_flawed o1 x3 x2 w).bind fun ⟨r2, w1⟩ =>
      (p_X6_mark o0 (((gF w o0 0) - 1) - x3) (((gF w o0 1) - 1) - x2) r2 w1).bind fun w3 =>
      p_X6_turnFlaws_19 o0 o1 k9 n x2 (x3 + 1) w3
    else
      p_X6_turnFlaws_59 o0 o1 k9 x2 w
def p_X6_turnFlaws_9 (o0 : Nat) (o1 : Nat) : Nat → Int → Wd → Option (Wd)
  | 0, _, _ => none
  | n + 1, x2, w =>
    if lt32 x2 (gF w o0 1) then
      p_X6_turnFlaws_19 o0 o1 (p_X6_turnFlaws_9 o0 o1 n) FU x2 0 w
    else
      some w
def p_X6_turnFlaws (o0 : Nat) (o1 : Nat) (w : Wd) : Option (Wd) :=
  (p_X5_clear (o0 + 1) w).bind fun w1 =>
  p_X6_turnFlaws_9 o0 o1 FU 0 w1
def p_X6_cutFlaws_60 (o0 : Nat) (k23 : Int → Int → Wd → Option (Wd)) (x3 : Int) (x4 : Int) (s0 : Int) (s1 : Int) (w : Wd) : Option (Wd) :=
  (p_X5_put (o0 + 1) s1 s0 w).bind fun w1 =>
  k23 x3 (x4 + 1) w1
def p_X6_cutFlaws_23 (o0 : Nat) : Nat → Int → Int → Wd → Option (Wd)
  | 0, _, _, _ => none
  | n + 1, x3, x4, w =>
    if lt32 x4 12 then
      if lt32 x4 (gF w o0 1) then
        (p_X5_at (o0 + 1) (x4 + x3) w).bind fun ⟨r2, w1⟩ =>
        p_X6_cutFlaws_60 o0 (p_X6_cutFlaws_23 o0 n) x3 x4 r2 x4 w1
      else
        p_X6_cutFlaws_60 o0 (p_X6_cutFlaws_23 o0 n) x3 x4 0 x4 w
    else
      some w
def p_X6_cutFlaws_9 (o0 : Nat) (x1 : Int) (s0 : Int) (w : Wd) : Option (Wd) :=
  p_X6_cutFlaws_23 o0 FU s0 0 (sF w o0 1 ((gF w o0 1) - x1))
def p_X6_cutFlaws (o0 : Nat) (x1 : Int) (x2 : Int) (w : Wd) : Option (Wd) :=
  if eq32 x2 0 then
    p_X6_cutFlaws_9 o0 x1 0 w
  else
    p_X6_cutFlaws_9 o0 x1 x1 w
def p_X6_openPart (o0 : Nat) (x1 : Int) (w : Wd) : Option (Wd) :=
  if lt32 (gF w o0 4) 10 then
    (p_X5_put (o0 + 3) (gF w o0 4) x1 w).bind fun w1 =>
    (p_X5_put (o0 + 5) (gF w1 o0 4) 0 w1).bind fun w2 =>
    some (sF w2 o0 4 ((gF w2 o0 4) + 1))
  else
    some w
def p_X6_takeWord_56 (o0 : Nat) (o1 : Nat) (x3 : Int) (w : Wd) : Option (Wd) :=
  (p_X5_put (o0 + 7) (gF w o0 7) x3 w).bind fun w1 =>
  (p_X5_at (o0 + 5) ((gF w1 o0 4) - 1) w1).bind fun ⟨r3, w2⟩ =>
  (p_X5_put (o0 + 5) ((gF w1 o0 4) - 1) (r3 + 1) w2).bind fun w4 =>
  some (sF w4 o0 7 ((gF w4 o0 7) + 1))
def p_X6_takeWord_19 (o0 : Nat) (o1 : Nat) : Nat → Int → Int → Int → Wd → Option (Wd)
  | 0, _, _, _, _ => none
  | n + 1, x2, x3, x4, w =>
    if lt32 x4 x3 then
      (p_X5_at o1 (x2 + x4) w).bind fun ⟨r2, w1⟩ =>
      (p_X5_put (o0 + 9) (((gF w o0 7) * 12) + x4) r2 w1).bind fun w3 =>
      p_X6_takeWord_19 o0 o1 n x2 x3 (x4 + 1) w3
    else
      p_X6_takeWord_56 o0 o1 x3 w
def p_X6_takeWord (o0 : Nat) (o1 : Nat) (x2 : Int) (x3 : Int) (w : Wd) : Option (Wd) :=
  if lt32 (gF w o0 7) 60 then
    if lt32 0 (gF w o0 4) then
      p_X6_takeWord_19 o0 o1 FU x2 x3 0 w
    else
      some w
  else
    some w
def p_X6_firstOf_4 (o0 : Nat) : Nat → Int → Int → Int → Wd → Option (Int × Wd)
  | 0, _, _, _, _ => none
  | n + 1, x1, x2, x3, w =>
    if lt32 x3 x1 then
      (p_X5_at (o0 + 5) x3 w).bind fun ⟨r2, w1⟩ =>
      p_X6_firstOf_4 o0 n x1 (x2 + r2) (x3 + 1) w1
    else
      some (x2, w)
def p_X6_firstOf (o0 : Nat) (x1 : Int) (w : Wd) : Option (Int × Wd) :=
  p_X6_firstOf_4 o0 FU x1 0 0 w
def p_X6_takePart_33 (o0 : Nat) (o1 : Nat) : Nat → Int → Int → Wd → Option (Wd)
  | 0, _, _, _ => none
  | n + 1, x4, x5, w =>
    if lt32 x5 x4 then
      (p_X5_at (o1 + 7) x5 w).bind fun ⟨r2, w1⟩ =>
      (p_X6_takeWord o0 (o1 + 9) (x5 * 12) r2 w1).bind fun w3 =>
      p_X6_takePart_33 o0 o1 n x4 (x5 + 1) w3
    else
      some w
def p_X6_takePart (o0 : Nat) (o1 : Nat) (x2 : Int) (w : Wd) : Option (Wd) :=
  (p_X6_firstOf o1 x2 w).bind fun ⟨r2, w1⟩ =>
  (p_X5_at (o1 + 5) x2 w1).bind fun ⟨r4, w3⟩ =>
  (p_X5_at (o1 + 3) x2 w3).bind fun ⟨r6, w5⟩ =>
  (p_X6_openPart o0 r6 w5).bind fun w7 =>
  p_X6_takePart_33 o0 o1 FU (r2 + r4) r2 w7
def p_X6_sameWord_23 (o0 : Nat) (o1 : Nat) : Nat → Int → Int → Wd → Option (Int × Wd)
  | 0, _, _, _ => none
  | n + 1, x2, x3, w =>
    (p_X5_at (o0 + 7) x2 w).bind fun ⟨r2, w1⟩ =>
    if lt32 x3 r2 then
      (p_X6_byteOf o0 x2 x3 w1).bind fun ⟨r4, w3⟩ =>
      (p_X6_byteOf o1 x2 x3 w3).bind fun ⟨r6, w5⟩ =>
      if eq32 r4 r6 then
        p_X6_sameWord_23 o0 o1 n x2 (x3 + 1) w5
      else
        some (0, w5)
    else
      some (1, w1)
def p_X6_sameWord (o0 : Nat) (o1 : Nat) (x2 : Int) (w : Wd) : Option (Int × Wd) :=
  (p_X5_at (o0 + 7) x2 w).bind fun ⟨r2, w1⟩ =>
  (p_X5_at (o1 + 7) x2 w1).bind fun ⟨r4, w3⟩ =>
  if eq32 r2 r4 then
    p_X6_sameWord_23 o0 o1 FU x2 0 w3
  else
    some (0, w3)
def p_X6_partOf_11 (o0 : Nat) : Nat → Int → Int → Int → Wd → Option (Int × Wd)
  | 0, _, _, _, _ => none
  | n + 1, x1, x2, x3, w =>
    if lt32 x2 ((gF w o0 4) - 1) then
      if lt32 x1 x3 then
        some (x2, w)
      else
        (p_X5_at (o0 + 5) (x2 + 1) w).bind fun ⟨r2, w1⟩ =>
        p_X6_partOf_11 o0 n x1 (x2 + 1) (x3 + r2) w1
    else
      some (x2, w)
def p_X6_partOf (o0 : Nat) (x1 : Int) (w : Wd) : Option (Int × Wd) :=
  (p_X5_at (o0 + 5) 0 w).bind fun ⟨r2, w1⟩ =>
  p_X6_partOf_11 o0 FU x1 0 r2 w1
def p_X6_lettersAhead_4 (o0 : Nat) : Nat → Int → Int → Int → Wd → Option (Int × Wd)
  | 0, _, _, _, _ => none
  | n + 1, x1, x2, x3, w =>
    if lt32 x3 x1 then
      (p_X5_at (o0 + 7) x3 w).bind fun ⟨r2, w1⟩ =>
      p_X6_lettersAhead_4 o0 n x1 (x2 + r2) (x3 + 1) w1
    else
      some (x2, w)
def p_X6_lettersAhead (o0 : Nat) (x1 : Int) (w : Wd) : Option (Int × Wd) :=
  p_X6_lettersAhead_4 o0 FU x1 0 0 w
def p_X7_kindOf_14 (x0 : Int) (w : Wd) : Option (Int × Wd) :=
  if lt32 x0 48 then
    some (3, w)
  else
    if lt32 57 x0 then
      some (3, w)
    else
      some (2, w)
def p_X7_kindOf (x0 : Int) (w : Wd) : Option (Int × Wd) :=
  if lt32 x0 97 then
    p_X7_kindOf_14 x0 w
  else
    if lt32 122 x0 then
      p_X7_kindOf_14 x0 w
    else
      some (1, w)
def p_X7_step_53 (k10 : Int → Wd → Option (Wd)) (x1 : Int) (w : Wd) : Option (Wd) :=
  k10 (x1 + 1) w
def p_X7_step_153 (x1 : Int) (w : Wd) : Option (Wd) :=
  some (sF w 8 3 (x1 - (gF w 8 2)))
def p_X7_step_107 : Nat → Int → Wd → Option (Wd)
  | 0, _, _ => none
  | n + 1, x1, w =>
    if lt32 x1 (gF w 2 1) then
      if eq32 (gF w 8 1) 3 then
        p_X7_step_153 x1 w
      else
        (p_X5_at 3 x1 w).bind fun ⟨r2, w1⟩ =>
        (p_X7_kindOf r2 w1).bind fun ⟨r4, w3⟩ =>
        if eq32 r4 (gF w3 8 1) then
          p_X7_step_107 n (x1 + 1) w3
        else
          p_X7_step_153 x1 w3
    else
      p_X7_step_153 x1 w
def p_X7_step_59 (x1 : Int) (w : Wd) : Option (Wd) :=
  if lt32 x1 (gF (sF w 8 2 x1) 2 1) then
    (p_X5_at 3 x1 (sF w 8 2 x1)).bind fun ⟨r2, w1⟩ =>
    (p_X7_kindOf r2 w1).bind fun ⟨r4, w3⟩ =>
    p_X7_step_107 FU (x1 + 1) (sF w3 8 1 r4)
  else
    (some (sF (sF w 8 2 x1) 8 1 0)).bind fun w5 =>
    some (sF w5 8 3 0)
def p_X7_step_10 : Nat → Int → Wd → Option (Wd)
  | 0, _, _ => none
  | n + 1, x1, w =>
    if lt32 x1 (gF w 2 1) then
      (p_X5_at 3 x1 w).bind fun ⟨r2, w1⟩ =>
      if eq32 r2 32 then
        p_X7_step_53 (p_X7_step_10 n) x1 w1
      else
        (p_X5_at 3 x1 w1).bind fun ⟨r4, w3⟩ =>
        if eq32 r4 10 then
          p_X7_step_53 (p_X7_step_10 n) x1 w3
        else
          p_X7_step_59 x1 w3
    else
      p_X7_step_59 x1 w
def p_X7_step (w : Wd) : Option (Wd) :=
  p_X7_step_10 FU ((gF w 8 2) + (gF w 8 3)) w
def p_X7_restart (w : Wd) : Option (Wd) :=
  (some (sF (sF w 8 2 0) 8 3 0)).bind fun w1 =>
  (p_X7_step w1).bind fun w2 =>
  some w2
def p_X7_isPlainWord_16 (w : Wd) : Option (Int × Wd) :=
  if lt32 12 (gF w 8 3) then
    some (0, w)
  else
    some (1, w)
def p_X7_isPlainWord (w : Wd) : Option (Int × Wd) :=
  if eq32 (gF w 8 1) 1 then
    p_X7_isPlainWord_16 w
  else
    if eq32 (gF w 8 1) 2 then
      p_X7_isPlainWord_16 w
    else
      some (0, w)
def p_X7_value_4 : Nat → Int → Int → Wd → Option (Int × Wd)
  | 0, _, _, _ => none
  | n + 1, x1, x2, w =>
    if lt32 x2 (gF w 8 3) then
      (p_X5_at 3 ((gF w 8 2) + x2) w).bind fun ⟨r2, w1⟩ =>
      p_X7_value_4 n (mn32 (((x1 * 10) + r2) - 48) 10000) (x2 + 1) w1
    else
      some (x1, w)
def p_X7_value (w : Wd) : Option (Int × Wd) :=
  p_X7_value_4 FU 0 0 w
