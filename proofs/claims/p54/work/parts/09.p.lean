def p_X5_put (o0 : Nat) (x1 : Int) (x2 : Int) (w : Wd) : Option (Wd) :=
  if lt32 x1 0 then
    some w
  else
    if lt32 x1 ((ln (o0 + 1) : Nat) : Int) then
      if inb x1 (ln (o0 + 1)) = false then none else
      some (sA w (o0 + 1) x1 x2)
    else
      some w
def p_X0_add (o0 : Nat) (x1 : Int) (w : Wd) : Option (Wd) :=
  (p_X5_put (o0 + 1) (gF w o0 1) (an32 x1 255) w).bind fun w1 =>
  some (sF w1 o0 1 ((gF w1 o0 1) + 1))
def p_X0_addFour (o0 : Nat) (x1 : Int) (w : Wd) : Option (Wd) :=
  (p_X0_add o0 (us32 x1 24) w).bind fun w1 =>
  (p_X0_add o0 (us32 x1 16) w1).bind fun w2 =>
  (p_X0_add o0 (us32 x1 8) w2).bind fun w3 =>
  (p_X0_add o0 x1 w3).bind fun w4 =>
  some w4
def p_X8_append (x1 : Int) (x2 : Int) (x3 : Int) (x4 : Int) (x5 : Int) (na : Nat) (w : Wd) : Option (Rz) :=
  if lt32 480 (gF w 2 1) then
    some (Sum.inr 1, na, w)
  else
    (p_X0_addFour 2 x1 w).bind fun w1 =>
    (p_X0_addFour 2 x2 w1).bind fun w2 =>
    (p_X0_addFour 2 x3 w2).bind fun w3 =>
    (p_X0_addFour 2 x4 w3).bind fun w4 =>
    (p_X0_addFour 2 x5 w4).bind fun w5 =>
    some (Sum.inl (gF w5 2 1), na, w5)
def p_X8_truncate_15 (na : Nat) (w : Wd) : Option (Rz) :=
  some (Sum.inr 2, na, w)
def p_X8_truncate (x1 : Int) (na : Nat) (w : Wd) : Option (Rz) :=
  if lt32 x1 0 then
    p_X8_truncate_15 na w
  else
    if lt32 (gF w 2 1) x1 then
      p_X8_truncate_15 na w
    else
      some (Sum.inl 0, na, sF w 2 1 x1)
def p_X5_at (o0 : Nat) (x1 : Int) (w : Wd) : Option (Int × Wd) :=
  if lt32 x1 0 then
    some (0, w)
  else
    if lt32 x1 ((ln (o0 + 1) : Nat) : Int) then
      if inb x1 (ln (o0 + 1)) = false then none else
      some (gA w (o0 + 1) x1, w)
    else
      some (0, w)
def p_X7_kindOf_14 (x0 : Int) (w : Wd) : Option (Int × Wd) :=
  if lt32 x0 48 then
    some (3, w)
  else
    if lt32 57 x0 then
      some (3, w)
    else
      some (2, w)
def p_X7_kindOf (x0 : Int) (w : Wd) : Option (Int × Wd) :=
  if lt32 x0 97 then
    p_X7_kindOf_14 x0 w
  else
    if lt32 122 x0 then
      p_X7_kindOf_14 x0 w
    else
      some (1, w)
def p_X7_step_53 (k10 : Int → Wd → Option (Wd)) (x1 : Int) (w : Wd) : Option (Wd) :=
  k10 (x1 + 1) w
def p_X7_step_153 (x1 : Int) (w : Wd) : Option (Wd) :=
  some (sF w 8 3 (x1 - (gF w 8 2)))
def p_X7_step_107 : Nat → Int → Wd → Option (Wd)
  | 0, _, _ => none
  | n + 1, x1, w =>
    if lt32 x1 (gF w 2 1) then
      if eq32 (gF w 8 1) 3 then
        p_X7_step_153 x1 w
      else
        (p_X5_at 3 x1 w).bind fun ⟨r2, w1⟩ =>
        (p_X7_kindOf r2 w1).bind fun ⟨r4, w3⟩ =>
        if eq32 r4 (gF w3 8 1) then
          p_X7_step_107 n (x1 + 1) w3
        else
          p_X7_step_153 x1 w3
    else
      p_X7_step_153 x1 w
def p_X7_step_59 (x1 : Int) (w : Wd) : Option (Wd) :=
  if lt32 x1 (gF (sF w 8 2 x1) 2 1) then
    (p_X5_at 3 x1 (sF w 8 2 x1)).bind fun ⟨r2, w1⟩ =>
    (p_X7_kindOf r2 w1).bind fun ⟨r4, w3⟩ =>
    p_X7_step_107 FU (x1 + 1) (sF w3 8 1 r4)
  else
    (some (sF (sF w 8 2 x1) 8 1 0)).bind fun w5 =>
    some (sF w5 8 3 0)
def p_X7_step_10 : Nat → Int → Wd → Option (Wd)
  | 0, _, _ => none
  | n + 1, x1, w =>
    if lt32 x1 (gF w 2 1) then
      (p_X5_at 3 x1 w).bind fun ⟨r2, w1⟩ =>
      if eq32 r2 32 then
        p_X7_step_53 (p_X7_step_10 n) x1 w1
      else
        (p_X5_at 3 x1 w1).bind fun ⟨r4, w3⟩ =>
        if eq32 r4 10 then
          p_X7_step_53 (p_X7_step_10 n) x1 w3
        else
          p_X7_step_59 x1 w3
    else
      p_X7_step_59 x1 w
def p_X7_step (w : Wd) : Option (Wd) :=
  p_X7_step_10 FU ((gF w 8 2) + (gF w 8 3)) w
def p_X7_restart (w : Wd) : Option (Wd) :=
  (some (sF (sF w 8 2 0) 8 3 0)).bind fun w1 =>
  (p_X7_step w1).bind fun w2 =>
  some w2
def p_X7_says_15 (o1 : Nat) : Nat → Int → Wd → Option (Int × Wd)
  | 0, _, _ => none
  | n + 1, x2, w =>
    if lt32 x2 ((slen o1 : Nat) : Int) then
      (p_X5_at 3 ((gF w 8 2) + x2) w).bind fun ⟨r2, w1⟩ =>
      if inb x2 (slen o1) = false then none else
      if eq32 r2 (sch o1 x2) then
        p_X7_says_15 o1 n (x2 + 1) w1
      else
        some (0, w1)
    else
      some (1, w)
def p_X7_says (o1 : Nat) (w : Wd) : Option (Int × Wd) :=
  if eq32 (gF w 8 3) ((slen o1 : Nat) : Int) then
    p_X7_says_15 o1 FU 0 w
  else
    some (0, w)
def p_X3_fail (x1 : Int) (w : Wd) : Option (Int × Wd) :=
  (some (sF (sF w 9 1 x1) 9 2 (gF (sF w 9 1 x1) 8 2))).bind fun w1 =>
  some (0, w1)
def p_X7_value_4 : Nat → Int → Int → Wd → Option (Int × Wd)
  | 0, _, _, _ => none
  | n + 1, x1, x2, w =>
    if lt32 x2 (gF w 8 3) then
      (p_X5_at 3 ((gF w 8 2) + x2) w).bind fun ⟨r2, w1⟩ =>
      p_X7_value_4 n (mn32 (((x1 * 10) + r2) - 48) 10000) (x2 + 1) w1
    else
      some (x1, w)
def p_X7_value (w : Wd) : Option (Int × Wd) :=
  p_X7_value_4 FU 0 0 w
def p_X3_checkNumber_52 (w : Wd) : Option (Int × Wd) :=
  some (1, w)
def p_X3_checkNumber_44 (w : Wd) : Option (Int × Wd) :=
  (p_X3_fail 2 w).bind fun ⟨r2, w1⟩ =>
  if eq32 r2 0 then
    some (0, w1)
  else
    p_X3_checkNumber_52 w1
def p_X3_checkNumber (x1 : Int) (x2 : Int) (w : Wd) : Option (Int × Wd) :=
  if eq32 (gF w 8 1) 2 then
    (p_X7_value w).bind fun ⟨r2, w1⟩ =>
    if lt32 (gF (sF w1 9 3 r2) 9 3) x1 then
      p_X3_checkNumber_44 (sF w1 9 3 r2)
    else
      if lt32 x2 (gF (sF w1 9 3 r2) 9 3) then
        p_X3_checkNumber_44 (sF w1 9 3 r2)
      else
        p_X3_checkNumber_52 (sF w1 9 3 r2)
  else
    (p_X3_fail 1 w).bind fun ⟨r4, w3⟩ =>
    zr r4 w3
def p_X3_readNumber (x1 : Int) (x2 : Int) (w : Wd) : Option (Int × Wd) :=
  (p_X3_checkNumber x1 x2 w).bind fun ⟨r2, w1⟩ =>
  if eq32 r2 0 then
    some (0, w1)
  else
    (p_X7_step w1).bind fun w3 =>
    some (1, w3)
def p_X5_clear_2 (o0 : Nat) : Nat → Int → Wd → Option (Wd)
  | 0, _, _ => none
  | n + 1, x1, w =>
    if lt32 x1 ((ln (o0 + 1) : Nat) : Int) then
      if inb x1 (ln (o0 + 1)) = false then none else
      p_X5_clear_2 o0 n (x1 + 1) (sA w (o0 + 1) x1 0)
    else
      some w
def p_X5_clear (o0 : Nat) (w : Wd) : Option (Wd) :=
  p_X5_clear_2 o0 FU 0 w
def p_X6_clearParts (o0 : Nat) (w : Wd) : Option (Wd) :=
  (some (sF (sF w o0 4 0) o0 7 0)).bind fun w1 =>
  some w1
def p_X1_renew (o0 : Nat) (x1 : Int) (x2 : Int) (w : Wd) : Option (Wd) :=
  (some (sF (sF w o0 0 x1) o0 1 x2)).bind fun w1 =>
  some (sF w1 o0 2 x1)
def p_X6_begin (o0 : Nat) (x1 : Int) (x2 : Int) (w : Wd) : Option (Wd) :=
  (some (sF (sF w o0 0 x1) o0 1 x2)).bind fun w1 =>
  (some (sF (sF w1 o0 2 0) o0 11 0)).bind fun w2 =>
  (p_X5_clear (o0 + 1) w2).bind fun w3 =>
  (p_X6_clearParts o0 w3).bind fun w4 =>
  (p_X1_renew (o0 + 11) 100 10 w4).bind fun w5 =>
  (some (sF (sF w5 (o0 + 11) 3 0) (o0 + 11) 4 0)).bind fun w6 =>
  some w6
def p_X3_readEnd (w : Wd) : Option (Int × Wd) :=
  (p_X7_says 1 w).bind fun ⟨r2, w1⟩ =>
  if eq32 r2 0 then
    (p_X3_fail 1 w1).bind fun ⟨r5, w4⟩ =>
    zr r5 w4
  else
    (p_X7_step w1).bind fun w3 =>
    some (1, w3)
def p_X3_readSize (o1 : Nat) (w : Wd) : Option (Int × Wd) :=
  (p_X7_says 0 w).bind fun ⟨r2, w1⟩ =>
  if eq32 r2 0 then
    (p_X3_fail 1 w1).bind fun ⟨r12, w11⟩ =>
    zr r12 w11
  else
    (p_X7_step w1).bind fun w3 =>
    (p_X3_readNumber 4 24 w3).bind fun ⟨r5, w4⟩ =>
    if eq32 r5 0 then
      some (0, w4)
    else
      (p_X3_readNumber 2 12 w4).bind fun ⟨r7, w6⟩ =>
      if eq32 r7 0 then
        some (0, w6)
      else
        (p_X6_begin o1 (gF w4 9 3) (gF w6 9 3) w6).bind fun w8 =>
        (p_X3_readEnd w8).bind fun ⟨r10, w9⟩ =>
        zr r10 w9
def p_X6_flawed_29 (o0 : Nat) (x1 : Int) (x2 : Int) (s0 : Int) (w : Wd) : Option (Int × Wd) :=
  if eq32 s0 0 then
    some (0, w)
  else
    (p_X5_at (o0 + 1) x2 w).bind fun ⟨r2, w1⟩ =>
    if eq32 (an32 (sr32 r2 x1) 1) 1 then
      some (1, w1)
    else
      some (0, w1)
def p_X6_flawed_28 (o0 : Nat) (x1 : Int) (x2 : Int) (w : Wd) : Option (Int × Wd) :=
  p_X6_flawed_29 o0 x1 x2 0 w
def p_X6_flawed (o0 : Nat) (x1 : Int) (x2 : Int) (w : Wd) : Option (Int × Wd) :=
  if lt32 x1 0 then
    p_X6_flawed_28 o0 x1 x2 w
  else
    if lt32 x1 (gF w o0 0) then
      if lt32 x2 0 then
        p_X6_flawed_28 o0 x1 x2 w
      else
        if lt32 x2 (gF w o0 1) then
          p_X6_flawed_29 o0 x1 x2 1 w
        else
          p_X6_flawed_28 o0 x1 x2 w
    else
      p_X6_flawed_28 o0 x1 x2 w
def p_X6_mark_65 (o0 : Nat) (s0 : Int) (s1 : Int) (w : Wd) : Option (Wd) :=
  (p_X5_put (o0 + 1) s1 s0 w).bind fun w1 =>
  some w1
def p_X6_mark (o0 : Nat) (x1 : Int) (x2 : Int) (x3 : Int) (w : Wd) : Option (Wd) :=
  if lt32 x1 0 then
    some w
  else
    if lt32 x1 (gF w o0 0) then
      if lt32 x2 0 then
        some w
      else
        if lt32 x2 (gF w o0 1) then
          if eq32 x3 0 then
            (p_X5_at (o0 + 1) x2 w).bind fun ⟨r2, w1⟩ =>
            p_X6_mark_65 o0 (an32 r2 (xo32 (sl32 1 x1) (-1))) x2 w1
          else
            (p_X5_at (o0 + 1) x2 w).bind fun ⟨r4, w3⟩ =>
            p_X6_mark_65 o0 (or32 r4 (sl32 1 x1)) x2 w3
        else
          some w
    else
      some w
def p_X3_readFlaw (o1 : Nat) (w : Wd) : Option (Int × Wd) :=
  (p_X3_checkNumber 0 ((gF w o1 0) - 1) w).bind fun ⟨r2, w1⟩ =>
  if eq32 r2 0 then
    some (0, w1)
  else
    if lt32 (gF w1 9 4) 40 then
      (p_X7_step w1).bind fun w3 =>
      (p_X3_checkNumber 0 ((gF w3 o1 1) - 1) w3).bind fun ⟨r5, w4⟩ =>
      if eq32 r5 0 then
        some (0, w4)
      else
        (p_X6_flawed o1 (gF w1 9 3) (gF w4 9 3) w4).bind fun ⟨r7, w6⟩ =>
        if eq32 r7 0 then
          (p_X6_mark o1 (gF w1 9 3) (gF w6 9 3) 1 w6).bind fun w8 =>
          (p_X7_step (sF w8 9 4 ((gF w8 9 4) + 1))).bind fun w9 =>
          some (1, w9)
        else
          (p_X3_fail 3 w6).bind fun ⟨r11, w10⟩ =>
          zr r11 w10
    else
      (p_X3_fail 5 w1).bind fun ⟨r13, w12⟩ =>
      zr r13 w12
def p_X3_readFlaws_48 (o1 : Nat) (w : Wd) : Option (Int × Wd) :=
  (p_X3_readEnd w).bind fun ⟨r2, w1⟩ =>
  zr r2 w1
def p_X3_readFlaws_4 (o1 : Nat) : Nat → Int → Int → Wd → Option (Int × Wd)
  | 0, _, _, _ => none
  | n + 1, x2, x3, w =>
    if lt32 x3 500 then
      if eq32 x2 0 then
        p_X3_readFlaws_48 o1 w
      else
        (p_X7_step w).bind fun w1 =>
        (p_X3_readFlaw o1 w1).bind fun ⟨r3, w2⟩ =>
        if eq32 r3 0 then
          some (0, w2)
        else
          (p_X7_says 3 w2).bind fun ⟨r5, w4⟩ =>
          p_X3_readFlaws_4 o1 n r5 (x3 + 1) w4
    else
      p_X3_readFlaws_48 o1 w
def p_X3_readFlaws (o1 : Nat) (w : Wd) : Option (Int × Wd) :=
  p_X3_readFlaws_4 o1 FU 1 0 w
def p_X3_readGap (o1 : Nat) (w : Wd) : Option (Int × Wd) :=
  if eq32 (gF w 9 5) 0 then
    (p_X7_step (sF w 9 5 1)).bind fun w1 =>
    (p_X3_readNumber 0 3 w1).bind fun ⟨r3, w2⟩ =>
    if eq32 r3 0 then
      some (0, w2)
    else
      (p_X3_readEnd (sF w2 o1 2 (gF w2 9 3))).bind fun ⟨r5, w4⟩ =>
      zr r5 w4
  else
    (p_X3_fail 3 w).bind fun ⟨r7, w6⟩ =>
    zr r7 w6
def p_X3_readChisel (o1 : Nat) (w : Wd) : Option (Int × Wd) :=
  if eq32 (gF w 9 6) 0 then
    (p_X7_step (sF w 9 6 1)).bind fun w1 =>
    (p_X3_readNumber 1 999 w1).bind fun ⟨r3, w2⟩ =>
    if eq32 r3 0 then
      some (0, w2)
    else
      (p_X3_readNumber 0 99 w2).bind fun ⟨r5, w4⟩ =>
      if eq32 r5 0 then
        some (0, w4)
      else
        (p_X1_renew (o1 + 11) (gF w2 9 3) (gF w4 9 3) w4).bind fun w6 =>
        (p_X3_readEnd w6).bind fun ⟨r8, w7⟩ =>
        zr r8 w7
  else
    (p_X3_fail 3 w).bind fun ⟨r10, w9⟩ =>
    zr r10 w9
def p_X6_openPart (o0 : Nat) (x1 : Int) (w : Wd) : Option (Wd) :=
  if lt32 (gF w o0 4) 10 then
    (p_X5_put (o0 + 3) (gF w o0 4) x1 w).bind fun w1 =>
    (p_X5_put (o0 + 5) (gF w1 o0 4) 0 w1).bind fun w2 =>
    some (sF w2 o0 4 ((gF w2 o0 4) + 1))
  else
    some w
def p_X7_isPlainWord_16 (w : Wd) : Option (Int × Wd) :=
  if lt32 12 (gF w 8 3) then
    some (0, w)
  else
    some (1, w)
def p_X7_isPlainWord (w : Wd) : Option (Int × Wd) :=
  if eq32 (gF w 8 1) 1 then
    p_X7_isPlainWord_16 w
  else
    if eq32 (gF w 8 1) 2 then
      p_X7_isPlainWord_16 w
    else
      some (0, w)
def p_X6_takeWord_56 (o0 : Nat) (o1 : Nat) (x3 : Int) (w : Wd) : Option (Wd) :=
  (p_X5_put (o0 + 7) (gF w o0 7) x3 w).bind fun w1 =>
  (p_X5_at (o0 + 5) ((gF w1 o0 4) - 1) w1).bind fun ⟨r3, w2⟩ =>
  (p_X5_put (o0 + 5) ((gF w1 o0 4) - 1) (r3 + 1) w2).bind fun w4 =>
  some (sF w4 o0 7 ((gF w4 o0 7) + 1))
def p_X6_takeWord_19 (o0 : Nat) (o1 : Nat) : Nat → Int → Int → Int → Wd → Option (Wd)
  | 0, _, _, _, _ => none
  | n + 1, x2, x3, x4, w =>
    if lt32 x4 x3 then
      (p_X5_at o1 (x2 + x4) w).bind fun ⟨r2, w1⟩ =>
      (p_X5_put (o0 + 9) (((gF w o0 7) * 12) + x4) r2 w1).bind fun w3 =>
      p_X6_takeWord_19 o0 o1 n x2 x3 (x4 + 1) w3
    else
      p_X6_takeWord_56 o0 o1 x3 w
def p_X6_takeWord (o0 : Nat) (o1 : Nat) (x2 : Int) (x3 : Int) (w : Wd) : Option (Wd) :=
  if lt32 (gF w o0 7) 60 then
    if lt32 0 (gF w o0 4) then
      p_X6_takeWord_19 o0 o1 FU x2 x3 0 w
    else
      some w
  else
    some w
def p_X3_readWord (o1 : Nat) (w : Wd) : Option (Int × Wd) :=
  (p_X7_isPlainWord w).bind fun ⟨r2, w1⟩ =>
  if eq32 r2 0 then
    (p_X3_fail 1 w1).bind fun ⟨r10, w9⟩ =>
    zr r10 w9
  else
    if lt32 (gF w1 o1 0) (gF w1 8 3) then
      (p_X3_fail 4 w1).bind fun ⟨r8, w7⟩ =>
      zr r8 w7
    else
      if lt32 (gF w1 o1 7) 60 then
        (p_X6_takeWord o1 3 (gF w1 8 2) (gF w1 8 3) w1).bind fun w3 =>
        (p_X7_step w3).bind fun w4 =>
        some (1, w4)
      else
        (p_X3_fail 5 w1).bind fun ⟨r6, w5⟩ =>
        zr r6 w5
def p_X3_readPart_72 (o1 : Nat) (x3 : Int) (w : Wd) : Option (Int × Wd) :=
  if eq32 x3 0 then
    some (0, w)
  else
    (p_X3_readEnd w).bind fun ⟨r2, w1⟩ =>
    if eq32 r2 0 then
      some (0, w1)
    else
      some (1, w1)
def p_X3_readPart_36 (o1 : Nat) : Nat → Int → Int → Wd → Option (Int × Wd)
  | 0, _, _, _ => none
  | n + 1, x3, x4, w =>
    if lt32 x4 500 then
      if eq32 x3 0 then
        p_X3_readPart_72 o1 x3 w
      else
        (p_X7_says 1 w).bind fun ⟨r2, w1⟩ =>
        if eq32 r2 0 then
          (p_X3_readWord o1 w1).bind fun ⟨r4, w3⟩ =>
          p_X3_readPart_36 o1 n r4 (x4 + 1) w3
        else
          p_X3_readPart_72 o1 x3 w1
    else
      p_X3_readPart_72 o1 x3 w
def p_X3_readPart (o1 : Nat) (x2 : Int) (w : Wd) : Option (Int × Wd) :=
  if lt32 (gF w o1 4) 10 then
    (p_X6_openPart o1 x2 w).bind fun w1 =>
    (p_X7_step w1).bind fun w2 =>
    (p_X3_readWord o1 w2).bind fun ⟨r4, w3⟩ =>
    p_X3_readPart_36 o1 FU r4 0 w3
  else
    (p_X3_fail 5 w).bind fun ⟨r6, w5⟩ =>
    zr r6 w5
def p_X3_readStatement (o1 : Nat) (w : Wd) : Option (Int × Wd) :=
  (p_X7_says 2 w).bind fun ⟨r2, w1⟩ =>
  if eq32 r2 0 then
    (p_X7_says 4 w1).bind fun ⟨r4, w3⟩ =>
    if eq32 r4 0 then
      (p_X7_says 5 w3).bind fun ⟨r6, w5⟩ =>
      if eq32 r6 0 then
        (p_X7_says 6 w5).bind fun ⟨r8, w7⟩ =>
        if eq32 r8 0 then
          (p_X7_says 7 w7).bind fun ⟨r10, w9⟩ =>
          if eq32 r10 0 then
            (p_X7_says 8 w9).bind fun ⟨r12, w11⟩ =>
            if eq32 r12 0 then
              (p_X3_fail 1 w11).bind fun ⟨r14, w13⟩ =>
              zr r14 w13
            else
              (p_X3_readPart o1 2 w11).bind fun ⟨r16, w15⟩ =>
              zr r16 w15
          else
            (p_X3_readPart o1 1 w9).bind fun ⟨r18, w17⟩ =>
            zr r18 w17
        else
          (p_X3_readPart o1 0 w7).bind fun ⟨r20, w19⟩ =>
          zr r20 w19
      else
        (p_X3_readChisel o1 w5).bind fun ⟨r22, w21⟩ =>
        zr r22 w21
    else
      (p_X3_readGap o1 w3).bind fun ⟨r24, w23⟩ =>
      zr r24 w23
  else
    (p_X3_readFlaws o1 w1).bind fun ⟨r26, w25⟩ =>
    zr r26 w25
def p_X3_read_40 (o1 : Nat) : Nat → Int → Int → Wd → Option (Int × Wd)
  | 0, _, _, _ => none
  | n + 1, x2, x3, w =>
    if lt32 x3 500 then
      if eq32 x2 0 then
        zr x2 w
      else
        if eq32 (gF w 8 1) 0 then
          zr x2 w
        else
          (p_X3_readStatement o1 w).bind fun ⟨r2, w1⟩ =>
          p_X3_read_40 o1 n r2 (x3 + 1) w1
    else
      zr x2 w
def p_X3_read (o1 : Nat) (w : Wd) : Option (Int × Wd) :=
  (some (sF (sF w 9 1 0) 9 2 (-1))).bind fun w1 =>
  (some (sF (sF w1 9 4 0) 9 5 0)).bind fun w2 =>
  (p_X7_restart (sF w2 9 6 0)).bind fun w3 =>
  (p_X3_readSize o1 w3).bind fun ⟨r5, w4⟩ =>
  p_X3_read_40 o1 FU r5 0 w4
def p_X4_oldestToEnd_2 : Nat → Int → Wd → Option (Wd)
  | 0, _, _ => none
  | n + 1, x1, w =>
    if lt32 x1 6 then
      if inb (x1 - 1) 6 = false then none else
      if inb x1 6 = false then none else
      if inb (x1 - 1) 6 = false then none else
      if inb x1 6 = false then none else
      (some (sP (sP w 32 (x1 - 1) (gP w 32 x1)) 32 x1 (gP w 32 (x1 - 1)))).bind fun w3 =>
      p_X4_oldestToEnd_2 n (x1 + 1) w3
    else
      some w
def p_X4_oldestToEnd (w : Wd) : Option (Wd) :=
  p_X4_oldestToEnd_2 FU 1 w
def p_X5_copy_16 (o0 : Nat) (o1 : Nat) : Nat → Int → Int → Wd → Option (Wd)
  | 0, _, _, _ => none
  | n + 1, x2, x3, w =>
    if lt32 x3 x2 then
      if inb x3 (ln (o1 + 1)) = false then none else
      if inb x3 (ln (o0 + 1)) = false then none else
      p_X5_copy_16 o0 o1 n x2 (x3 + 1) (sA w (o0 + 1) x3 (gA w (o1 + 1) x3))
    else
      some w
def p_X5_copy (o0 : Nat) (o1 : Nat) (w : Wd) : Option (Wd) :=
  p_X5_copy_16 o0 o1 FU (mn32 ((ln (o0 + 1) : Nat) : Int) ((ln (o1 + 1) : Nat) : Int)) 0 w
def p_X1_copy (o0 : Nat) (o1 : Nat) (w : Wd) : Option (Wd) :=
  (some (sF (sF w o0 0 (gF w o1 0)) o0 1 (gF (sF w o0 0 (gF w o1 0)) o1 1))).bind fun w1 =>
  (some (sF (sF w1 o0 2 (gF w1 o1 2)) o0 3 (gF (sF w1 o0 2 (gF w1 o1 2)) o1 3))).bind fun w2 =>
  some (sF w2 o0 4 (gF w2 o1 4))
def p_X6_copy (o0 : Nat) (o1 : Nat) (w : Wd) : Option (Wd) :=
  (some (sF (sF w o0 0 (gF w o1 0)) o0 1 (gF (sF w o0 0 (gF w o1 0)) o1 1))).bind fun w1 =>
  (p_X5_copy (o0 + 1) (o1 + 1) (sF w1 o0 2 (gF w1 o1 2))).bind fun w2 =>
  (p_X5_copy (o0 + 3) (o1 + 3) (sF w2 o0 4 (gF w2 o1 4))).bind fun w3 =>
  (p_X5_copy (o0 + 5) (o1 + 5) w3).bind fun w4 =>
  (p_X5_copy (o0 + 7) (o1 + 7) (sF w4 o0 7 (gF w4 o1 7))).bind fun w5 =>
  (p_X5_copy (o0 + 9) (o1 + 9) w5).bind fun w6 =>
  (p_X1_copy (o0 + 11) (o1 + 11) w6).bind fun w7 =>
  some (sF w7 o0 11 (gF w7 o1 11))
def p_X4_remember_78 (o1 : Nat) (q2 : Nat) (na : Nat) (w : Wd) : Option (Rz) :=
  (p_X6_copy q2 o1 w).bind fun w1 =>
  some (Sum.inl 0, na, sF w1 31 1 ((gF w1 31 1) + 1))
def p_X4_remember_27 (o1 : Nat) (na : Nat) (w : Wd) : Option (Rz) :=
  if lt32 (gF w 31 1) 0 then
    some (Sum.inl 0, na, w)
  else
    if lt32 (gF w 31 1) 6 then
      if inb (gF w 31 1) 6 = false then none else
      if decide (gP w 32 (gF w 31 1) = 0) then
        if inb (gF (initS w (sl (na + 2))) 31 1) 6 = false then none else
        p_X4_remember_78 o1 (sl (na + 2)) (na + 1) (sP (initS w (sl (na + 2))) 32 (gF (initS w (sl (na + 2))) 31 1) (sl (na + 2)))
      else
        p_X4_remember_78 o1 (gP w 32 (gF w 31 1)) na w
    else
      some (Sum.inl 0, na, w)
def p_X4_remember (o1 : Nat) (na : Nat) (w : Wd) : Option (Rz) :=
  if lt32 (gF w 31 1) 6 then
    p_X4_remember_27 o1 na w
  else
    (p_X4_oldestToEnd w).bind fun w1 =>
    p_X4_remember_27 o1 na (sF w1 31 1 (6 - 1))
def p_X2_cells (x0 : Int) (x1 : Int) (w : Wd) : Option (Int × Wd) :=
  some (sl32 ((sl32 1 x1) - 1) x0, w)
def p_X2_layWord_64 (o0 : Nat) (o1 : Nat) (x2 : Int) (x3 : Int) (x5 : Int) (x6 : Int) (w : Wd) : Option (Int × Wd) :=
  (p_X5_put (o0 + 1) x2 x5 w).bind fun w1 =>
  (p_X5_put (o0 + 3) x2 x6 w1).bind fun w2 =>
  (some (sF (sF w2 o0 4 (x2 + 1)) o0 6 x5)).bind fun w3 =>
  some (1, sF w3 o0 7 ((x6 + x3) + 1))
def p_X2_layWord_115 (o0 : Nat) (o1 : Nat) (k21 : Int → Int → Int → Int → Wd → Option (Int × Wd)) (x2 : Int) (x3 : Int) (x5 : Int) (w : Wd) : Option (Int × Wd) :=
  k21 x2 x3 0 (x5 + 1) w
def p_X2_layWord_34 (o0 : Nat) (o1 : Nat) (k21 : Int → Int → Int → Int → Wd → Option (Int × Wd)) : Nat → Int → Int → Int → Int → Wd → Option (Int × Wd)
  | 0, _, _, _, _, _ => none
  | n + 1, x2, x3, x5, x6, w =>
    if lt32 (gF w o1 0) (x6 + x3) then
      p_X2_layWord_115 o0 o1 k21 x2 x3 x5 w
    else
      (p_X5_at (o1 + 1) x5 w).bind fun ⟨r2, w1⟩ =>
      (p_X2_cells x6 x3 w1).bind fun ⟨r4, w3⟩ =>
      if eq32 (an32 r2 r4) 0 then
        p_X2_layWord_64 o0 o1 x2 x3 x5 x6 w3
      else
        p_X2_layWord_34 o0 o1 k21 n x2 x3 x5 (x6 + 1) w3
def p_X2_layWord_21 (o0 : Nat) (o1 : Nat) : Nat → Int → Int → Int → Int → Wd → Option (Int × Wd)
  | 0, _, _, _, _, _ => none
  | n + 1, x2, x3, x4, x5, w =>
    if lt32 x5 (gF w o1 1) then
      p_X2_layWord_34 o0 o1 (p_X2_layWord_21 o0 o1 n) FU x2 x3 x5 x4 w
    else
      some (0, w)
def p_X2_layWord (o0 : Nat) (o1 : Nat) (x2 : Int) (w : Wd) : Option (Int × Wd) :=
  (p_X5_at (o1 + 7) x2 w).bind fun ⟨r2, w1⟩ =>
  p_X2_layWord_21 o0 o1 FU x2 r2 (gF w1 o0 7) (gF w1 o0 6) w1
def p_X2_layWords_8 (o0 : Nat) (o1 : Nat) : Nat → Int → Int → Int → Wd → Option (Wd)
  | 0, _, _, _, _ => none
  | n + 1, x2, x3, x4, w =>
    if lt32 x4 x2 then
      if eq32 x3 0 then
        some w
      else
        (p_X2_layWord o0 o1 x4 w).bind fun ⟨r2, w1⟩ =>
        p_X2_layWords_8 o0 o1 n x2 r2 (x4 + 1) w1
    else
      some w
def p_X2_layWords (o0 : Nat) (o1 : Nat) (x2 : Int) (w : Wd) : Option (Wd) :=
  p_X2_layWords_8 o0 o1 FU x2 1 (gF w o0 4) w
def p_X2_centreRow_121 (o0 : Nat) (o1 : Nat) : Nat → Int → Int → Int → Wd → Option (Wd)
  | 0, _, _, _, _ => none
  | n + 1, x3, x7, x8, w =>
    if lt32 x8 x3 then
      (p_X5_at (o0 + 3) x8 w).bind fun ⟨r2, w1⟩ =>
      (p_X5_put (o0 + 3) x8 (r2 + x7) w1).bind fun w3 =>
      p_X2_centreRow_121 o0 o1 n x3 x7 (x8 + 1) w3
    else
      some w
def p_X2_centreRow_118 (o0 : Nat) (o1 : Nat) (x2 : Int) (x3 : Int) (x7 : Int) (w : Wd) : Option (Wd) :=
  p_X2_centreRow_121 o0 o1 FU x3 x7 x2 w
def p_X2_centreRow_96 (o0 : Nat) (o1 : Nat) : Nat → Int → Int → Int → Int → Int → Wd → Option (Wd)
  | 0, _, _, _, _, _, _ => none
  | n + 1, x2, x3, x4, x6, x7, w =>
    if lt32 0 x7 then
      if eq32 (an32 x6 (sl32 x4 x7)) 0 then
        p_X2_centreRow_118 o0 o1 x2 x3 x7 w
      else
        p_X2_centreRow_96 o0 o1 n x2 x3 x4 x6 (x7 + (-1)) w
    else
      p_X2_centreRow_118 o0 o1 x2 x3 x7 w
def p_X2_centreRow_68 (o0 : Nat) (o1 : Nat) (x2 : Int) (x3 : Int) (x4 : Int) (x5 : Int) (w : Wd) : Option (Wd) :=
  (p_X5_at (o0 + 1) x2 w).bind fun ⟨r2, w1⟩ =>
  (p_X5_at (o1 + 1) r2 w1).bind fun ⟨r4, w3⟩ =>
  p_X2_centreRow_96 o0 o1 FU x2 x3 x4 r4 (dv32 ((gF w3 o1 0) - x5) 2) w3
def p_X2_centreRow_9 (o0 : Nat) (o1 : Nat) : Nat → Int → Int → Int → Int → Int → Wd → Option (Wd)
  | 0, _, _, _, _, _, _ => none
  | n + 1, x2, x3, x4, x5, x6, w =>
    if lt32 x6 x3 then
      (p_X5_at (o0 + 3) x6 w).bind fun ⟨r2, w1⟩ =>
      (p_X5_at (o1 + 7) x6 w1).bind fun ⟨r4, w3⟩ =>
      (p_X2_cells r2 r4 w3).bind fun ⟨r6, w5⟩ =>
      (p_X5_at (o0 + 3) x6 w5).bind fun ⟨r8, w7⟩ =>
      (p_X5_at (o1 + 7) x6 w7).bind fun ⟨r10, w9⟩ =>
      p_X2_centreRow_9 o0 o1 n x2 x3 (or32 x4 r6) (r8 + r10) (x6 + 1) w9
    else
      p_X2_centreRow_68 o0 o1 x2 x3 x4 x5 w
def p_X2_centreRow (o0 : Nat) (o1 : Nat) (x2 : Int) (x3 : Int) (w : Wd) : Option (Wd) :=
  p_X2_centreRow_9 o0 o1 FU x2 x3 0 0 x2 w
def p_X2_centre_54 (o0 : Nat) (o1 : Nat) (k8 : Int → Int → Int → Wd → Option (Wd)) (x3 : Int) (x4 : Int) (x5 : Int) (w : Wd) : Option (Wd) :=
  k8 x3 x4 (x5 + 1) w
def p_X2_centre_41 (o0 : Nat) (o1 : Nat) (k8 : Int → Int → Int → Wd → Option (Wd)) (x3 : Int) (x4 : Int) (x5 : Int) (w : Wd) : Option (Wd) :=
  (p_X2_centreRow o0 o1 x4 x5 w).bind fun w1 =>
  p_X2_centre_54 o0 o1 k8 x3 x5 x5 w1
def p_X2_centre_8 (o0 : Nat) (o1 : Nat) : Nat → Int → Int → Int → Wd → Option (Wd)
  | 0, _, _, _, _ => none
  | n + 1, x3, x4, x5, w =>
    if lt32 x3 x5 then
      some w
    else
      if eq32 x5 x3 then
        p_X2_centre_41 o0 o1 (p_X2_centre_8 o0 o1 n) x3 x4 x5 w
      else
        (p_X5_at (o0 + 1) x5 w).bind fun ⟨r2, w1⟩ =>
        (p_X5_at (o0 + 1) x4 w1).bind fun ⟨r4, w3⟩ =>
        if eq32 r2 r4 then
          p_X2_centre_54 o0 o1 (p_X2_centre_8 o0 o1 n) x3 x4 x5 w3
        else
          p_X2_centre_41 o0 o1 (p_X2_centre_8 o0 o1 n) x3 x4 x5 w3
def p_X2_centre (o0 : Nat) (o1 : Nat) (x2 : Int) (x3 : Int) (w : Wd) : Option (Wd) :=
  p_X2_centre_8 o0 o1 FU x3 x2 (x2 + 1) w
def p_X2_lay_83 (o0 : Nat) (o1 : Nat) (k19 : Int → Int → Wd → Option (Wd)) (x2 : Int) (x3 : Int) (w : Wd) : Option (Wd) :=
  (some (sF (sF w o0 6 ((gF w o0 6) + ((gF w o1 2) + 1))) o0 7 0)).bind fun w1 =>
  k19 x2 (x3 + 1) w1
def p_X2_lay_114 (o0 : Nat) (o1 : Nat) : Nat → Int → Wd → Option (Wd)
  | 0, _, _ => none
  | n + 1, x3, w =>
    if lt32 x3 (gF w o1 7) then
      (p_X5_put (o0 + 1) x3 (-1) w).bind fun w1 =>
      (p_X5_put (o0 + 3) x3 (-1) w1).bind fun w2 =>
      p_X2_lay_114 o0 o1 n (x3 + 1) w2
    else
      some w
def p_X2_lay_109 (o0 : Nat) (o1 : Nat) (w : Wd) : Option (Wd) :=
  p_X2_lay_114 o0 o1 FU (gF w o0 4) w
def p_X2_lay_19 (o0 : Nat) (o1 : Nat) : Nat → Int → Int → Wd → Option (Wd)
  | 0, _, _, _ => none
  | n + 1, x2, x3, w =>
    if lt32 x3 (gF w o1 4) then
      if eq32 (gF w o0 4) x2 then
        (p_X5_at (o1 + 5) x3 w).bind fun ⟨r2, w1⟩ =>
        (p_X2_layWords o0 o1 (x2 + r2) w1).bind fun w3 =>
        if eq32 (gF w3 o0 4) (x2 + r2) then
          (p_X5_at (o1 + 3) x3 w3).bind fun ⟨r5, w4⟩ =>
          if eq32 r5 0 then
            (p_X2_centre o0 o1 x2 (x2 + r2) w4).bind fun w6 =>
            p_X2_lay_83 o0 o1 (p_X2_lay_19 o0 o1 n) (x2 + r2) x3 w6
          else
            p_X2_lay_83 o0 o1 (p_X2_lay_19 o0 o1 n) (x2 + r2) x3 w4
        else
          p_X2_lay_83 o0 o1 (p_X2_lay_19 o0 o1 n) (x2 + r2) x3 w3
      else
        p_X2_lay_109 o0 o1 w
    else
      p_X2_lay_109 o0 o1 w
def p_X2_lay (o0 : Nat) (o1 : Nat) (w : Wd) : Option (Wd) :=
  (some (sF (sF w o0 4 0) o0 6 0)).bind fun w1 =>
  p_X2_lay_19 o0 o1 FU 0 0 (sF w1 o0 7 0)
def p_X6_byteOf (o0 : Nat) (x1 : Int) (x2 : Int) (w : Wd) : Option (Int × Wd) :=
  (p_X5_at (o0 + 9) ((x1 * 12) + x2) w).bind fun ⟨r2, w1⟩ =>
  some (r2, w1)
def p_X6_touched (o0 : Nat) (x1 : Int) (x2 : Int) (w : Wd) : Option (Int × Wd) :=
  (p_X5_at (o0 + 1) x2 w).bind fun ⟨r2, w1⟩ =>
  (p_X5_at (o0 + 1) (x2 - 1) w1).bind fun ⟨r4, w3⟩ =>
  (p_X5_at (o0 + 1) (x2 + 1) w3).bind fun ⟨r6, w5⟩ =>
  if eq32 (an32 (sr32 (or32 (or32 (or32 (sl32 r2 1) (sr32 r2 1)) r4) r6) x1) 1) 1 then
    some (1, w5)
  else
    some (0, w5)
def p_X6_strokesOn_46 (o0 : Nat) (x2 : Int) (x3 : Int) (s0 : Int) (w : Wd) : Option (Int × Wd) :=
  (p_X6_touched o0 x2 x3 w).bind fun ⟨r2, w1⟩ =>
  if eq32 r2 0 then
    some (s0, w1)
  else
    some (2 * s0, w1)
def p_X6_strokesOn_17 (o0 : Nat) (x1 : Int) (x2 : Int) (x3 : Int) (s0 : Int) (w : Wd) : Option (Int × Wd) :=
  if eq32 s0 0 then
    p_X6_strokesOn_46 o0 x2 x3 (1 + (rm32 (7 * (x1 - 97)) 5)) w
  else
    p_X6_strokesOn_46 o0 x2 x3 (2 + (rm32 (x1 - 48) 3)) w
def p_X6_strokesOn_16 (o0 : Nat) (x1 : Int) (x2 : Int) (x3 : Int) (w : Wd) : Option (Int × Wd) :=
  p_X6_strokesOn_17 o0 x1 x2 x3 0 w
def p_X6_strokesOn (o0 : Nat) (x1 : Int) (x2 : Int) (x3 : Int) (w : Wd) : Option (Int × Wd) :=
  if lt32 x1 48 then
    p_X6_strokesOn_16 o0 x1 x2 x3 w
  else
    if lt32 57 x1 then
      p_X6_strokesOn_16 o0 x1 x2 x3 w
    else
      p_X6_strokesOn_17 o0 x1 x2 x3 1 w
def p_X2_listLetters_119 (o0 : Nat) (o1 : Nat) (k7 : Int → Wd → Option (Wd)) (x2 : Int) (w : Wd) : Option (Wd) :=
  k7 (x2 + 1) w
def p_X2_listLetters_27 (o0 : Nat) (o1 : Nat) (k7 : Int → Wd → Option (Wd)) : Nat → Int → Int → Int → Wd → Option (Wd)
  | 0, _, _, _, _ => none
  | n + 1, x2, x3, x4, w =>
    if lt32 x4 x3 then
      (p_X5_at (o0 + 3) x2 w).bind fun ⟨r2, w1⟩ =>
      (p_X5_at (o0 + 1) x2 w1).bind fun ⟨r4, w3⟩ =>
      (p_X5_put (o0 + 5) (gF w1 o0 5) ((100 * r4) + (r2 + x4)) w3).bind fun w5 =>
      (p_X6_byteOf o1 x2 x4 w5).bind fun ⟨r7, w6⟩ =>
      (p_X5_at (o0 + 1) x2 w6).bind fun ⟨r9, w8⟩ =>
      (p_X6_strokesOn o1 r7 (r2 + x4) r9 w8).bind fun ⟨r11, w10⟩ =>
      (p_X5_put (o0 + 7) (gF w5 o0 5) r11 w10).bind fun w12 =>
      p_X2_listLetters_27 o0 o1 k7 n x2 x3 (x4 + 1) (sF w12 o0 5 ((gF w12 o0 5) + 1))
    else
      p_X2_listLetters_119 o0 o1 k7 x2 w
def p_X2_listLetters_7 (o0 : Nat) (o1 : Nat) : Nat → Int → Wd → Option (Wd)
  | 0, _, _ => none
  | n + 1, x2, w =>
    if lt32 x2 (gF w o0 4) then
      (p_X5_at (o1 + 7) x2 w).bind fun ⟨r2, w1⟩ =>
      p_X2_listLetters_27 o0 o1 (p_X2_listLetters_7 o0 o1 n) FU x2 r2 0 w1
    else
      some w
def p_X2_listLetters (o0 : Nat) (o1 : Nat) (w : Wd) : Option (Wd) :=
  p_X2_listLetters_7 o0 o1 FU 0 (sF w o0 5 0)
def p_X8_layAnew (w : Wd) : Option (Wd) :=
  (p_X2_lay 10 100 w).bind fun w1 =>
  (p_X2_listLetters 10 100 w1).bind fun w2 =>
  some w2
def p_X8_settle (na : Nat) (w : Wd) : Option (Rz) :=
  bindG (p_X4_remember 100 na w) fun _ n2 w3 =>
  (p_X6_copy 100 116 w3).bind fun w6 =>
  (p_X8_layAnew w6).bind fun w7 =>
  some (Sum.inl 0, n2, w7)
def p_X8_load (na : Nat) (w : Wd) : Option (Rz) :=
  (p_X3_read 116 w).bind fun ⟨r2, w1⟩ =>
  if eq32 r2 0 then
    some (Sum.inl (-4), na, sF w1 2 1 0)
  else
    bindG (p_X8_settle na (sF w1 2 1 0)) fun _ n4 w5 =>
    some (Sum.inl (gF w5 10 4), n4, w5)
def p_X8_errorCode (w : Wd) : Option (Int × Wd) :=
  some (gF w 9 1, w)
def p_X8_errorPosition (w : Wd) : Option (Int × Wd) :=
  some (gF w 9 2, w)
def p_J6_bitCount_0f7a4 (x0 : Int) (w : Wd) : Option (Int × Wd) :=
  (some ((an32 (x0 - (an32 (us32 x0 1) 1431655765)) 858993459) + (an32 (us32 (x0 - (an32 (us32 x0 1) 1431655765)) 2) 858993459))).bind fun v1 =>
  (some (((an32 (v1 + (us32 v1 4)) 252645135) + (us32 (an32 (v1 + (us32 v1 4)) 252645135) 8)) + (us32 ((an32 (v1 + (us32 v1 4)) 252645135) + (us32 (an32 (v1 + (us32 v1 4)) 252645135) 8)) 16))).bind fun v2 =>
  some (an32 v2 63, w)
def p_X6_flawCount_4 (o0 : Nat) : Nat → Int → Int → Wd → Option (Int × Wd)
  | 0, _, _, _ => none
  | n + 1, x1, x2, w =>
    if lt32 x2 (gF w o0 1) then
      (p_X5_at (o0 + 1) x2 w).bind fun ⟨r2, w1⟩ =>
      (p_J6_bitCount_0f7a4 r2 w1).bind fun ⟨r4, w3⟩ =>
      p_X6_flawCount_4 o0 n (x1 + r4) (x2 + 1) w3
    else
      some (x1, w)
def p_X6_flawCount (o0 : Nat) (w : Wd) : Option (Int × Wd) :=
  p_X6_flawCount_4 o0 FU 0 0 w
def p_X8_property (x1 : Int) (na : Nat) (w : Wd) : Option (Rz) :=
  if lt32 x1 0 then
    some (Sum.inr 2, na, w)
  else if lt32 13 x1 then
    some (Sum.inr 2, na, w)
  else
  if lt32 x1 7 then
    if lt32 x1 3 then
      if lt32 x1 1 then
        some (Sum.inl (gF w 100 0), na, w)
      else
        if lt32 x1 2 then
          some (Sum.inl (gF w 100 1), na, w)
        else
          (p_X6_flawCount 100 w).bind fun ⟨r14, w13⟩ =>
          some (Sum.inl (r14), na, w13)
    else
      if lt32 x1 5 then
        if lt32 x1 4 then
          some (Sum.inl (gF w 100 2), na, w)
        else
          some (Sum.inl (gF w 100 4), na, w)
      else
        if lt32 x1 6 then
          some (Sum.inl (gF w 100 7), na, w)
        else
          some (Sum.inl (gF w 10 4), na, w)
  else
    if lt32 x1 10 then
      if lt32 x1 8 then
        some (Sum.inl (gF w 10 5), na, w)
      else
        if lt32 x1 9 then
          some (Sum.inl (gF w 100 11), na, w)
        else
          some (Sum.inl (gF w 111 2), na, w)
    else
      if lt32 x1 12 then
        if lt32 x1 11 then
          some (Sum.inl (gF w 111 0), na, w)
        else
          some (Sum.inl (gF w 111 1), na, w)
      else
        if lt32 x1 13 then
          some (Sum.inl (gF w 111 3), na, w)
        else
          some (Sum.inl (gF w 111 4), na, w)
def p_X8_needPart_15 (na : Nat) (w : Wd) : Option (Rz) :=
  some (Sum.inr 3, na, w)
def p_X8_needPart (x1 : Int) (na : Nat) (w : Wd) : Option (Rz) :=
  if lt32 x1 0 then
    p_X8_needPart_15 na w
  else
    if lt32 x1 (gF w 100 4) then
      some (Sum.inl 0, na, w)
    else
      p_X8_needPart_15 na w
def p_X6_firstOf_4 (o0 : Nat) : Nat → Int → Int → Int → Wd → Option (Int × Wd)
  | 0, _, _, _, _ => none
  | n + 1, x1, x2, x3, w =>
    if lt32 x3 x1 then
      (p_X5_at (o0 + 5) x3 w).bind fun ⟨r2, w1⟩ =>
      p_X6_firstOf_4 o0 n x1 (x2 + r2) (x3 + 1) w1
    else
      some (x2, w)
def p_X6_firstOf (o0 : Nat) (x1 : Int) (w : Wd) : Option (Int × Wd) :=
  p_X6_firstOf_4 o0 FU x1 0 0 w
def p_X8_part (x1 : Int) (x2 : Int) (na : Nat) (w : Wd) : Option (Rz) :=
  bindG (p_X8_needPart x1 na w) fun _ n2 w3 =>
  (p_X6_firstOf 100 x1 w3).bind fun ⟨r7, w6⟩ =>
  (p_X5_at 105 x1 w6).bind fun ⟨r9, w8⟩ =>
  if lt32 x2 0 then
    some (Sum.inr 2, n2, w8)
  else if lt32 5 x2 then
    some (Sum.inr 2, n2, w8)
  else
  if lt32 x2 3 then
    if lt32 x2 1 then
      (p_X5_at 103 x1 w8).bind fun ⟨r19, w18⟩ =>
      some (Sum.inl (r19), n2, w18)
    else
      if lt32 x2 2 then
        some (Sum.inl (r7), n2, w8)
      else
        some (Sum.inl (r9), n2, w8)
  else
    if lt32 x2 4 then
      some (Sum.inl (mx32 0 (mn32 ((gF w8 10 4) - r7) r9)), n2, w8)
    else
      if lt32 x2 5 then
        (p_X5_at 11 r7 w8).bind fun ⟨r27, w26⟩ =>
        some (Sum.inl (r27), n2, w26)
      else
        if eq32 (mx32 0 (mn32 ((gF w8 10 4) - r7) r9)) 0 then
          some (Sum.inl (-1), n2, w8)
        else
          (p_X5_at 11 ((r7 + (mx32 0 (mn32 ((gF w8 10 4) - r7) r9))) - 1) w8).bind fun ⟨r29, w28⟩ =>
          some (Sum.inl (r29), n2, w28)
def p_X8_needWord_15 (na : Nat) (w : Wd) : Option (Rz) :=
  some (Sum.inr 3, na, w)
def p_X8_needWord (x1 : Int) (na : Nat) (w : Wd) : Option (Rz) :=
  if lt32 x1 0 then
    p_X8_needWord_15 na w
  else
    if lt32 x1 (gF w 100 7) then
      some (Sum.inl 0, na, w)
    else
      p_X8_needWord_15 na w
def p_X6_partOf_11 (o0 : Nat) : Nat → Int → Int → Int → Wd → Option (Int × Wd)
  | 0, _, _, _, _ => none
  | n + 1, x1, x2, x3, w =>
    if lt32 x2 ((gF w o0 4) - 1) then
      if lt32 x1 x3 then
        some (x2, w)
      else
        (p_X5_at (o0 + 5) (x2 + 1) w).bind fun ⟨r2, w1⟩ =>
        p_X6_partOf_11 o0 n x1 (x2 + 1) (x3 + r2) w1
    else
      some (x2, w)
def p_X6_partOf (o0 : Nat) (x1 : Int) (w : Wd) : Option (Int × Wd) :=
  (p_X5_at (o0 + 5) 0 w).bind fun ⟨r2, w1⟩ =>
  p_X6_partOf_11 o0 FU x1 0 r2 w1
def p_X6_lettersAhead_4 (o0 : Nat) : Nat → Int → Int → Int → Wd → Option (Int × Wd)
  | 0, _, _, _, _ => none
  | n + 1, x1, x2, x3, w =>
    if lt32 x3 x1 then
      (p_X5_at (o0 + 7) x3 w).bind fun ⟨r2, w1⟩ =>
      p_X6_lettersAhead_4 o0 n x1 (x2 + r2) (x3 + 1) w1
    else
      some (x2, w)
def p_X6_lettersAhead (o0 : Nat) (x1 : Int) (w : Wd) : Option (Int × Wd) :=
  p_X6_lettersAhead_4 o0 FU x1 0 0 w
def p_X2_costsOf_5 (o0 : Nat) : Nat → Int → Int → Int → Wd → Option (Int × Wd)
  | 0, _, _, _, _ => none
  | n + 1, x2, x3, x4, w =>
    if lt32 x4 x2 then
      (p_X5_at (o0 + 7) x4 w).bind fun ⟨r2, w1⟩ =>
      p_X2_costsOf_5 o0 n x2 (x3 + r2) (x4 + 1) w1
    else
      some (x3, w)
def p_X2_costsOf (o0 : Nat) (x1 : Int) (x2 : Int) (w : Wd) : Option (Int × Wd) :=
  p_X2_costsOf_5 o0 FU x2 0 x1 w
def p_X8_strokesOfWord (x1 : Int) (w : Wd) : Option (Int × Wd) :=
  if lt32 x1 (gF w 10 4) then
    (p_X6_lettersAhead 100 x1 w).bind fun ⟨r2, w1⟩ =>
    (p_X5_at 107 x1 w1).bind fun ⟨r4, w3⟩ =>
    (p_X2_costsOf 10 r2 (r2 + r4) w3).bind fun ⟨r6, w5⟩ =>
    some (r6, w5)
  else
    some (0, w)
def p_X8_carvedOfWord (x1 : Int) (w : Wd) : Option (Int × Wd) :=
  (p_X6_lettersAhead 100 x1 w).bind fun ⟨r2, w1⟩ =>
  (p_X5_at 107 x1 w1).bind fun ⟨r4, w3⟩ =>
  some (mx32 0 (mn32 ((gF w 100 11) - r2) r4), w3)
def p_X8_word (x1 : Int) (x2 : Int) (na : Nat) (w : Wd) : Option (Rz) :=
  bindG (p_X8_needWord x1 na w) fun _ n2 w3 =>
  if lt32 x2 0 then
    some (Sum.inr 2, n2, w3)
  else if lt32 5 x2 then
    some (Sum.inr 2, n2, w3)
  else
  if lt32 x2 3 then
    if lt32 x2 1 then
      (p_X6_partOf 100 x1 w3).bind fun ⟨r15, w14⟩ =>
      some (Sum.inl (r15), n2, w14)
    else
      if lt32 x2 2 then
        (p_X5_at 107 x1 w3).bind fun ⟨r19, w18⟩ =>
        some (Sum.inl (r19), n2, w18)
      else
        (p_X5_at 11 x1 w3).bind fun ⟨r21, w20⟩ =>
        some (Sum.inl (r21), n2, w20)
  else
    if lt32 x2 4 then
      (p_X5_at 13 x1 w3).bind fun ⟨r25, w24⟩ =>
      some (Sum.inl (r25), n2, w24)
    else
      if lt32 x2 5 then
        (p_X8_strokesOfWord x1 w3).bind fun ⟨r29, w28⟩ =>
        some (Sum.inl (r29), n2, w28)
      else
        (p_X8_carvedOfWord x1 w3).bind fun ⟨r31, w30⟩ =>
        some (Sum.inl (r31), n2, w30)
def p_X8_letter_24 (na : Nat) (w : Wd) : Option (Rz) :=
  some (Sum.inr 3, na, w)
def p_X8_letter (x1 : Int) (x2 : Int) (na : Nat) (w : Wd) : Option (Rz) :=
  bindG (p_X8_needWord x1 na w) fun _ n2 w3 =>
  if lt32 x2 0 then
    p_X8_letter_24 n2 w3
  else
    (p_X5_at 107 x1 w3).bind fun ⟨r7, w6⟩ =>
    if lt32 x2 r7 then
      (p_X6_byteOf 100 x1 x2 w6).bind fun ⟨r9, w8⟩ =>
      some (Sum.inl (r9), n2, w8)
    else
      p_X8_letter_24 n2 w6
def p_X8_needRow_15 (na : Nat) (w : Wd) : Option (Rz) :=
  some (Sum.inr 3, na, w)
def p_X8_needRow (x1 : Int) (na : Nat) (w : Wd) : Option (Rz) :=
  if lt32 x1 0 then
    p_X8_needRow_15 na w
  else
    if lt32 x1 (gF w 100 1) then
      some (Sum.inl 0, na, w)
    else
      p_X8_needRow_15 na w
def p_X8_needCell_20 (na : Nat) (w : Wd) : Option (Rz) :=
  some (Sum.inr 3, na, w)
def p_X8_needCell (x1 : Int) (x2 : Int) (na : Nat) (w : Wd) : Option (Rz) :=
  bindG (p_X8_needRow x2 na w) fun _ n2 w3 =>
  if lt32 x1 0 then
    p_X8_needCell_20 n2 w3
  else
    if lt32 x1 (gF w3 100 0) then
      some (Sum.inl 0, n2, w3)
    else
      p_X8_needCell_20 n2 w3
def p_X2_wordOn_73 (o0 : Nat) (o1 : Nat) (k3 : Int → Int → Int → Wd → Option (Int × Wd)) (x2 : Int) (x3 : Int) (x4 : Int) (w : Wd) : Option (Int × Wd) :=
  k3 x2 x3 (x4 + 1) w
def p_X2_wordOn_50 (o0 : Nat) (o1 : Nat) (k3 : Int → Int → Int → Wd → Option (Int × Wd)) (x2 : Int) (x3 : Int) (x4 : Int) (s0 : Int) (w : Wd) : Option (Int × Wd) :=
  if eq32 s0 0 then
    p_X2_wordOn_73 o0 o1 k3 x2 x3 x4 w
  else
    (p_X5_at (o0 + 1) x4 w).bind fun ⟨r2, w1⟩ =>
    if eq32 r2 x3 then
      some (x4, w1)
    else
      p_X2_wordOn_73 o0 o1 k3 x2 x3 x4 w1
def p_X2_wordOn_49 (o0 : Nat) (o1 : Nat) (k3 : Int → Int → Int → Wd → Option (Int × Wd)) (x2 : Int) (x3 : Int) (x4 : Int) (w : Wd) : Option (Int × Wd) :=
  p_X2_wordOn_50 o0 o1 k3 x2 x3 x4 0 w
def p_X2_wordOn_3 (o0 : Nat) (o1 : Nat) : Nat → Int → Int → Int → Wd → Option (Int × Wd)
  | 0, _, _, _, _ => none
  | n + 1, x2, x3, x4, w =>
    if lt32 x4 (gF w o0 4) then
      (p_X5_at (o0 + 3) x4 w).bind fun ⟨r2, w1⟩ =>
      if lt32 x2 r2 then
        p_X2_wordOn_49 o0 o1 (p_X2_wordOn_3 o0 o1 n) x2 x3 x4 w1
      else
        (p_X5_at (o1 + 7) x4 w1).bind fun ⟨r4, w3⟩ =>
        if lt32 x2 (r2 + r4) then
          p_X2_wordOn_50 o0 o1 (p_X2_wordOn_3 o0 o1 n) x2 x3 x4 1 w3
        else
          p_X2_wordOn_49 o0 o1 (p_X2_wordOn_3 o0 o1 n) x2 x3 x4 w3
    else
      some (-1, w)
def p_X2_wordOn (o0 : Nat) (o1 : Nat) (x2 : Int) (x3 : Int) (w : Wd) : Option (Int × Wd) :=
  p_X2_wordOn_3 o0 o1 FU x2 x3 0 w
def p_X8_cell (x1 : Int) (x2 : Int) (na : Nat) (w : Wd) : Option (Rz) :=
  bindG (p_X8_needCell x1 x2 na w) fun _ n2 w3 =>
  (p_X6_flawed 100 x1 x2 w3).bind fun ⟨r7, w6⟩ =>
  if eq32 r7 0 then
    (p_X2_wordOn 10 100 x1 x2 w6).bind fun ⟨r9, w8⟩ =>
    if eq32 r9 (-1) then
      some (Sum.inl (0), n2, w8)
    else
      (p_X5_at 13 r9 w8).bind fun ⟨r11, w10⟩ =>
      (p_X6_byteOf 100 r9 (x1 - r11) w10).bind fun ⟨r13, w12⟩ =>
      some (Sum.inl (r13), n2, w12)
  else
    some (Sum.inl (-1), n2, w6)
def p_X8_wordAt (x1 : Int) (x2 : Int) (na : Nat) (w : Wd) : Option (Rz) :=
  bindG (p_X8_needCell x1 x2 na w) fun _ n2 w3 =>
  (p_X2_wordOn 10 100 x1 x2 w3).bind fun ⟨r7, w6⟩ =>
  some (Sum.inl (r7), n2, w6)
def p_X8_freeIn_52 (k9 : Int → Int → Int → Nat → Wd → Option (Rz)) (x1 : Int) (x2 : Int) (x3 : Int) (na : Nat) (w : Wd) : Option (Rz) :=
  k9 x1 x2 (x3 + 1) na w
def p_X8_freeIn_9 : Nat → Int → Int → Int → Nat → Wd → Option (Rz)
  | 0, _, _, _, _, _ => none
  | n + 1, x1, x2, x3, na, w =>
    if lt32 x3 (gF w 100 0) then
      (p_X6_flawed 100 x3 x1 w).bind fun ⟨r2, w1⟩ =>
      if eq32 r2 0 then
        (p_X2_wordOn 10 100 x3 x1 w1).bind fun ⟨r4, w3⟩ =>
        if eq32 r4 (-1) then
          p_X8_freeIn_52 (p_X8_freeIn_9 n) x1 (x2 + 1) x3 na w3
        else
          p_X8_freeIn_52 (p_X8_freeIn_9 n) x1 x2 x3 na w3
      else
        p_X8_freeIn_52 (p_X8_freeIn_9 n) x1 x2 x3 na w1
    else
      some (Sum.inl (x2), na, w)
def p_X8_freeIn (x1 : Int) (na : Nat) (w : Wd) : Option (Rz) :=
  bindG (p_X8_needRow x1 na w) fun _ n2 w3 =>
  p_X8_freeIn_9 FU x1 0 0 n2 w3
def p_X8_longestRun_44 (k12 : Int → Int → Int → Int → Nat → Wd → Option (Rz)) (x1 : Int) (x2 : Int) (x4 : Int) (s0 : Int) (na : Nat) (w : Wd) : Option (Rz) :=
  k12 x1 (mx32 x2 s0) s0 (x4 + 1) na w
def p_X8_longestRun_12 : Nat → Int → Int → Int → Int → Nat → Wd → Option (Rz)
  | 0, _, _, _, _, _, _ => none
  | n + 1, x1, x2, x3, x4, na, w =>
    if lt32 x4 (gF w 100 0) then
      (p_X6_flawed 100 x4 x1 w).bind fun ⟨r2, w1⟩ =>
      if eq32 r2 0 then
        p_X8_longestRun_44 (p_X8_longestRun_12 n) x1 x2 x4 (x3 + 1) na w1
      else
        p_X8_longestRun_44 (p_X8_longestRun_12 n) x1 x2 x4 0 na w1
    else
      some (Sum.inl (x2), na, w)
def p_X8_longestRun (x1 : Int) (na : Nat) (w : Wd) : Option (Rz) :=
  bindG (p_X8_needRow x1 na w) fun _ n2 w3 =>
  p_X8_longestRun_12 FU x1 0 0 0 n2 w3
def p_X8_rowsUsed_42 (k6 : Int → Int → Int → Wd → Option (Int × Wd)) (x1 : Int) (x2 : Int) (x3 : Int) (w : Wd) : Option (Int × Wd) :=
  k6 x1 x2 (x3 + 1) w
def p_X8_rowsUsed_6 : Nat → Int → Int → Int → Wd → Option (Int × Wd)
  | 0, _, _, _, _ => none
  | n + 1, x1, x2, x3, w =>
    if lt32 x3 (gF w 10 4) then
      (p_X5_at 11 x3 w).bind fun ⟨r2, w1⟩ =>
      if eq32 r2 x2 then
        p_X8_rowsUsed_42 (p_X8_rowsUsed_6 n) x1 x2 x3 w1
      else
        p_X8_rowsUsed_42 (p_X8_rowsUsed_6 n) (x1 + 1) r2 x3 w1
    else
      some (x1, w)
def p_X8_rowsUsed (w : Wd) : Option (Int × Wd) :=
  p_X8_rowsUsed_6 FU 0 (-1) 0 w
def p_X8_firstMissing (w : Wd) : Option (Int × Wd) :=
  if lt32 (gF w 10 4) (gF w 100 7) then
    some (gF w 10 4, w)
  else
    some (-1, w)
def p_X8_strokesLeft (w : Wd) : Option (Int × Wd) :=
  (p_X2_costsOf 10 (gF w 100 11) (gF w 10 5) w).bind fun ⟨r2, w1⟩ =>
  some (r2, w1)
def p_X1_hone (o0 : Nat) (w : Wd) : Option (Wd) :=
  (some (sF (sF w o0 2 (gF w o0 0)) o0 3 ((gF (sF w o0 2 (gF w o0 0)) o0 3) + (gF (sF w o0 2 (gF w o0 0)) o0 1)))).bind fun w1 =>
  some (sF w1 o0 4 ((gF w1 o0 4) + 1))
def p_X1_cut_23 (o0 : Nat) (x1 : Int) (w : Wd) : Option (Wd) :=
  (some (sF (sF w o0 3 ((gF w o0 3) + x1)) o0 2 (mx32 0 ((gF (sF w o0 3 ((gF w o0 3) + x1)) o0 2) - x1)))).bind fun w1 =>
  some w1
def p_X1_cut (o0 : Nat) (x1 : Int) (w : Wd) : Option (Wd) :=
  if lt32 (gF w o0 2) x1 then
    if lt32 (gF w o0 2) (gF w o0 0) then
      (p_X1_hone o0 w).bind fun w1 =>
      p_X1_cut_23 o0 x1 w1
    else
      p_X1_cut_23 o0 x1 w
  else
    p_X1_cut_23 o0 x1 w
def p_X8_tryLetters_2 : Nat → Int → Int → Wd → Option (Wd)
  | 0, _, _, _ => none
  | n + 1, x2, x3, w =>
    if lt32 x3 x2 then
      (p_X5_at 17 x3 w).bind fun ⟨r2, w1⟩ =>
      (p_X1_cut 30 r2 w1).bind fun w3 =>
      p_X8_tryLetters_2 n x2 (x3 + 1) w3
    else
      some w
def p_X8_tryLetters (x1 : Int) (x2 : Int) (w : Wd) : Option (Wd) :=
  p_X8_tryLetters_2 FU x2 x1 w
def p_X8_timeFor (x1 : Int) (na : Nat) (w : Wd) : Option (Rz) :=
  if lt32 x1 0 then
    some (Sum.inr 2, na, w)
  else
    (p_X1_copy 30 111 w).bind fun w1 =>
    (p_X8_tryLetters (gF w1 100 11) ((gF w1 100 11) + (mn32 x1 ((gF w 10 5) - (gF w 100 11)))) w1).bind fun w2 =>
    some (Sum.inl ((gF w2 30 3) - (gF w2 111 3)), na, w2)
def p_X8_lettersIn_44 : Nat → Int → Int → Int → Nat → Wd → Option (Rz)
  | 0, _, _, _, _, _ => none
  | n + 1, x1, x2, x3, na, w =>
    if lt32 x3 (gF w 10 5) then
      (p_X5_at 17 x3 w).bind fun ⟨r2, w1⟩ =>
      (p_X1_cut 30 r2 w1).bind fun w3 =>
      if lt32 x1 (gF w3 30 3) then
        some (Sum.inl (x2), na, w3)
      else
        p_X8_lettersIn_44 n x1 (x2 + 1) (x3 + 1) na w3
    else
      some (Sum.inl (x2), na, w)
def p_X8_lettersIn (x1 : Int) (na : Nat) (w : Wd) : Option (Rz) :=
  if lt32 x1 0 then
    some (Sum.inr 2, na, w)
  else
    (p_X1_copy 30 111 w).bind fun w1 =>
    p_X8_lettersIn_44 FU x1 0 (gF (sF w1 30 3 0) 100 11) na (sF w1 30 3 0)
def p_X8_sharpenings (w : Wd) : Option (Int × Wd) :=
  (p_X1_copy 30 111 w).bind fun w1 =>
  (p_X8_tryLetters (gF w1 100 11) (gF w1 10 5) w1).bind fun w2 =>
  some ((gF w2 30 4) - (gF w2 111 4), w2)
def p_X8_timeWith_12 (na : Nat) (w : Wd) : Option (Rz) :=
  some (Sum.inr 2, na, w)
def p_X8_timeWith (x1 : Int) (na : Nat) (w : Wd) : Option (Rz) :=
  if lt32 x1 1 then
    p_X8_timeWith_12 na w
  else
    if lt32 999 x1 then
      p_X8_timeWith_12 na w
    else
      (p_X1_renew 30 x1 (gF w 111 1) w).bind fun w1 =>
      (p_X8_tryLetters 0 (gF (sF w1 30 3 0) 10 5) (sF w1 30 3 0)).bind fun w2 =>
      some (Sum.inl (gF w2 30 3), na, w2)
def p_X8_nextCell (w : Wd) : Option (Int × Wd) :=
  if lt32 (gF w 100 11) (gF w 10 5) then
    (p_X5_at 15 (gF w 100 11) w).bind fun ⟨r2, w1⟩ =>
    some (r2, w1)
  else
    some (-1, w)
def p_X8_laidOnTrial (w : Wd) : Option (Int × Wd) :=
  (p_X2_lay 20 116 w).bind fun w1 =>
  some (gF w1 20 4, w1)
def p_X8_laidIf_40 (s0 : Int) (s1 : Int) (s2 : Int) (na : Nat) (w : Wd) : Option (Rz) :=
  (p_X6_mark 116 s2 s1 s0 w).bind fun w1 =>
  (p_X8_laidOnTrial w1).bind fun ⟨r3, w2⟩ =>
  some (Sum.inl (r3), na, w2)
def p_X8_laidIf (x1 : Int) (x2 : Int) (na : Nat) (w : Wd) : Option (Rz) :=
  bindG (p_X8_needCell x1 x2 na w) fun _ n2 w3 =>
  (p_X6_copy 116 100 w3).bind fun w6 =>
  (p_X6_flawed 100 x1 x2 w6).bind fun ⟨r8, w7⟩ =>
  if eq32 r8 0 then
    p_X8_laidIf_40 1 x2 x1 n2 w7
  else
    p_X8_laidIf_40 0 x2 x1 n2 w7
def p_X8_worstFlaw_109 (k17 : Int → Int → Int → Wd → Option (Int × Wd)) (k31 : Int → Int → Int → Int → Wd → Option (Int × Wd)) (x1 : Int) (x2 : Int) (x3 : Int) (x4 : Int) (w : Wd) : Option (Int × Wd) :=
  k31 x1 x2 x3 (x4 + 1) w
def p_X8_worstFlaw_101 (k17 : Int → Int → Int → Wd → Option (Int × Wd)) (k31 : Int → Int → Int → Int → Wd → Option (Int × Wd)) (x2 : Int) (x3 : Int) (x4 : Int) (x5 : Int) (s0 : Int) (w : Wd) : Option (Int × Wd) :=
  p_X8_worstFlaw_109 k17 k31 s0 (mx32 x2 x5) x3 x4 w
def p_X8_worstFlaw_115 (k17 : Int → Int → Int → Wd → Option (Int × Wd)) (x1 : Int) (x2 : Int) (x3 : Int) (w : Wd) : Option (Int × Wd) :=
  k17 x1 x2 (x3 + 1) w
def p_X8_worstFlaw_31 (k17 : Int → Int → Int → Wd → Option (Int × Wd)) : Nat → Int → Int → Int → Int → Wd → Option (Int × Wd)
  | 0, _, _, _, _, _ => none
  | n + 1, x1, x2, x3, x4, w =>
    if lt32 x4 (gF w 100 0) then
      (p_X6_flawed 100 x4 x3 w).bind fun ⟨r2, w1⟩ =>
      if eq32 r2 0 then
        p_X8_worstFlaw_109 k17 (p_X8_worstFlaw_31 k17 n) x1 x2 x3 x4 w1
      else
        (p_X6_mark 116 x4 x3 0 w1).bind fun w3 =>
        (p_X8_laidOnTrial w3).bind fun ⟨r5, w4⟩ =>
        (p_X6_mark 116 x4 x3 1 w4).bind fun w6 =>
        if lt32 x2 r5 then
          p_X8_worstFlaw_101 k17 (p_X8_worstFlaw_31 k17 n) x2 x3 x4 r5 ((100 * x3) + x4) w6
        else
          p_X8_worstFlaw_101 k17 (p_X8_worstFlaw_31 k17 n) x2 x3 x4 r5 x1 w6
    else
      p_X8_worstFlaw_115 k17 x1 x2 x3 w
def p_X8_worstFlaw_17 : Nat → Int → Int → Int → Wd → Option (Int × Wd)
  | 0, _, _, _, _ => none
  | n + 1, x1, x2, x3, w =>
    if lt32 x3 (gF w 100 1) then
      p_X8_worstFlaw_31 (p_X8_worstFlaw_17 n) FU x1 x2 x3 0 w
    else
      some (x1, w)
def p_X8_worstFlaw (w : Wd) : Option (Int × Wd) :=
  (p_X6_copy 116 100 w).bind fun w1 =>
  p_X8_worstFlaw_17 FU (-1) (-1) 0 w1
def p_X8_laidWithout (w : Wd) : Option (Int × Wd) :=
  (p_X6_copy 116 100 w).bind fun w1 =>
  (p_X5_clear 117 w1).bind fun w2 =>
  (p_X8_laidOnTrial w2).bind fun ⟨r4, w3⟩ =>
  some (r4, w3)
def p_X8_needGap_9 (na : Nat) (w : Wd) : Option (Rz) :=
  some (Sum.inr 2, na, w)
def p_X8_needGap (x1 : Int) (na : Nat) (w : Wd) : Option (Rz) :=
  if lt32 x1 0 then
    p_X8_needGap_9 na w
  else
    if lt32 3 x1 then
      p_X8_needGap_9 na w
    else
      some (Sum.inl 0, na, w)
def p_X8_laidWith (x1 : Int) (na : Nat) (w : Wd) : Option (Rz) :=
  bindG (p_X8_needGap x1 na w) fun _ n2 w3 =>
  (p_X6_copy 116 100 w3).bind fun w6 =>
  (p_X8_laidOnTrial (sF w6 116 2 x1)).bind fun ⟨r8, w7⟩ =>
  some (Sum.inl (r8), n2, w7)
def p_X6_turnFlaws_59 (o0 : Nat) (o1 : Nat) (k9 : Int → Wd → Option (Wd)) (x2 : Int) (w : Wd) : Option (Wd) :=
  k9 (x2 + 1) w
def p_X6_turnFlaws_19 (o0 : Nat) (o1 : Nat) (k9 : Int → Wd → Option (Wd)) : Nat → Int → Int → Wd → Option (Wd)
  | 0, _, _, _ => none
  | n + 1, x2, x3, w =>
    if lt32 x3 (gF w o0 0) then
      (p_X6_flawed o1 x3 x2 w).bind fun ⟨r2, w1⟩ =>
      (p_X6_mark o0 (((gF w o0 0) - 1) - x3) (((gF w o0 1) - 1) - x2) r2 w1).bind fun w3 =>
      p_X6_turnFlaws_19 o0 o1 k9 n x2 (x3 + 1) w3
    else
      p_X6_turnFlaws_59 o0 o1 k9 x2 w
def p_X6_turnFlaws_9 (o0 : Nat) (o1 : Nat) : Nat → Int → Wd → Option (Wd)
  | 0, _, _ => none
  | n + 1, x2, w =>
    if lt32 x2 (gF w o0 1) then
      p_X6_turnFlaws_19 o0 o1 (p_X6_turnFlaws_9 o0 o1 n) FU x2 0 w
    else
      some w
def p_X6_turnFlaws (o0 : Nat) (o1 : Nat) (w : Wd) : Option (Wd) :=
  (p_X5_clear (o0 + 1) w).bind fun w1 =>
  p_X6_turnFlaws_9 o0 o1 FU 0 w1
def p_X8_laidTurned (w : Wd) : Option (Int × Wd) :=
  (p_X6_copy 116 100 w).bind fun w1 =>
  (p_X6_turnFlaws 116 100 w1).bind fun w2 =>
  (p_X8_laidOnTrial w2).bind fun ⟨r4, w3⟩ =>
  some (r4, w3)
def p_X8_leastRows (w : Wd) : Option (Int × Wd) :=
  if lt32 (gF w 10 4) (gF w 100 7) then
    some (-1, w)
  else
    if eq32 (gF w 100 7) 0 then
      some (1, w)
    else
      (p_X5_at 11 ((gF w 100 7) - 1) w).bind fun ⟨r2, w1⟩ =>
      some (r2 + 1, w1)
def p_X6_takePart_33 (o0 : Nat) (o1 : Nat) : Nat → Int → Int → Wd → Option (Wd)
  | 0, _, _, _ => none
  | n + 1, x4, x5, w =>
    if lt32 x5 x4 then
      (p_X5_at (o1 + 7) x5 w).bind fun ⟨r2, w1⟩ =>
      (p_X6_takeWord o0 (o1 + 9) (x5 * 12) r2 w1).bind fun w3 =>
      p_X6_takePart_33 o0 o1 n x4 (x5 + 1) w3
    else
      some w
def p_X6_takePart (o0 : Nat) (o1 : Nat) (x2 : Int) (w : Wd) : Option (Wd) :=
  (p_X6_firstOf o1 x2 w).bind fun ⟨r2, w1⟩ =>
  (p_X5_at (o1 + 5) x2 w1).bind fun ⟨r4, w3⟩ =>
  (p_X5_at (o1 + 3) x2 w3).bind fun ⟨r6, w5⟩ =>
  (p_X6_openPart o0 r6 w5).bind fun w7 =>
  p_X6_takePart_33 o0 o1 FU (r2 + r4) r2 w7
def p_X8_tryWithout_48 (k20 : Int → Int → Wd → Option (Wd)) (x1 : Int) (x2 : Int) (w : Wd) : Option (Wd) :=
  k20 x1 (x2 + 1) w
def p_X8_tryWithout_20 : Nat → Int → Int → Wd → Option (Wd)
  | 0, _, _, _ => none
  | n + 1, x1, x2, w =>
    if lt32 x2 (gF w 100 4) then
      if eq32 x2 x1 then
        p_X8_tryWithout_48 (p_X8_tryWithout_20 n) x1 x2 w
      else
        (p_X6_takePart 116 100 x2 w).bind fun w1 =>
        p_X8_tryWithout_48 (p_X8_tryWithout_20 n) x1 x2 w1
    else
      some w
def p_X8_tryWithout (x1 : Int) (w : Wd) : Option (Wd) :=
  (p_X6_copy 116 100 w).bind fun w1 =>
  (p_X6_clearParts 116 w1).bind fun w2 =>
  p_X8_tryWithout_20 FU x1 0 w2
def p_X8_laidBut (x1 : Int) (na : Nat) (w : Wd) : Option (Rz) :=
  bindG (p_X8_needPart x1 na w) fun _ n2 w3 =>
  (p_X8_tryWithout x1 w3).bind fun w6 =>
  (p_X8_laidOnTrial w6).bind fun ⟨r8, w7⟩ =>
  some (Sum.inl (r8), n2, w7)
def p_X8_partForPlace_19 (x1 : Int) (s0 : Int) (w : Wd) : Option (Int × Wd) :=
  if lt32 s0 x1 then
    some (s0, w)
  else
    some (s0 + 1, w)
def p_X8_partForPlace (x0 : Int) (x1 : Int) (x2 : Int) (w : Wd) : Option (Int × Wd) :=
  if eq32 x0 x2 then
    some (x1, w)
  else
    if lt32 x0 x2 then
      p_X8_partForPlace_19 x1 x0 w
    else
      p_X8_partForPlace_19 x1 (x0 - 1) w
def p_X8_tryMoved_20 : Nat → Int → Int → Int → Wd → Option (Wd)
  | 0, _, _, _, _ => none
  | n + 1, x1, x2, x3, w =>
    if lt32 x3 (gF w 100 4) then
      (p_X8_partForPlace x3 x1 x2 w).bind fun ⟨r2, w1⟩ =>
      (p_X6_takePart 116 100 r2 w1).bind fun w3 =>
      p_X8_tryMoved_20 n x1 x2 (x3 + 1) w3
    else
      some w
def p_X8_tryMoved (x1 : Int) (x2 : Int) (w : Wd) : Option (Wd) :=
  (p_X6_copy 116 100 w).bind fun w1 =>
  (p_X6_clearParts 116 w1).bind fun w2 =>
  p_X8_tryMoved_20 FU x1 x2 0 w2
def p_X8_bestPlace_49 (k12 : Int → Int → Int → Int → Nat → Wd → Option (Rz)) (x1 : Int) (x2 : Int) (x3 : Int) (x4 : Int) (na : Nat) (w : Wd) : Option (Rz) :=
  k12 x1 x2 x3 (x4 + 1) na w
def p_X8_bestPlace_12 : Nat → Int → Int → Int → Int → Nat → Wd → Option (Rz)
  | 0, _, _, _, _, _, _ => none
  | n + 1, x1, x2, x3, x4, na, w =>
    if lt32 x4 (gF w 100 4) then
      (p_X8_tryMoved x1 x4 w).bind fun w1 =>
      (p_X8_laidOnTrial w1).bind fun ⟨r3, w2⟩ =>
      if lt32 x3 r3 then
        p_X8_bestPlace_49 (p_X8_bestPlace_12 n) x1 x4 r3 x4 na w2
      else
        p_X8_bestPlace_49 (p_X8_bestPlace_12 n) x1 x2 x3 x4 na w2
    else
      some (Sum.inl (x2), na, w)
def p_X8_bestPlace (x1 : Int) (na : Nat) (w : Wd) : Option (Rz) :=
  bindG (p_X8_needPart x1 na w) fun _ n2 w3 =>
  p_X8_bestPlace_12 FU x1 x1 (-1) 0 n2 w3
def p_X8_letterBeside_76 (w : Wd) : Option (Int × Wd) :=
  some (1, w)
def p_X8_letterBeside (x1 : Int) (x2 : Int) (w : Wd) : Option (Int × Wd) :=
  (p_X2_wordOn 10 100 (x1 - 1) x2 w).bind fun ⟨r2, w1⟩ =>
  if eq32 r2 (-1) then
    (p_X2_wordOn 10 100 (x1 + 1) x2 w1).bind fun ⟨r4, w3⟩ =>
    if eq32 r4 (-1) then
      (p_X2_wordOn 10 100 x1 (x2 - 1) w3).bind fun ⟨r6, w5⟩ =>
      if eq32 r6 (-1) then
        (p_X2_wordOn 10 100 x1 (x2 + 1) w5).bind fun ⟨r8, w7⟩ =>
        if eq32 r8 (-1) then
          some (0, w7)
        else
          p_X8_letterBeside_76 w7
      else
        p_X8_letterBeside_76 w5
    else
      p_X8_letterBeside_76 w3
  else
    p_X8_letterBeside_76 w1
def p_X8_touching_52 (k4 : Int → Int → Wd → Option (Int × Wd)) (k17 : Int → Int → Int → Wd → Option (Int × Wd)) (x1 : Int) (x2 : Int) (x3 : Int) (w : Wd) : Option (Int × Wd) :=
  k17 x1 x2 (x3 + 1) w
def p_X8_touching_58 (k4 : Int → Int → Wd → Option (Int × Wd)) (x1 : Int) (x2 : Int) (w : Wd) : Option (Int × Wd) :=
  k4 x1 (x2 + 1) w
def p_X8_touching_17 (k4 : Int → Int → Wd → Option (Int × Wd)) : Nat → Int → Int → Int → Wd → Option (Int × Wd)
  | 0, _, _, _, _ => none
  | n + 1, x1, x2, x3, w =>
    if lt32 x3 (gF w 100 0) then
      (p_X6_flawed 100 x3 x2 w).bind fun ⟨r2, w1⟩ =>
      if eq32 r2 0 then
        p_X8_touching_52 k4 (p_X8_touching_17 k4 n) x1 x2 x3 w1
      else
        (p_X8_letterBeside x3 x2 w1).bind fun ⟨r4, w3⟩ =>
        if eq32 r4 0 then
          p_X8_touching_52 k4 (p_X8_touching_17 k4 n) x1 x2 x3 w3
        else
          p_X8_touching_52 k4 (p_X8_touching_17 k4 n) (x1 + 1) x2 x3 w3
    else
      p_X8_touching_58 k4 x1 x2 w
def p_X8_touching_4 : Nat → Int → Int → Wd → Option (Int × Wd)
  | 0, _, _, _ => none
  | n + 1, x1, x2, w =>
    if lt32 x2 (gF w 100 1) then
      p_X8_touching_17 (p_X8_touching_4 n) FU x1 x2 0 w
    else
      some (x1, w)
def p_X8_touching (w : Wd) : Option (Int × Wd) :=
  p_X8_touching_4 FU 0 0 w
def p_X8_dear_61 (k4 : Int → Int → Wd → Option (Int × Wd)) (x1 : Int) (x2 : Int) (w : Wd) : Option (Int × Wd) :=
  k4 x1 (x2 + 1) w
def p_X8_dear_4 : Nat → Int → Int → Wd → Option (Int × Wd)
  | 0, _, _, _ => none
  | n + 1, x1, x2, w =>
    if lt32 x2 (gF w 10 5) then
      (p_X5_at 15 x2 w).bind fun ⟨r2, w1⟩ =>
      (p_X6_touched 100 (rm32 r2 100) (dv32 r2 100) w1).bind fun ⟨r4, w3⟩ =>
      if eq32 r4 0 then
        p_X8_dear_61 (p_X8_dear_4 n) x1 x2 w3
      else
        (p_X5_at 17 x2 w3).bind fun ⟨r6, w5⟩ =>
        p_X8_dear_61 (p_X8_dear_4 n) (x1 + (dv32 r6 2)) x2 w5
    else
      some (x1, w)
def p_X8_dear (w : Wd) : Option (Int × Wd) :=
  p_X8_dear_4 FU 0 0 w
def p_X8_carvedShare (w : Wd) : Option (UInt32 × Wd) :=
  if eq32 (gF w 10 5) 0 then
    some (FP.fconst1, w)
  else
    (fdv (fi2 (gF w 100 11)) (fi2 (gF w 10 5))).bind fun v2 =>
    some (v2, w)
def p_X8_meanStrokes (w : Wd) : Option (UInt64 × Wd) :=
  (p_X2_costsOf 10 0 (gF w 10 5) w).bind fun ⟨r2, w1⟩ =>
  if eq32 (gF w1 10 5) 0 then
    some (FP.dconst0, w1)
  else
    (ddv (di2 r2) (di2 (gF w1 10 5))).bind fun v4 =>
    some (v4, w1)
def p_X8_density (w : Wd) : Option (UInt64 × Wd) :=
  (p_X6_flawCount 100 w).bind fun ⟨r2, w1⟩ =>
  if eq32 (((gF w 100 0) * (gF w 100 1)) - r2) 0 then
    some (FP.dconst0, w1)
  else
    (ddv (di2 (gF w1 10 5)) (di2 (((gF w 100 0) * (gF w 100 1)) - r2))).bind fun v4 =>
    some (v4, w1)
def p_X8_takeInputWords_19 : Nat → Int → Int → Wd → Option (Int × Wd)
  | 0, _, _, _ => none
  | n + 1, x2, x3, w =>
    if lt32 x3 500 then
      if eq32 (gF w 8 1) 0 then
        some (x2, w)
      else
        (p_X7_isPlainWord w).bind fun ⟨r2, w1⟩ =>
        if eq32 r2 0 then
          some (0, w1)
        else
          if lt32 (gF w1 100 0) (gF w1 8 3) then
            some (0, w1)
          else
            (p_X6_takeWord 116 3 (gF w1 8 2) (gF w1 8 3) w1).bind fun w3 =>
            (p_X7_step w3).bind fun w4 =>
            p_X8_takeInputWords_19 n (x2 + 1) (x3 + 1) w4
    else
      some (x2, w)
def p_X8_takeInputWords (x1 : Int) (w : Wd) : Option (Int × Wd) :=
  (p_X6_openPart 116 x1 w).bind fun w1 =>
  (p_X7_restart w1).bind fun w2 =>
  p_X8_takeInputWords_19 FU 0 0 w2
def p_X8_addPart_72 (na : Nat) (w : Wd) : Option (Rz) :=
  some (Sum.inr 1, na, w)
def p_X8_addPart_38 (na : Nat) (w : Wd) : Option (Rz) :=
  some (Sum.inr 2, na, w)
def p_X8_addPart (x1 : Int) (na : Nat) (w : Wd) : Option (Rz) :=
  (p_X6_copy 116 100 w).bind fun w1 =>
  (p_X8_takeInputWords x1 w1).bind fun ⟨r3, w2⟩ =>
  if eq32 r3 0 then
    p_X8_addPart_38 na (sF w2 2 1 0)
  else
    if lt32 x1 0 then
      p_X8_addPart_38 na (sF w2 2 1 0)
    else
      if lt32 2 x1 then
        p_X8_addPart_38 na (sF w2 2 1 0)
      else
        if lt32 (gF (sF w2 2 1 0) 100 4) 10 then
          if lt32 60 ((gF (sF w2 2 1 0) 100 7) + r3) then
            p_X8_addPart_72 na (sF w2 2 1 0)
          else
            bindG (p_X8_settle na (sF w2 2 1 0)) fun _ n5 w6 =>
            some (Sum.inl ((gF w6 100 4) - 1), n5, w6)
        else
          p_X8_addPart_72 na (sF w2 2 1 0)
def p_X6_sameWord_23 (o0 : Nat) (o1 : Nat) : Nat → Int → Int → Wd → Option (Int × Wd)
  | 0, _, _, _ => none
  | n + 1, x2, x3, w =>
    (p_X5_at (o0 + 7) x2 w).bind fun ⟨r2, w1⟩ =>
    if lt32 x3 r2 then
      (p_X6_byteOf o0 x2 x3 w1).bind fun ⟨r4, w3⟩ =>
      (p_X6_byteOf o1 x2 x3 w3).bind fun ⟨r6, w5⟩ =>
      if eq32 r4 r6 then
        p_X6_sameWord_23 o0 o1 n x2 (x3 + 1) w5
      else
        some (0, w5)
    else
      some (1, w1)
def p_X6_sameWord (o0 : Nat) (o1 : Nat) (x2 : Int) (w : Wd) : Option (Int × Wd) :=
  (p_X5_at (o0 + 7) x2 w).bind fun ⟨r2, w1⟩ =>
  (p_X5_at (o1 + 7) x2 w1).bind fun ⟨r4, w3⟩ =>
  if eq32 r2 r4 then
    p_X6_sameWord_23 o0 o1 FU x2 0 w3
  else
    some (0, w3)
def p_X8_sameOnTrial (x1 : Int) (w : Wd) : Option (Int × Wd) :=
  if lt32 x1 (gF w 20 4) then
    (p_X5_at 11 x1 w).bind fun ⟨r2, w1⟩ =>
    (p_X5_at 21 x1 w1).bind fun ⟨r4, w3⟩ =>
    if eq32 r2 r4 then
      (p_X5_at 13 x1 w3).bind fun ⟨r6, w5⟩ =>
      (p_X5_at 23 x1 w5).bind fun ⟨r8, w7⟩ =>
      if eq32 r6 r8 then
        (p_X6_sameWord 100 116 x1 w7).bind fun ⟨r10, w9⟩ =>
        if eq32 r10 0 then
          some (0, w9)
        else
          some (1, w9)
      else
        some (0, w7)
    else
      some (0, w3)
  else
    some (0, w)
def p_X8_carvedStay_10 : Nat → Int → Int → Wd → Option (Int × Wd)
  | 0, _, _, _ => none
  | n + 1, x1, x2, w =>
    if lt32 x2 (gF w 10 4) then
      if lt32 0 x1 then
        (p_X8_sameOnTrial x2 w).bind fun ⟨r2, w1⟩ =>
        if eq32 r2 0 then
          some (0, w1)
        else
          (p_X5_at 107 x2 w1).bind fun ⟨r4, w3⟩ =>
          p_X8_carvedStay_10 n (x1 - r4) (x2 + 1) w3
      else
        some (1, w)
    else
      some (1, w)
def p_X8_carvedStay (w : Wd) : Option (Int × Wd) :=
  p_X8_carvedStay_10 FU (gF w 100 11) 0 w
def p_X8_needCarvedStay (na : Nat) (w : Wd) : Option (Rz) :=
  (p_X2_lay 20 116 w).bind fun w1 =>
  (p_X8_carvedStay w1).bind fun ⟨r3, w2⟩ =>
  if eq32 r3 0 then
    some (Sum.inr 1, na, w2)
  else
    some (Sum.inl 0, na, w2)
def p_X8_dropPart (x1 : Int) (na : Nat) (w : Wd) : Option (Rz) :=
  bindG (p_X8_needPart x1 na w) fun _ n2 w3 =>
  (p_X8_tryWithout x1 w3).bind fun w6 =>
  bindG (p_X8_needCarvedStay n2 w6) fun _ n8 w9 =>
  bindG (p_X8_settle n8 w9) fun _ n13 w14 =>
  some (Sum.inl (gF w14 10 4), n13, w14)
def p_X8_movePart (x1 : Int) (x2 : Int) (na : Nat) (w : Wd) : Option (Rz) :=
  bindG (p_X8_needPart x1 na w) fun _ n2 w3 =>
  bindG (p_X8_needPart x2 n2 w3) fun _ n7 w8 =>
  (p_X8_tryMoved x1 x2 w8).bind fun w11 =>
  bindG (p_X8_needCarvedStay n7 w11) fun _ n13 w14 =>
  bindG (p_X8_settle n13 w14) fun _ n18 w19 =>
  some (Sum.inl (gF w19 10 4), n18, w19)
def p_X8_setFlaw_46 (x1 : Int) (x2 : Int) (x3 : Int) (x4 : Int) (na : Nat) (w : Wd) : Option (Rz) :=
  (p_X6_copy 116 100 w).bind fun w1 =>
  (p_X6_mark 116 x1 x2 x3 w1).bind fun w2 =>
  bindG (p_X8_needCarvedStay na w2) fun _ n4 w5 =>
  bindG (p_X8_settle n4 w5) fun _ n9 w10 =>
  zrG x4 n9 w10
def p_X8_setFlaw (x1 : Int) (x2 : Int) (x3 : Int) (na : Nat) (w : Wd) : Option (Rz) :=
  bindG (p_X8_needCell x1 x2 na w) fun _ n2 w3 =>
  (p_X6_flawed 100 x1 x2 w3).bind fun ⟨r7, w6⟩ =>
  if eq32 x3 0 then
    p_X8_setFlaw_46 x1 x2 x3 r7 n2 w6
  else
    if eq32 r7 0 then
      (p_X6_flawCount 100 w6).bind fun ⟨r9, w8⟩ =>
      if lt32 r9 40 then
        p_X8_setFlaw_46 x1 x2 x3 r7 n2 w8
      else
        some (Sum.inr 1, n2, w8)
    else
      p_X8_setFlaw_46 x1 x2 x3 r7 n2 w6
def p_X8_setGap (x1 : Int) (na : Nat) (w : Wd) : Option (Rz) :=
  bindG (p_X8_needGap x1 na w) fun _ n2 w3 =>
  (p_X6_copy 116 100 w3).bind fun w6 =>
  bindG (p_X8_needCarvedStay n2 (sF w6 116 2 x1)) fun _ n8 w9 =>
  bindG (p_X8_settle n8 w9) fun _ n13 w14 =>
  some (Sum.inl (gF w3 100 2), n13, w14)
def p_X8_turnSlab (na : Nat) (w : Wd) : Option (Rz) :=
  if lt32 0 (gF w 100 11) then
    some (Sum.inr 1, na, w)
  else
    (p_X6_copy 116 100 w).bind fun w1 =>
    (p_X6_turnFlaws 116 100 w1).bind fun w2 =>
    bindG (p_X8_settle na w2) fun _ n4 w5 =>
    some (Sum.inl (gF w5 10 4), n4, w5)
def p_X6_cutFlaws_60 (o0 : Nat) (k23 : Int → Int → Wd → Option (Wd)) (x3 : Int) (x4 : Int) (s0 : Int) (s1 : Int) (w : Wd) : Option (Wd) :=
  (p_X5_put (o0 + 1) s1 s0 w).bind fun w1 =>
  k23 x3 (x4 + 1) w1
def p_X6_cutFlaws_23 (o0 : Nat) : Nat → Int → Int → Wd → Option (Wd)
  | 0, _, _, _ => none
  | n + 1, x3, x4, w =>
    if lt32 x4 12 then
      if lt32 x4 (gF w o0 1) then
        (p_X5_at (o0 + 1) (x4 + x3) w).bind fun ⟨r2, w1⟩ =>
        p_X6_cutFlaws_60 o0 (p_X6_cutFlaws_23 o0 n) x3 x4 r2 x4 w1
      else
        p_X6_cutFlaws_60 o0 (p_X6_cutFlaws_23 o0 n) x3 x4 0 x4 w
    else
      some w
def p_X6_cutFlaws_9 (o0 : Nat) (x1 : Int) (s0 : Int) (w : Wd) : Option (Wd) :=
  p_X6_cutFlaws_23 o0 FU s0 0 (sF w o0 1 ((gF w o0 1) - x1))
def p_X6_cutFlaws (o0 : Nat) (x1 : Int) (x2 : Int) (w : Wd) : Option (Wd) :=
  if eq32 x2 0 then
    p_X6_cutFlaws_9 o0 x1 0 w
  else
    p_X6_cutFlaws_9 o0 x1 x1 w
def p_X8_cutRows_48 (x1 : Int) (x2 : Int) (na : Nat) (w : Wd) : Option (Rz) :=
  (p_X6_copy 116 100 w).bind fun w1 =>
  (p_X6_cutFlaws 116 x1 x2 w1).bind fun w2 =>
  bindG (p_X8_needCarvedStay na w2) fun _ n4 w5 =>
  bindG (p_X8_settle n4 w5) fun _ n9 w10 =>
  some (Sum.inl (gF w10 10 4), n9, w10)
def p_X8_cutRows_18 (na : Nat) (w : Wd) : Option (Rz) :=
  some (Sum.inr 2, na, w)
def p_X8_cutRows (x1 : Int) (x2 : Int) (na : Nat) (w : Wd) : Option (Rz) :=
  if lt32 x1 1 then
    p_X8_cutRows_18 na w
  else
    if lt32 ((gF w 100 1) - 2) x1 then
      p_X8_cutRows_18 na w
    else
      if eq32 x2 0 then
        p_X8_cutRows_48 x1 x2 na w
      else
        if lt32 0 (gF w 100 11) then
          some (Sum.inr 1, na, w)
        else
          p_X8_cutRows_48 x1 x2 na w
def p_X8_carve_105 (x2 : Int) (x3 : Int) (na : Nat) (w : Wd) : Option (Rz) :=
  bindG (p_X8_settle na (sF w 116 11 x3)) fun _ n2 w3 =>
  some (Sum.inl ((gF w3 111 3) - x2), n2, w3)
def p_X8_carve_71 : Nat → Int → Int → Int → Nat → Wd → Option (Rz)
  | 0, _, _, _, _, _ => none
  | n + 1, x2, x3, x4, na, w =>
    if lt32 x4 x3 then
      (p_X5_at 17 x4 w).bind fun ⟨r2, w1⟩ =>
      (p_X1_cut 127 r2 w1).bind fun w3 =>
      p_X8_carve_71 n x2 x3 (x4 + 1) na w3
    else
      p_X8_carve_105 x2 x3 na w
def p_X8_carve_12 (na : Nat) (w : Wd) : Option (Rz) :=
  some (Sum.inr 2, na, w)
def p_X8_carve (x1 : Int) (na : Nat) (w : Wd) : Option (Rz) :=
  if lt32 x1 1 then
    p_X8_carve_12 na w
  else
    if lt32 300 x1 then
      p_X8_carve_12 na w
    else
      (p_X6_copy 116 100 w).bind fun w1 =>
      p_X8_carve_71 FU (gF w 111 3) (mn32 ((gF w 100 11) + x1) (gF w 10 5)) (gF w1 100 11) na w1
def p_X8_sharpen (na : Nat) (w : Wd) : Option (Rz) :=
  (p_X6_copy 116 100 w).bind fun w1 =>
  (p_X1_hone 127 w1).bind fun w2 =>
  bindG (p_X8_settle na w2) fun _ n4 w5 =>
  some (Sum.inl (gF w 111 2), n4, w5)
def p_X8_setChisel_22 (na : Nat) (w : Wd) : Option (Rz) :=
  some (Sum.inr 2, na, w)
def p_X8_setChisel (x1 : Int) (x2 : Int) (na : Nat) (w : Wd) : Option (Rz) :=
  if lt32 x1 1 then
    p_X8_setChisel_22 na w
  else
    if lt32 999 x1 then
      p_X8_setChisel_22 na w
    else
      if lt32 x2 0 then
        p_X8_setChisel_22 na w
      else
        if lt32 99 x2 then
          p_X8_setChisel_22 na w
        else
          (p_X6_copy 116 100 w).bind fun w1 =>
          (p_X1_renew 127 x1 x2 w1).bind fun w2 =>
          bindG (p_X8_settle na w2) fun _ n4 w5 =>
          some (Sum.inl ((100 * (gF w 111 0)) + (gF w 111 1)), n4, w5)
def p_X8_needSlot_13 (na : Nat) (w : Wd) : Option (Rz) :=
  some (Sum.inr 3, na, w)
def p_X8_needSlot (x1 : Int) (na : Nat) (w : Wd) : Option (Rz) :=
  if lt32 x1 0 then
    p_X8_needSlot_13 na w
  else
    if lt32 x1 2 then
      some (Sum.inl 0, na, w)
    else
      p_X8_needSlot_13 na w
def p_X8_keep_31 (q2 : Nat) (na : Nat) (w : Wd) : Option (Rz) :=
  (p_X6_copy q2 100 w).bind fun w1 =>
  some (Sum.inl (gF w1 100 11), na, w1)
def p_X8_keep (x1 : Int) (na : Nat) (w : Wd) : Option (Rz) :=
  bindG (p_X8_needSlot x1 na w) fun _ n2 w3 =>
  if inb x1 2 = false then none else
  if decide (gP w3 33 x1 = 0) then
    if inb x1 2 = false then none else
    p_X8_keep_31 (sl (n2 + 2)) (n2 + 1) (sP (initS w3 (sl (n2 + 2))) 33 x1 (sl (n2 + 2)))
  else
    p_X8_keep_31 (gP w3 33 x1) n2 w3
def p_X8_restore (x1 : Int) (na : Nat) (w : Wd) : Option (Rz) :=
  bindG (p_X8_needSlot x1 na w) fun _ n2 w3 =>
  if inb x1 2 = false then none else
  if decide (gP w3 33 x1 = 0) then
    some (Sum.inr 1, n2, w3)
  else
    (p_X6_copy 116 (gP w3 33 x1) w3).bind fun w9 =>
    bindG (p_X8_settle n2 w9) fun _ n11 w12 =>
    some (Sum.inl (gF w12 100 11), n11, w12)
def p_X4_takeBack_40 (o1 : Nat) (w : Wd) : Option (Wd) :=
  some (sF w 31 1 ((gF w 31 1) - 1))
def p_X4_takeBack (o1 : Nat) (w : Wd) : Option (Wd) :=
  if lt32 0 (gF w 31 1) then
    if lt32 6 (gF w 31 1) then
      some w
    else
      if inb ((gF w 31 1) - 1) 6 = false then none else
      if decide (gP w 32 ((gF w 31 1) - 1) = 0) then
        p_X4_takeBack_40 o1 w
      else
        (p_X6_copy o1 (gP w 32 ((gF w 31 1) - 1)) w).bind fun w4 =>
        p_X4_takeBack_40 o1 w4
  else
    some w
def p_X8_undo (na : Nat) (w : Wd) : Option (Rz) :=
  if eq32 (gF w 31 1) 0 then
    some (Sum.inr 1, na, w)
  else
    (p_X4_takeBack 100 w).bind fun w1 =>
    (p_X8_layAnew w1).bind fun w2 =>
    some (Sum.inl (gF w2 31 1), na, w2)
def p_X8_undoCount (w : Wd) : Option (Int × Wd) :=
  some (gF w 31 1, w)
def p_X8_signOn_78 (x5 : Int) (s0 : Int) (w : Wd) : Option (Int × Wd) :=
  if eq32 s0 0 then
    some (x5, w)
  else
    some ((x5 - 97) + 65, w)
def p_X8_signOn_77 (x5 : Int) (w : Wd) : Option (Int × Wd) :=
  p_X8_signOn_78 x5 0 w
def p_X8_signOn (x1 : Int) (x2 : Int) (w : Wd) : Option (Int × Wd) :=
  (p_X2_wordOn 10 100 x1 x2 w).bind fun ⟨r2, w1⟩ =>
  if eq32 r2 (-1) then
    some (46, w1)
  else
    (p_X5_at 13 r2 w1).bind fun ⟨r4, w3⟩ =>
    (p_X6_byteOf 100 r2 (x1 - r4) w3).bind fun ⟨r6, w5⟩ =>
    (p_X8_carvedOfWord r2 w5).bind fun ⟨r8, w7⟩ =>
    if lt32 (x1 - r4) r8 then
      if lt32 r6 97 then
        p_X8_signOn_77 r6 w7
      else
        if lt32 122 r6 then
          p_X8_signOn_77 r6 w7
        else
          p_X8_signOn_78 r6 1 w7
    else
      p_X8_signOn_77 r6 w7
def p_X8_writeRow_53 (k15 : Int → Int → Nat → Wd → Option (Rz)) (x1 : Int) (x2 : Int) (s0 : Int) (na : Nat) (w : Wd) : Option (Rz) :=
  (p_X0_add 5 s0 w).bind fun w1 =>
  k15 x1 (x2 + 1) na w1
def p_X8_writeRow_15 : Nat → Int → Int → Nat → Wd → Option (Rz)
  | 0, _, _, _, _ => none
  | n + 1, x1, x2, na, w =>
    if lt32 x2 (gF w 100 0) then
      (p_X6_flawed 100 x2 x1 w).bind fun ⟨r2, w1⟩ =>
      if eq32 r2 0 then
        (p_X8_signOn x2 x1 w1).bind fun ⟨r4, w3⟩ =>
        p_X8_writeRow_53 (p_X8_writeRow_15 n) x1 x2 r4 na w3
      else
        p_X8_writeRow_53 (p_X8_writeRow_15 n) x1 x2 35 na w1
    else
      some (Sum.inl (gF w 5 1), na, w)
def p_X8_writeRow (x1 : Int) (na : Nat) (w : Wd) : Option (Rz) :=
  bindG (p_X8_needRow x1 na w) fun _ n2 w3 =>
  p_X8_writeRow_15 FU x1 0 n2 (sF w3 5 1 0)
def p_X8_writeWord_69 (x2 : Int) (w : Wd) : Option (Wd) :=
  if eq32 x2 0 then
    some w
  else
    (p_X0_add 5 93 w).bind fun w1 =>
    some w1
def p_X8_writeWord_32 : Nat → Int → Int → Int → Wd → Option (Wd)
  | 0, _, _, _, _ => none
  | n + 1, x1, x2, x3, w =>
    (p_X5_at 107 x1 w).bind fun ⟨r2, w1⟩ =>
    if lt32 x3 r2 then
      (p_X6_byteOf 100 x1 x3 w1).bind fun ⟨r4, w3⟩ =>
      (p_X0_add 5 r4 w3).bind fun w5 =>
      p_X8_writeWord_32 n x1 x2 (x3 + 1) w5
    else
      p_X8_writeWord_69 x2 w1
def p_X8_writeWord_30 (x1 : Int) (x2 : Int) (w : Wd) : Option (Wd) :=
  p_X8_writeWord_32 FU x1 x2 0 w
def p_X8_writeWord_16 (x1 : Int) (s0 : Int) (w : Wd) : Option (Wd) :=
  if eq32 s0 0 then
    p_X8_writeWord_30 x1 s0 w
  else
    (p_X0_add 5 91 w).bind fun w1 =>
    p_X8_writeWord_30 x1 s0 w1
def p_X8_writeWord (x1 : Int) (w : Wd) : Option (Wd) :=
  if lt32 x1 (gF w 10 4) then
    p_X8_writeWord_16 x1 0 w
  else
    p_X8_writeWord_16 x1 1 w
def p_X8_writePart_60 (k39 : Int → Int → Int → Nat → Wd → Option (Rz)) (x2 : Int) (x3 : Int) (x4 : Int) (na : Nat) (w : Wd) : Option (Rz) :=
  (p_X8_writeWord x4 w).bind fun w1 =>
  k39 x2 x3 (x4 + 1) na w1
def p_X8_writePart_39 : Nat → Int → Int → Int → Nat → Wd → Option (Rz)
  | 0, _, _, _, _, _ => none
  | n + 1, x2, x3, x4, na, w =>
    if lt32 x4 x3 then
      if lt32 x2 x4 then
        (p_X0_add 5 32 w).bind fun w1 =>
        p_X8_writePart_60 (p_X8_writePart_39 n) x2 x3 x4 na w1
      else
        p_X8_writePart_60 (p_X8_writePart_39 n) x2 x3 x4 na w
    else
      some (Sum.inl (gF w 5 1), na, w)
def p_X8_writePart (x1 : Int) (na : Nat) (w : Wd) : Option (Rz) :=
  bindG (p_X8_needPart x1 na w) fun _ n2 w3 =>
  (p_X6_firstOf 100 x1 w3).bind fun ⟨r7, w6⟩ =>
  (p_X5_at 105 x1 w6).bind fun ⟨r9, w8⟩ =>
  p_X8_writePart_39 FU r7 (r7 + r9) r7 n2 (sF w8 5 1 0)
def p_X8_outputByte_15 (na : Nat) (w : Wd) : Option (Rz) :=
  some (Sum.inr 4, na, w)
def p_X8_outputByte (x1 : Int) (na : Nat) (w : Wd) : Option (Rz) :=
  if lt32 x1 0 then
    p_X8_outputByte_15 na w
  else
    if lt32 x1 (gF w 5 1) then
      (p_X5_at 6 x1 w).bind fun ⟨r2, w1⟩ =>
      some (Sum.inl (r2), na, w1)
    else
      p_X8_outputByte_15 na w
def p_X9_thrown (w : Wd) : Option (Int × Wd) :=
  some (gF w 50 0, w)
def p_X9_in (x0 : Int) (x2 : Int) (x4 : Int) (w : Wd) : Option (Int × Wd) :=
  if lt32 (lcm64 x0 x2) 0 then
    some (0, w)
  else
    if lt32 0 (lcm64 x0 x4) then
      some (0, w)
    else
      some (1, w)
def p_X9_passes3_26 (s0 : Int) (w : Wd) : Option (Int × Wd) :=
  if eq32 (gF (sF w 50 0 s0) 50 0) 0 then
    some (1, sF w 50 0 s0)
  else
    some (0, sF w 50 0 s0)
def p_X9_passes3 (x1 : Int) (x2 : Int) (x3 : Int) (w : Wd) : Option (Int × Wd) :=
  if eq32 x1 0 then
    p_X9_passes3_26 1 w
  else
    if eq32 x2 0 then
      p_X9_passes3_26 2 w
    else
      if eq32 x3 0 then
        p_X9_passes3_26 3 w
      else
        p_X9_passes3_26 0 w
def p_X9_passes2 (x1 : Int) (x2 : Int) (w : Wd) : Option (Int × Wd) :=
  (p_X9_passes3 x1 x2 1 w).bind fun ⟨r2, w1⟩ =>
  zr r2 w1
def p_X9_passes (x1 : Int) (w : Wd) : Option (Int × Wd) :=
  (p_X9_passes3 x1 1 1 w).bind fun ⟨r2, w1⟩ =>
  zr r2 w1
def p_X9_layPlain_22 (w : Wd) : Option (Wd) :=
  if inb 0 1099 = false then none else
  if inb 1 1099 = false then none else
  (some (sA (sA w (gP w 50 3) 0 10) (gP (sA w (gP w 50 3) 0 10) 50 3) 1 4)).bind fun w3 =>
  if inb 3 1099 = false then none else
  if inb 4 1099 = false then none else
  (some (sA (sA w3 (gP w3 50 3) 3 100) (gP (sA w3 (gP w3 50 3) 3 100) 50 3) 4 10)).bind fun w6 =>
  if inb 5 1099 = false then none else
  some (sA w6 (gP w6 50 3) 5 100)
def p_X9_layPlain_2 : Nat → Int → Wd → Option (Wd)
  | 0, _, _ => none
  | n + 1, x1, w =>
    if lt32 x1 1099 then
      if inb x1 1099 = false then none else
      p_X9_layPlain_2 n (x1 + 1) (sA w (gP w 50 3) x1 0)
    else
      p_X9_layPlain_22 w
def p_X9_layPlain (w : Wd) : Option (Wd) :=
  p_X9_layPlain_2 FU 0 w
def p_X9_wide (w : Wd) : Option (Int × Wd) :=
  if inb 0 1099 = false then none else
  some (gA w (gP w 50 3) 0, w)
def p_X9_high (w : Wd) : Option (Int × Wd) :=
  if inb 1 1099 = false then none else
  some (gA w (gP w 50 3) 1, w)
def p_X9_isCell (x1 : Int) (x2 : Int) (w : Wd) : Option (Int × Wd) :=
  (p_X9_wide w).bind fun ⟨r2, w1⟩ =>
  (p_X9_in (w32 x1) 0 (w32 (r2 - 1)) w1).bind fun ⟨r4, w3⟩ =>
  if eq32 r4 0 then
    some (0, w3)
  else
    (p_X9_high w3).bind fun ⟨r6, w5⟩ =>
    (p_X9_in (w32 x2) 0 (w32 (r6 - 1)) w5).bind fun ⟨r8, w7⟩ =>
    if eq32 r8 0 then
      some (0, w7)
    else
      some (1, w7)
def p_X9_hasFlaw (x1 : Int) (x2 : Int) (w : Wd) : Option (Int × Wd) :=
  (p_X9_isCell x1 x2 w).bind fun ⟨r2, w1⟩ =>
  if eq32 r2 0 then
    some (0, w1)
  else
    if inb ((11 + (24 * x2)) + x1) 1099 = false then none else
    if eq32 (gA w1 (gP w1 50 3) ((11 + (24 * x2)) + x1)) 1 then
      some (1, w1)
    else
      some (0, w1)
def p_X9_putFlaw (x1 : Int) (x2 : Int) (x3 : Int) (w : Wd) : Option (Wd) :=
  if inb ((11 + (24 * x2)) + x1) 1099 = false then none else
  some (sA w (gP w 50 3) ((11 + (24 * x2)) + x1) x3)
def p_X9_flaws_4 : Nat → Int → Int → Wd → Option (Int × Wd)
  | 0, _, _, _ => none
  | n + 1, x1, x2, w =>
    if lt32 x2 288 then
      if inb (11 + x2) 1099 = false then none else
      p_X9_flaws_4 n (x1 + (gA w (gP w 50 3) (11 + x2))) (x2 + 1) w
    else
      some (x1, w)
def p_X9_flaws (w : Wd) : Option (Int × Wd) :=
  p_X9_flaws_4 FU 0 0 w
def p_X9_kindOf (x1 : Int) (w : Wd) : Option (Int × Wd) :=
  if inb ((299 + (2 * x1)) + 0) 1099 = false then none else
  some (gA w (gP w 50 3) ((299 + (2 * x1)) + 0), w)
def p_X9_manyOf (x1 : Int) (w : Wd) : Option (Int × Wd) :=
  if inb ((299 + (2 * x1)) + 1) 1099 = false then none else
  some (gA w (gP w 50 3) ((299 + (2 * x1)) + 1), w)
def p_X9_firstOf_4 : Nat → Int → Int → Int → Wd → Option (Int × Wd)
  | 0, _, _, _, _ => none
  | n + 1, x1, x2, x3, w =>
    if lt32 x3 x1 then
      (p_X9_manyOf x3 w).bind fun ⟨r2, w1⟩ =>
      p_X9_firstOf_4 n x1 (x2 + r2) (x3 + 1) w1
    else
      some (x2, w)
def p_X9_firstOf (x1 : Int) (w : Wd) : Option (Int × Wd) :=
  p_X9_firstOf_4 FU x1 0 0 w
def p_X9_partOf_2 : Nat → Int → Int → Wd → Option (Int × Wd)
  | 0, _, _, _ => none
  | n + 1, x1, x2, w =>
    (p_X9_firstOf (x2 + 1) w).bind fun ⟨r2, w1⟩ =>
    if lt32 x1 r2 then
      some (x2, w1)
    else
      p_X9_partOf_2 n x1 (x2 + 1) w1
def p_X9_partOf (x1 : Int) (w : Wd) : Option (Int × Wd) :=
  p_X9_partOf_2 FU x1 0 w
def p_X9_bytesOf (x1 : Int) (w : Wd) : Option (Int × Wd) :=
  if inb (319 + (13 * x1)) 1099 = false then none else
  some (gA w (gP w 50 3) (319 + (13 * x1)), w)
def p_X9_byteOf (x1 : Int) (x2 : Int) (w : Wd) : Option (Int × Wd) :=
  if inb (((319 + (13 * x1)) + 1) + x2) 1099 = false then none else
  some (gA w (gP w 50 3) (((319 + (13 * x1)) + 1) + x2), w)
def p_X9_isPart (x1 : Int) (w : Wd) : Option (Int × Wd) :=
  if inb 9 1099 = false then none else
  (p_X9_in (w32 x1) 0 (w32 ((gA w (gP w 50 3) 9) - 1)) w).bind fun ⟨r3, w2⟩ =>
  zr r3 w2
def p_X9_isWordNumber (x1 : Int) (w : Wd) : Option (Int × Wd) :=
  if inb 10 1099 = false then none else
  (p_X9_in (w32 x1) 0 (w32 ((gA w (gP w 50 3) 10) - 1)) w).bind fun ⟨r3, w2⟩ =>
  zr r3 w2
def p_X9_fitsAt_46 (k18 : Int → Int → Int → Int → Int → Wd → Option (Int × Wd)) (x1 : Int) (x2 : Int) (x3 : Int) (x5 : Int) (s0 : Int) (w : Wd) : Option (Int × Wd) :=
  k18 x1 x2 x3 s0 (x5 + 1) w
def p_X9_fitsAt_45 (k18 : Int → Int → Int → Int → Int → Wd → Option (Int × Wd)) (x1 : Int) (x2 : Int) (x3 : Int) (x5 : Int) (w : Wd) : Option (Int × Wd) :=
  p_X9_fitsAt_46 k18 x1 x2 x3 x5 0 w
def p_X9_fitsAt_18 : Nat → Int → Int → Int → Int → Int → Wd → Option (Int × Wd)
  | 0, _, _, _, _, _, _ => none
  | n + 1, x1, x2, x3, x4, x5, w =>
    if lt32 x5 (x1 + x3) then
      if eq32 x4 0 then
        p_X9_fitsAt_45 (p_X9_fitsAt_18 n) x1 x2 x3 x5 w
      else
        (p_X9_hasFlaw x5 x2 w).bind fun ⟨r2, w1⟩ =>
        if eq32 r2 0 then
          p_X9_fitsAt_46 (p_X9_fitsAt_18 n) x1 x2 x3 x5 1 w1
        else
          p_X9_fitsAt_45 (p_X9_fitsAt_18 n) x1 x2 x3 x5 w1
    else
      zr x4 w
def p_X9_fitsAt (x1 : Int) (x2 : Int) (x3 : Int) (w : Wd) : Option (Int × Wd) :=
  (p_X9_wide w).bind fun ⟨r2, w1⟩ =>
  if lt32 r2 (x1 + x3) then
    some (0, w1)
  else
    p_X9_fitsAt_18 FU x1 x2 x3 1 x1 w1
def p_X9_findPlace_55 (k0 : Int → Wd → Option (Int × Wd)) (x1 : Int) (w : Wd) : Option (Int × Wd) :=
  (some (sF (sF w 50 7 ((gF w 50 7) + 1)) 50 8 0)).bind fun w1 =>
  k0 x1 w1
def p_X9_findPlace_11 (k0 : Int → Wd → Option (Int × Wd)) : Nat → Int → Wd → Option (Int × Wd)
  | 0, _, _ => none
  | n + 1, x1, w =>
    (p_X9_wide w).bind fun ⟨r2, w1⟩ =>
    if lt32 r2 ((gF w 50 8) + x1) then
      p_X9_findPlace_55 k0 x1 w1
    else
      (p_X9_fitsAt (gF w1 50 8) (gF w1 50 7) x1 w1).bind fun ⟨r4, w3⟩ =>
      if eq32 r4 0 then
        p_X9_findPlace_11 k0 n x1 (sF w3 50 8 ((gF w3 50 8) + 1))
      else
        some (1, w3)
def p_X9_findPlace_0 : Nat → Int → Wd → Option (Int × Wd)
  | 0, _, _ => none
  | n + 1, x1, w =>
    (p_X9_high w).bind fun ⟨r2, w1⟩ =>
    if lt32 (gF w 50 7) r2 then
      p_X9_findPlace_11 (p_X9_findPlace_0 n) FU x1 w1
    else
      some (0, w1)
def p_X9_findPlace (x1 : Int) (w : Wd) : Option (Int × Wd) :=
  p_X9_findPlace_0 FU x1 w
def p_X9_mayMove_51 (k6 : Int → Int → Int → Int → Wd → Option (Int × Wd)) (x2 : Int) (x3 : Int) (x5 : Int) (s0 : Int) (w : Wd) : Option (Int × Wd) :=
  k6 x2 x3 s0 (x5 + 1) w
def p_X9_mayMove_50 (k6 : Int → Int → Int → Int → Wd → Option (Int × Wd)) (x2 : Int) (x3 : Int) (x5 : Int) (w : Wd) : Option (Int × Wd) :=
  p_X9_mayMove_51 k6 x2 x3 x5 0 w
def p_X9_mayMove_6 : Nat → Int → Int → Int → Int → Wd → Option (Int × Wd)
  | 0, _, _, _, _, _ => none
  | n + 1, x2, x3, x4, x5, w =>
    if lt32 x5 x2 then
      if eq32 x4 0 then
        p_X9_mayMove_50 (p_X9_mayMove_6 n) x2 x3 x5 w
      else
        if inb x5 60 = false then none else
        if inb x5 60 = false then none else
        (p_X9_bytesOf x5 w).bind fun ⟨r2, w1⟩ =>
        (p_X9_fitsAt ((gA w 54 x5) + x3) (gA w 53 x5) r2 w1).bind fun ⟨r4, w3⟩ =>
        if eq32 r4 0 then
          p_X9_mayMove_50 (p_X9_mayMove_6 n) x2 x3 x5 w3
        else
          p_X9_mayMove_51 (p_X9_mayMove_6 n) x2 x3 x5 1 w3
    else
      zr x4 w
def p_X9_mayMove (x1 : Int) (x2 : Int) (x3 : Int) (w : Wd) : Option (Int × Wd) :=
  p_X9_mayMove_6 FU x2 x3 1 x1 w
def p_X9_moveRow_45 : Nat → Int → Int → Int → Wd → Option (Wd)
  | 0, _, _, _, _ => none
  | n + 1, x2, x4, x5, w =>
    if lt32 x5 x2 then
      if inb x5 60 = false then none else
      if inb x5 60 = false then none else
      p_X9_moveRow_45 n x2 x4 (x5 + 1) (sA w 54 x5 ((gA w 54 x5) + x4))
    else
      some w
def p_X9_moveRow_42 (x1 : Int) (x2 : Int) (x4 : Int) (w : Wd) : Option (Wd) :=
  p_X9_moveRow_45 FU x2 x4 x1 w
def p_X9_moveRow_25 : Nat → Int → Int → Int → Wd → Option (Wd)
  | 0, _, _, _, _ => none
  | n + 1, x1, x2, x4, w =>
    (p_X9_mayMove x1 x2 x4 w).bind fun ⟨r2, w1⟩ =>
    if eq32 r2 0 then
      p_X9_moveRow_25 n x1 x2 (x4 + (-1)) w1
    else
      p_X9_moveRow_42 x1 x2 x4 w1
def p_X9_moveRow (x1 : Int) (x2 : Int) (w : Wd) : Option (Wd) :=
  (p_X9_wide w).bind fun ⟨r2, w1⟩ =>
  if inb (x2 - 1) 60 = false then none else
  (p_X9_bytesOf (x2 - 1) w1).bind fun ⟨r4, w3⟩ =>
  p_X9_moveRow_25 FU x1 x2 (dv32 ((r2 - (gA w1 54 (x2 - 1))) - r4) 2) w3
def p_X9_moveName_38 (k2 : Int → Int → Wd → Option (Wd)) (x2 : Int) (x3 : Int) (x4 : Int) (w : Wd) : Option (Wd) :=
  (p_X9_moveRow x3 x4 w).bind fun w1 =>
  k2 x2 x4 w1
def p_X9_moveName_10 (k2 : Int → Int → Wd → Option (Wd)) : Nat → Int → Int → Int → Wd → Option (Wd)
  | 0, _, _, _, _ => none
  | n + 1, x2, x3, x4, w =>
    if lt32 x4 x2 then
      if inb x4 60 = false then none else
      if inb x3 60 = false then none else
      if eq32 (gA w 53 x4) (gA w 53 x3) then
        p_X9_moveName_10 k2 n x2 x3 (x4 + 1) w
      else
        p_X9_moveName_38 k2 x2 x3 x4 w
    else
      p_X9_moveName_38 k2 x2 x3 x4 w
def p_X9_moveName_2 : Nat → Int → Int → Wd → Option (Wd)
  | 0, _, _, _ => none
  | n + 1, x2, x3, w =>
    if lt32 x3 x2 then
      p_X9_moveName_10 (p_X9_moveName_2 n) FU x2 x3 x3 w
    else
      some w
def p_X9_moveName (x1 : Int) (x2 : Int) (w : Wd) : Option (Wd) :=
  p_X9_moveName_2 FU x2 x1 w
def p_X9_layPart_107 (w : Wd) : Option (Int × Wd) :=
  if inb 2 1099 = false then none else
  (some (sF (sF w 50 7 ((gF w 50 7) + ((gA w (gP w 50 3) 2) + 1))) 50 8 0)).bind fun w2 =>
  some (1, w2)
def p_X9_layPart_93 (x1 : Int) (x2 : Int) (x3 : Int) (w : Wd) : Option (Int × Wd) :=
  (p_X9_kindOf x1 w).bind fun ⟨r2, w1⟩ =>
  if eq32 r2 0 then
    (p_X9_moveName x2 x3 w1).bind fun w3 =>
    p_X9_layPart_107 w3
  else
    p_X9_layPart_107 w1
def p_X9_layPart_17 : Nat → Int → Int → Int → Int → Wd → Option (Int × Wd)
  | 0, _, _, _, _, _ => none
  | n + 1, x1, x2, x3, x4, w =>
    if lt32 x4 x3 then
      (p_X9_bytesOf x4 w).bind fun ⟨r2, w1⟩ =>
      (p_X9_findPlace r2 w1).bind fun ⟨r4, w3⟩ =>
      if eq32 r4 0 then
        some (0, w3)
      else
        if inb x4 60 = false then none else
        if inb x4 60 = false then none else
        (some (sA (sA w3 53 x4 (gF w3 50 7)) 54 x4 (gF (sA w3 53 x4 (gF w3 50 7)) 50 8))).bind fun w5 =>
        (p_X9_bytesOf x4 w5).bind fun ⟨r7, w6⟩ =>
        (some (sF (sF w6 50 8 ((gF w5 50 8) + (r7 + 1))) 50 6 ((gF (sF w6 50 8 ((gF w5 50 8) + (r7 + 1))) 50 6) + 1))).bind fun w8 =>
        p_X9_layPart_17 n x1 x2 x3 (x4 + 1) w8
    else
      p_X9_layPart_93 x1 x2 x3 w
def p_X9_layPart (x1 : Int) (w : Wd) : Option (Int × Wd) :=
  (p_X9_firstOf x1 w).bind fun ⟨r2, w1⟩ =>
  (p_X9_manyOf x1 w1).bind fun ⟨r4, w3⟩ =>
  p_X9_layPart_17 FU x1 r2 (r2 + r4) r2 w3
def p_X9_lay_17 : Nat → Int → Wd → Option (Int × Wd)
  | 0, _, _ => none
  | n + 1, x1, w =>
    if inb 9 1099 = false then none else
    if lt32 x1 (gA w (gP w 50 3) 9) then
      (p_X9_layPart x1 w).bind fun ⟨r3, w2⟩ =>
      if eq32 r3 0 then
        some (gF w2 50 6, w2)
      else
        p_X9_lay_17 n (x1 + 1) w2
    else
      some (gF w 50 6, w)
def p_X9_lay (w : Wd) : Option (Int × Wd) :=
  (some (sF (sF w 50 6 0) 50 7 0)).bind fun w1 =>
  p_X9_lay_17 FU 0 (sF w1 50 8 0)
def p_X9_isTouched_44 (w : Wd) : Option (Int × Wd) :=
  some (1, w)
def p_X9_isTouched (x1 : Int) (x2 : Int) (w : Wd) : Option (Int × Wd) :=
  (p_X9_hasFlaw (x1 - 1) x2 w).bind fun ⟨r2, w1⟩ =>
  if eq32 r2 0 then
    (p_X9_hasFlaw (x1 + 1) x2 w1).bind fun ⟨r4, w3⟩ =>
    if eq32 r4 0 then
      (p_X9_hasFlaw x1 (x2 - 1) w3).bind fun ⟨r6, w5⟩ =>
      if eq32 r6 0 then
        (p_X9_hasFlaw x1 (x2 + 1) w5).bind fun ⟨r8, w7⟩ =>
        if eq32 r8 0 then
          some (0, w7)
        else
          p_X9_isTouched_44 w7
      else
        p_X9_isTouched_44 w5
    else
      p_X9_isTouched_44 w3
  else
    p_X9_isTouched_44 w1
def p_X9_plainStrokes (x0 : Int) (w : Wd) : Option (Int × Wd) :=
  if lt32 x0 97 then
    some (2 + (rm32 (x0 - 48) 3), w)
  else
    some (1 + (rm32 (7 * (x0 - 97)) 5), w)
def p_X9_strokesOf (x1 : Int) (x2 : Int) (w : Wd) : Option (Int × Wd) :=
  (p_X9_byteOf x1 x2 w).bind fun ⟨r2, w1⟩ =>
  (p_X9_plainStrokes r2 w1).bind fun ⟨r4, w3⟩ =>
  if inb x1 60 = false then none else
  if inb x1 60 = false then none else
  (p_X9_isTouched ((gA w3 54 x1) + x2) (gA w3 53 x1) w3).bind fun ⟨r6, w5⟩ =>
  if eq32 r6 0 then
    some (r4, w5)
  else
    some (2 * r4, w5)
def p_X9_strokesOfWord_4 : Nat → Int → Int → Int → Wd → Option (Int × Wd)
  | 0, _, _, _, _ => none
  | n + 1, x1, x2, x3, w =>
    (p_X9_bytesOf x1 w).bind fun ⟨r2, w1⟩ =>
    if lt32 x3 r2 then
      (p_X9_strokesOf x1 x3 w1).bind fun ⟨r4, w3⟩ =>
      p_X9_strokesOfWord_4 n x1 (x2 + r4) (x3 + 1) w3
    else
      some (x2, w1)
def p_X9_strokesOfWord (x1 : Int) (w : Wd) : Option (Int × Wd) :=
  p_X9_strokesOfWord_4 FU x1 0 0 w
def p_X9_lettersAhead_4 : Nat → Int → Int → Int → Wd → Option (Int × Wd)
  | 0, _, _, _, _ => none
  | n + 1, x1, x2, x3, w =>
    if lt32 x3 x1 then
      (p_X9_bytesOf x3 w).bind fun ⟨r2, w1⟩ =>
      p_X9_lettersAhead_4 n x1 (x2 + r2) (x3 + 1) w1
    else
      some (x2, w)
def p_X9_lettersAhead (x1 : Int) (w : Wd) : Option (Int × Wd) :=
  p_X9_lettersAhead_4 FU x1 0 0 w
def p_X9_letters (w : Wd) : Option (Int × Wd) :=
  (p_X9_lettersAhead (gF w 50 6) w).bind fun ⟨r2, w1⟩ =>
  some (r2, w1)
def p_X9_wordOfLetter_2 : Nat → Int → Int → Wd → Option (Int × Wd)
  | 0, _, _, _ => none
  | n + 1, x1, x2, w =>
    (p_X9_lettersAhead (x2 + 1) w).bind fun ⟨r2, w1⟩ =>
    if lt32 x1 r2 then
      some (x2, w1)
    else
      p_X9_wordOfLetter_2 n x1 (x2 + 1) w1
def p_X9_wordOfLetter (x1 : Int) (w : Wd) : Option (Int × Wd) :=
  p_X9_wordOfLetter_2 FU x1 0 w
def p_X9_strokesOfLetter (x1 : Int) (w : Wd) : Option (Int × Wd) :=
  (p_X9_wordOfLetter x1 w).bind fun ⟨r2, w1⟩ =>
  (p_X9_lettersAhead r2 w1).bind fun ⟨r4, w3⟩ =>
  (p_X9_strokesOf r2 (x1 - r4) w3).bind fun ⟨r6, w5⟩ =>
  some (r6, w5)
def p_X9_wordIn_52 (k2 : Int → Int → Int → Wd → Option (Int × Wd)) (x1 : Int) (x2 : Int) (x3 : Int) (w : Wd) : Option (Int × Wd) :=
  k2 x1 x2 (x3 + 1) w
def p_X9_wordIn_2 : Nat → Int → Int → Int → Wd → Option (Int × Wd)
  | 0, _, _, _, _ => none
  | n + 1, x1, x2, x3, w =>
    if lt32 x3 (gF w 50 6) then
      if inb x3 60 = false then none else
      if eq32 (gA w 53 x3) x2 then
        if inb x3 60 = false then none else
        if inb x3 60 = false then none else
        (p_X9_bytesOf x3 w).bind fun ⟨r2, w1⟩ =>
        (p_X9_in (w32 x1) (w32 (gA w 54 x3)) (w32 (((gA w 54 x3) + r2) - 1)) w1).bind fun ⟨r4, w3⟩ =>
        if eq32 r4 0 then
          p_X9_wordIn_52 (p_X9_wordIn_2 n) x1 x2 x3 w3
        else
          some (x3, w3)
      else
        p_X9_wordIn_52 (p_X9_wordIn_2 n) x1 x2 x3 w
    else
      some (-1, w)
def p_X9_wordIn (x1 : Int) (x2 : Int) (w : Wd) : Option (Int × Wd) :=
  p_X9_wordIn_2 FU x1 x2 0 w
def p_X9_timeForLetter_51 (x3 : Int) (x4 : Int) (w : Wd) : Option (Int × Wd) :=
  some (x4, sF w 50 9 (mx32 0 ((gF w 50 9) - x3)))
def p_X9_timeForLetter (x1 : Int) (x2 : Int) (w : Wd) : Option (Int × Wd) :=
  (p_X9_strokesOfLetter x1 w).bind fun ⟨r2, w1⟩ =>
  if lt32 (gF w1 50 9) r2 then
    if lt32 (gF w1 50 9) x2 then
      (some (sF (sF w1 50 9 x2) 50 10 ((gF (sF w1 50 9 x2) 50 10) + 1))).bind fun w3 =>
      if inb 4 1099 = false then none else
      p_X9_timeForLetter_51 r2 (r2 + (gA w3 (gP w3 50 3) 4)) w3
    else
      p_X9_timeForLetter_51 r2 r2 w1
  else
    p_X9_timeForLetter_51 r2 r2 w1
def p_X9_timeFromTo_20 : Nat → Int → Int → Int → Wd → Option (Int × Wd)
  | 0, _, _, _, _ => none
  | n + 1, x2, x3, x4, w =>
    if lt32 x4 x2 then
      if inb 3 1099 = false then none else
      (p_X9_timeForLetter x4 (gA w (gP w 50 3) 3) w).bind fun ⟨r3, w2⟩ =>
      p_X9_timeFromTo_20 n x2 (x3 + r3) (x4 + 1) w2
    else
      some (x3, w)
def p_X9_timeFromTo (x1 : Int) (x2 : Int) (w : Wd) : Option (Int × Wd) :=
  if inb 5 1099 = false then none else
  (some (sF (sF w 50 9 (gA w (gP w 50 3) 5)) 50 10 0)).bind fun w2 =>
  p_X9_timeFromTo_20 FU x2 0 x1 w2
def p_X9_keepAside_2 : Nat → Int → Wd → Option (Wd)
  | 0, _, _ => none
  | n + 1, x1, w =>
    if lt32 x1 1099 then
      if inb x1 1099 = false then none else
      if inb x1 1099 = false then none else
      p_X9_keepAside_2 n (x1 + 1) (sA w 55 x1 (gA w 51 x1))
    else
      some w
def p_X9_keepAside (w : Wd) : Option (Wd) :=
  p_X9_keepAside_2 FU 0 w
def p_X9_layBack_2 : Nat → Int → Int → Wd → Option (Int × Wd)
  | 0, _, _, _ => none
  | n + 1, x1, x2, w =>
    if lt32 x2 1099 then
      if inb x2 1099 = false then none else
      if inb x2 1099 = false then none else
      p_X9_layBack_2 n x1 (x2 + 1) (sA w 51 x2 (gA w 55 x2))
    else
      some (x1, w)
def p_X9_layBack (x1 : Int) (w : Wd) : Option (Int × Wd) :=
  p_X9_layBack_2 FU x1 0 w
def p_X9_turn_91 (k2 : Int → Wd → Option (Wd)) (k12 : Int → Int → Wd → Option (Wd)) (x1 : Int) (x2 : Int) (w : Wd) : Option (Wd) :=
  k12 x1 (x2 + 1) w
def p_X9_turn_97 (k2 : Int → Wd → Option (Wd)) (x1 : Int) (w : Wd) : Option (Wd) :=
  k2 (x1 + 1) w
def p_X9_turn_12 (k2 : Int → Wd → Option (Wd)) : Nat → Int → Int → Wd → Option (Wd)
  | 0, _, _, _ => none
  | n + 1, x1, x2, w =>
    (p_X9_wide w).bind fun ⟨r2, w1⟩ =>
    if lt32 x2 r2 then
      (p_X9_high w1).bind fun ⟨r4, w3⟩ =>
      (p_X9_wide w3).bind fun ⟨r6, w5⟩ =>
      if lt32 ((11 + (24 * x1)) + x2) ((((11 + (24 * ((r4 - 1) - x1))) + r6) - 1) - x2) then
        if inb ((11 + (24 * x1)) + x2) 1099 = false then none else
        if inb ((((11 + (24 * ((r4 - 1) - x1))) + r6) - 1) - x2) 1099 = false then none else
        if inb ((11 + (24 * x1)) + x2) 1099 = false then none else
        if inb ((((11 + (24 * ((r4 - 1) - x1))) + r6) - 1) - x2) 1099 = false then none else
        p_X9_turn_91 k2 (p_X9_turn_12 k2 n) x1 x2 (sA (sA w5 (gP w5 50 3) ((11 + (24 * x1)) + x2) (gA w5 (gP w5 50 3) ((((11 + (24 * ((r4 - 1) - x1))) + r6) - 1) - x2))) (gP (sA w5 (gP w5 50 3) ((11 + (24 * x1)) + x2) (gA w5 (gP w5 50 3) ((((11 + (24 * ((r4 - 1) - x1))) + r6) - 1) - x2))) 50 3) ((((11 + (24 * ((r4 - 1) - x1))) + r6) - 1) - x2) (gA w5 (gP w5 50 3) ((11 + (24 * x1)) + x2)))
      else
        p_X9_turn_91 k2 (p_X9_turn_12 k2 n) x1 x2 w5
    else
      p_X9_turn_97 k2 x1 w1
def p_X9_turn_2 : Nat → Int → Wd → Option (Wd)
  | 0, _, _ => none
  | n + 1, x1, w =>
    (p_X9_high w).bind fun ⟨r2, w1⟩ =>
    if lt32 x1 r2 then
      p_X9_turn_12 (p_X9_turn_2 n) FU x1 0 w1
    else
      some w1
def p_X9_turn (w : Wd) : Option (Wd) :=
  p_X9_turn_2 FU 0 w
def p_X9_takeWords_55 (x2 : Int) (w : Wd) : Option (Wd) :=
  if inb 10 1099 = false then none else
  if inb 10 1099 = false then none else
  some (sA w (gP w 50 3) 10 ((gA w (gP w 50 3) 10) - x2))
def p_X9_takeWords_9 : Nat → Int → Int → Wd → Option (Wd)
  | 0, _, _, _ => none
  | n + 1, x2, x3, w =>
    if inb 10 1099 = false then none else
    if lt32 (x3 + (13 * x2)) (319 + (13 * (gA w (gP w 50 3) 10))) then
      if inb (x3 + (13 * x2)) 1099 = false then none else
      if inb x3 1099 = false then none else
      p_X9_takeWords_9 n x2 (x3 + 1) (sA w (gP w 50 3) x3 (gA w (gP w 50 3) (x3 + (13 * x2))))
    else
      p_X9_takeWords_55 x2 w
def p_X9_takeWords (x1 : Int) (x2 : Int) (w : Wd) : Option (Wd) :=
  p_X9_takeWords_9 FU x2 (319 + (13 * x1)) w
def p_X9_takePart_61 (w : Wd) : Option (Wd) :=
  if inb 9 1099 = false then none else
  if inb 9 1099 = false then none else
  some (sA w (gP w 50 3) 9 ((gA w (gP w 50 3) 9) - 1))
def p_X9_takePart_22 : Nat → Int → Wd → Option (Wd)
  | 0, _, _ => none
  | n + 1, x2, w =>
    if inb 9 1099 = false then none else
    if lt32 (x2 + 2) (299 + (2 * (gA w (gP w 50 3) 9))) then
      if inb (x2 + 2) 1099 = false then none else
      if inb x2 1099 = false then none else
      p_X9_takePart_22 n (x2 + 1) (sA w (gP w 50 3) x2 (gA w (gP w 50 3) (x2 + 2)))
    else
      p_X9_takePart_61 w
def p_X9_takePart (x1 : Int) (w : Wd) : Option (Wd) :=
  (p_X9_firstOf x1 w).bind fun ⟨r2, w1⟩ =>
  (p_X9_manyOf x1 w1).bind fun ⟨r4, w3⟩ =>
  (p_X9_takeWords r2 r4 w3).bind fun w5 =>
  p_X9_takePart_22 FU (299 + (2 * x1)) w5
def p_X9_moveNow_218 (x2 : Int) (x3 : Int) (x4 : Int) (w : Wd) : Option (Wd) :=
  if inb ((299 + (2 * x2)) + 0) 1099 = false then none else
  if inb ((299 + (2 * x2)) + 1) 1099 = false then none else
  (some (sA (sA w (gP w 50 3) ((299 + (2 * x2)) + 0) x3) (gP (sA w (gP w 50 3) ((299 + (2 * x2)) + 0) x3) 50 3) ((299 + (2 * x2)) + 1) x4)).bind fun w3 =>
  if inb 9 1099 = false then none else
  if inb 9 1099 = false then none else
  if inb 10 1099 = false then none else
  (some (gA (sA w3 (gP w3 50 3) 9 ((gA w3 (gP w3 50 3) 9) + 1)) (gP (sA w3 (gP w3 50 3) 9 ((gA w3 (gP w3 50 3) 9) + 1)) 50 3) 10)).bind fun v6 =>
  if inb 10 1099 = false then none else
  (some (sA (sA w3 (gP w3 50 3) 9 ((gA w3 (gP w3 50 3) 9) + 1)) (gP (sA w3 (gP w3 50 3) 9 ((gA w3 (gP w3 50 3) 9) + 1)) 50 3) 10 (v6 + x4))).bind fun w7 =>
  some w7
def p_X9_moveNow_184 : Nat → Int → Int → Int → Int → Wd → Option (Wd)
  | 0, _, _, _, _, _ => none
  | n + 1, x2, x3, x4, x8, w =>
    if lt32 x8 (299 + (2 * x2)) then
      p_X9_moveNow_218 x2 x3 x4 w
    else
      if inb x8 1099 = false then none else
      if inb (x8 + 2) 1099 = false then none else
      p_X9_moveNow_184 n x2 x3 x4 (x8 + (-1)) (sA w (gP w 50 3) (x8 + 2) (gA w (gP w 50 3) x8))
def p_X9_moveNow_167 (x2 : Int) (x3 : Int) (x4 : Int) (w : Wd) : Option (Wd) :=
  if inb 9 1099 = false then none else
  p_X9_moveNow_184 FU x2 x3 x4 ((299 + (2 * (gA w (gP w 50 3) 9))) - 1) w
def p_X9_moveNow_137 : Nat → Int → Int → Int → Int → Int → Int → Wd → Option (Wd)
  | 0, _, _, _, _, _, _, _ => none
  | n + 1, x2, x3, x4, x5, x7, x8, w =>
    if lt32 x8 x5 then
      if inb x8 780 = false then none else
      if inb (x7 + x8) 1099 = false then none else
      p_X9_moveNow_137 n x2 x3 x4 x5 x7 (x8 + 1) (sA w (gP w 50 3) (x7 + x8) (gA w 56 x8))
    else
      p_X9_moveNow_167 x2 x3 x4 w
def p_X9_moveNow_134 (x2 : Int) (x3 : Int) (x4 : Int) (x5 : Int) (x7 : Int) (w : Wd) : Option (Wd) :=
  p_X9_moveNow_137 FU x2 x3 x4 x5 x7 0 w
def p_X9_moveNow_104 : Nat → Int → Int → Int → Int → Int → Int → Wd → Option (Wd)
  | 0, _, _, _, _, _, _, _ => none
  | n + 1, x2, x3, x4, x5, x7, x8, w =>
    if lt32 x8 x7 then
      p_X9_moveNow_134 x2 x3 x4 x5 x7 w
    else
      if inb x8 1099 = false then none else
      if inb (x8 + x5) 1099 = false then none else
      p_X9_moveNow_104 n x2 x3 x4 x5 x7 (x8 + (-1)) (sA w (gP w 50 3) (x8 + x5) (gA w (gP w 50 3) x8))
def p_X9_moveNow_67 (x1 : Int) (x2 : Int) (x3 : Int) (x4 : Int) (x5 : Int) (w : Wd) : Option (Wd) :=
  (p_X9_takePart x1 w).bind fun w1 =>
  (p_X9_firstOf x2 w1).bind fun ⟨r3, w2⟩ =>
  if inb 10 1099 = false then none else
  p_X9_moveNow_104 FU x2 x3 x4 x5 (319 + (13 * r3)) ((319 + (13 * (gA w2 (gP w2 50 3) 10))) - 1) w2
def p_X9_moveNow_37 : Nat → Int → Int → Int → Int → Int → Int → Int → Wd → Option (Wd)
  | 0, _, _, _, _, _, _, _, _ => none
  | n + 1, x1, x2, x3, x4, x5, x6, x7, w =>
    if lt32 x7 x5 then
      if inb (x6 + x7) 1099 = false then none else
      if inb x7 780 = false then none else
      p_X9_moveNow_37 n x1 x2 x3 x4 x5 x6 (x7 + 1) (sA w 56 x7 (gA w (gP w 50 3) (x6 + x7)))
    else
      p_X9_moveNow_67 x1 x2 x3 x4 x5 w
def p_X9_moveNow (x1 : Int) (x2 : Int) (w : Wd) : Option (Wd) :=
  (p_X9_kindOf x1 w).bind fun ⟨r2, w1⟩ =>
  (p_X9_manyOf x1 w1).bind fun ⟨r4, w3⟩ =>
  (p_X9_firstOf x1 w3).bind fun ⟨r6, w5⟩ =>
  p_X9_moveNow_37 FU x1 x2 r2 r4 (13 * r4) (319 + (13 * r6)) 0 w5
def p_X9_cut_102 (k2 : Int → Int → Int → Wd → Option (Wd)) (k13 : Int → Int → Int → Int → Wd → Option (Wd)) (x1 : Int) (x2 : Int) (x3 : Int) (x4 : Int) (s0 : Int) (s1 : Int) (s2 : Int) (w : Wd) : Option (Wd) :=
  (p_X9_putFlaw s2 s1 s0 w).bind fun w1 =>
  k13 x1 x2 x3 (x4 + 1) w1
def p_X9_cut_71 (k2 : Int → Int → Int → Wd → Option (Wd)) (k13 : Int → Int → Int → Int → Wd → Option (Wd)) (x1 : Int) (x2 : Int) (x3 : Int) (x4 : Int) (x5 : Int) (s0 : Int) (w : Wd) : Option (Wd) :=
  if eq32 s0 0 then
    p_X9_cut_102 k2 k13 x1 x2 x3 x4 0 x3 x4 w
  else
    if inb ((11 + (24 * x5)) + x4) 1099 = false then none else
    p_X9_cut_102 k2 k13 x1 x2 x3 x4 (gA w (gP w 50 3) ((11 + (24 * x5)) + x4)) x3 x4 w
def p_X9_cut_33 (k2 : Int → Int → Int → Wd → Option (Wd)) (k13 : Int → Int → Int → Int → Wd → Option (Wd)) (x1 : Int) (x2 : Int) (x3 : Int) (x4 : Int) (s0 : Int) (w : Wd) : Option (Wd) :=
  if eq32 x2 0 then
    (p_X9_high w).bind fun ⟨r2, w1⟩ =>
    if lt32 x3 (r2 - x1) then
      p_X9_cut_71 k2 k13 x1 x2 x3 x4 s0 1 w1
    else
      p_X9_cut_71 k2 k13 x1 x2 x3 x4 s0 0 w1
  else
    (p_X9_high w).bind fun ⟨r4, w3⟩ =>
    if lt32 s0 r4 then
      p_X9_cut_71 k2 k13 x1 x2 x3 x4 s0 1 w3
    else
      p_X9_cut_71 k2 k13 x1 x2 x3 x4 s0 0 w3
def p_X9_cut_111 (k2 : Int → Int → Int → Wd → Option (Wd)) (x1 : Int) (x2 : Int) (x3 : Int) (w : Wd) : Option (Wd) :=
  k2 x1 x2 (x3 + 1) w
def p_X9_cut_13 (k2 : Int → Int → Int → Wd → Option (Wd)) : Nat → Int → Int → Int → Int → Wd → Option (Wd)
  | 0, _, _, _, _, _ => none
  | n + 1, x1, x2, x3, x4, w =>
    (p_X9_wide w).bind fun ⟨r2, w1⟩ =>
    if lt32 x4 r2 then
      if eq32 x2 0 then
        p_X9_cut_33 k2 (p_X9_cut_13 k2 n) x1 x2 x3 x4 x3 w1
      else
        p_X9_cut_33 k2 (p_X9_cut_13 k2 n) x1 x2 x3 x4 (x3 + x1) w1
    else
      p_X9_cut_111 k2 x1 x2 x3 w1
def p_X9_cut_117 (x1 : Int) (w : Wd) : Option (Wd) :=
  if inb 1 1099 = false then none else
  if inb 1 1099 = false then none else
  some (sA w (gP w 50 3) 1 ((gA w (gP w 50 3) 1) - x1))
def p_X9_cut_2 : Nat → Int → Int → Int → Wd → Option (Wd)
  | 0, _, _, _, _ => none
  | n + 1, x1, x2, x3, w =>
    (p_X9_high w).bind fun ⟨r2, w1⟩ =>
    if lt32 x3 r2 then
      p_X9_cut_13 (p_X9_cut_2 n) FU x1 x2 x3 0 w1
    else
      p_X9_cut_117 x1 w1
def p_X9_cut (x1 : Int) (x2 : Int) (w : Wd) : Option (Wd) :=
  p_X9_cut_2 FU x1 x2 0 w
def p_X9_keepCarved_112 (k40 : Int → Wd → Option (Wd)) (x2 : Int) (w : Wd) : Option (Wd) :=
  k40 (x2 + 1) w
def p_X9_keepCarved_74 (k40 : Int → Wd → Option (Wd)) : Nat → Int → Int → Wd → Option (Wd)
  | 0, _, _, _ => none
  | n + 1, x2, x3, w =>
    if lt32 x3 13 then
      if inb ((319 + (13 * x2)) + x3) 1099 = false then none else
      if inb ((13 * x2) + x3) 780 = false then none else
      p_X9_keepCarved_74 k40 n x2 (x3 + 1) (sA w 59 ((13 * x2) + x3) (gA w (gP w 50 3) ((319 + (13 * x2)) + x3)))
    else
      p_X9_keepCarved_112 k40 x2 w
def p_X9_keepCarved_40 : Nat → Int → Wd → Option (Wd)
  | 0, _, _ => none
  | n + 1, x2, w =>
    if lt32 x2 (gF w 50 16) then
      if inb x2 60 = false then none else
      if inb x2 60 = false then none else
      if inb x2 60 = false then none else
      if inb x2 60 = false then none else
      (some (sA (sA w 57 x2 (gA w 53 x2)) 58 x2 (gA (sA w 57 x2 (gA w 53 x2)) 54 x2))).bind fun w1 =>
      p_X9_keepCarved_74 (p_X9_keepCarved_40 n) FU x2 0 w1
    else
      some w
def p_X9_keepCarved_35 (s0 : Int) (w : Wd) : Option (Wd) :=
  p_X9_keepCarved_40 FU 0 (sF w 50 16 s0)
def p_X9_keepCarved (w : Wd) : Option (Wd) :=
  (p_X9_lay w).bind fun ⟨r2, w1⟩ =>
  if inb 8 1099 = false then none else
  if eq32 (gA w1 (gP w1 50 3) 8) 0 then
    p_X9_keepCarved_35 0 w1
  else
    if inb 8 1099 = false then none else
    (p_X9_wordOfLetter ((gA w1 (gP w1 50 3) 8) - 1) w1).bind fun ⟨r6, w5⟩ =>
    p_X9_keepCarved_35 (r6 + 1) w5
def p_X9_isAsKept_95 (k55 : Int → Int → Int → Wd → Option (Int × Wd)) (x1 : Int) (x3 : Int) (s0 : Int) (w : Wd) : Option (Int × Wd) :=
  k55 x1 s0 (x3 + 1) w
def p_X9_isAsKept_55 : Nat → Int → Int → Int → Wd → Option (Int × Wd)
  | 0, _, _, _, _ => none
  | n + 1, x1, x2, x3, w =>
    (p_X9_bytesOf x1 w).bind fun ⟨r2, w1⟩ =>
    if lt32 x3 r2 then
      if eq32 x2 0 then
        zr x2 w1
      else
        (p_X9_byteOf x1 x3 w1).bind fun ⟨r4, w3⟩ =>
        if inb (((13 * x1) + 1) + x3) 780 = false then none else
        if eq32 r4 (gA w3 59 (((13 * x1) + 1) + x3)) then
          p_X9_isAsKept_95 (p_X9_isAsKept_55 n) x1 x3 1 w3
        else
          p_X9_isAsKept_95 (p_X9_isAsKept_55 n) x1 x3 0 w3
    else
      zr x2 w1
def p_X9_isAsKept_52 (x1 : Int) (s0 : Int) (w : Wd) : Option (Int × Wd) :=
  p_X9_isAsKept_55 FU x1 s0 0 w
def p_X9_isAsKept_51 (x1 : Int) (w : Wd) : Option (Int × Wd) :=
  p_X9_isAsKept_52 x1 0 w
def p_X9_isAsKept (x1 : Int) (w : Wd) : Option (Int × Wd) :=
  if inb x1 60 = false then none else
  if inb x1 60 = false then none else
  if eq32 (gA w 53 x1) (gA w 57 x1) then
    if inb x1 60 = false then none else
    if inb x1 60 = false then none else
    if eq32 (gA w 54 x1) (gA w 58 x1) then
      (p_X9_bytesOf x1 w).bind fun ⟨r2, w1⟩ =>
      if inb (13 * x1) 780 = false then none else
      if eq32 r2 (gA w1 59 (13 * x1)) then
        p_X9_isAsKept_52 x1 1 w1
      else
        p_X9_isAsKept_51 x1 w1
    else
      p_X9_isAsKept_51 x1 w
  else
    p_X9_isAsKept_51 x1 w
def p_X9_allStay_19 : Nat → Int → Int → Wd → Option (Int × Wd)
  | 0, _, _, _ => none
  | n + 1, x1, x2, w =>
    if lt32 x2 (gF w 50 16) then
      if eq32 x1 0 then
        zr x1 w
      else
        (p_X9_isAsKept x2 w).bind fun ⟨r2, w1⟩ =>
        p_X9_allStay_19 n r2 (x2 + 1) w1
    else
      zr x1 w
def p_X9_allStay_16 (s0 : Int) (w : Wd) : Option (Int × Wd) :=
  p_X9_allStay_19 FU s0 0 w
def p_X9_allStay (w : Wd) : Option (Int × Wd) :=
  (p_X9_lay w).bind fun ⟨r2, w1⟩ =>
  if lt32 r2 (gF w1 50 16) then
    p_X9_allStay_16 0 w1
  else
    p_X9_allStay_16 1 w1
def p_X9_appendFour_3 : Nat → Int → Int → Wd → Option (Wd)
  | 0, _, _, _ => none
  | n + 1, x1, x2, w =>
    if lt32 x2 0 then
      some w
    else
      if inb (gF w 50 18) 500 = false then none else
      (some (sF (sA w 60 (gF w 50 18) (i8 (i8 (sr32 x1 x2)))) 50 18 ((gF (sA w 60 (gF w 50 18) (i8 (i8 (sr32 x1 x2)))) 50 18) + 1))).bind fun w1 =>
      p_X9_appendFour_3 n x1 (x2 + (-8)) w1
def p_X9_appendFour (x1 : Int) (w : Wd) : Option (Wd) :=
  p_X9_appendFour_3 FU x1 24 w
def p_X9_append_19 (x1 : Int) (x2 : Int) (x3 : Int) (x4 : Int) (x5 : Int) (s0 : Int) (w : Wd) : Option (Int × Wd) :=
  (p_X9_passes s0 w).bind fun ⟨r2, w1⟩ =>
  if eq32 r2 0 then
    some (0, w1)
  else
    (p_X9_appendFour x1 w1).bind fun w3 =>
    (p_X9_appendFour x2 w3).bind fun w4 =>
    (p_X9_appendFour x3 w4).bind fun w5 =>
    (p_X9_appendFour x4 w5).bind fun w6 =>
    (p_X9_appendFour x5 w6).bind fun w7 =>
    some (gF w7 50 18, w7)
def p_X9_append (x1 : Int) (x2 : Int) (x3 : Int) (x4 : Int) (x5 : Int) (w : Wd) : Option (Int × Wd) :=
  if lt32 500 ((gF w 50 18) + 20) then
    p_X9_append_19 x1 x2 x3 x4 x5 0 w
  else
    p_X9_append_19 x1 x2 x3 x4 x5 1 w
def p_X9_truncate (x1 : Int) (w : Wd) : Option (Wd) :=
  (p_X9_in (w32 x1) 0 (w32 (gF w 50 18)) w).bind fun ⟨r2, w1⟩ =>
  (p_X9_passes r2 w1).bind fun ⟨r4, w3⟩ =>
  if eq32 r4 0 then
    some w3
  else
    some (sF w3 50 18 x1)
def p_X9_good (w : Wd) : Option (Int × Wd) :=
  if eq32 (gF w 50 24) 0 then
    some (1, w)
  else
    some (0, w)
def p_X9_errs (x1 : Int) (w : Wd) : Option (Wd) :=
  (p_X9_good w).bind fun ⟨r2, w1⟩ =>
  if eq32 r2 0 then
    some w1
  else
    (some (sF (sF w1 50 24 x1) 50 25 (gF (sF w1 50 24 x1) 50 21))).bind fun w3 =>
    some w3
def p_X9_byteAt (x1 : Int) (w : Wd) : Option (Int × Wd) :=
  if lt32 x1 (gF w 50 19) then
    if inb x1 500 = false then none else
    some (an32 (gA w 60 x1) 255, w)
  else
    some (-1, w)
def p_X9_scan_26 (k0 : Wd → Option (Wd)) (w : Wd) : Option (Wd) :=
  k0 (sF w 50 20 ((gF w 50 20) + 1))
def p_X9_scan_117 (w : Wd) : Option (Wd) :=
  some (sF w 50 22 1)
def p_X9_scan_83 : Nat → Wd → Option (Wd)
  | 0, _ => none
  | n + 1, w =>
    (p_X9_byteAt (gF w 50 20) w).bind fun ⟨r2, w1⟩ =>
    (p_X9_in (w32 r2) 97 122 w1).bind fun ⟨r4, w3⟩ =>
    if eq32 r4 0 then
      p_X9_scan_117 w3
    else
      p_X9_scan_83 n (sF w3 50 20 ((gF w3 50 20) + 1))
def p_X9_scan_207 (w : Wd) : Option (Wd) :=
  some (sF w 50 22 2)
def p_X9_scan_144 : Nat → Wd → Option (Wd)
  | 0, _ => none
  | n + 1, w =>
    (p_X9_byteAt (gF w 50 20) w).bind fun ⟨r2, w1⟩ =>
    (p_X9_in (w32 r2) 48 57 w1).bind fun ⟨r4, w3⟩ =>
    if eq32 r4 0 then
      p_X9_scan_207 w3
    else
      (p_X9_byteAt (gF w3 50 20) w3).bind fun ⟨r6, w5⟩ =>
      (some (sF (sF w5 50 23 (mn32 9999 (((10 * (gF w3 50 23)) + r6) - 48))) 50 20 ((gF (sF w5 50 23 (mn32 9999 (((10 * (gF w3 50 23)) + r6) - 48))) 50 20) + 1))).bind fun w7 =>
      p_X9_scan_144 n w7
def p_X9_scan_39 (w : Wd) : Option (Wd) :=
  (p_X9_byteAt (gF (sF w 50 21 (gF w 50 20)) 50 20) (sF w 50 21 (gF w 50 20))).bind fun ⟨r2, w1⟩ =>
  if eq32 r2 (-1) then
    some (sF w1 50 22 0)
  else
    (p_X9_in (w32 r2) 97 122 w1).bind fun ⟨r4, w3⟩ =>
    if eq32 r4 0 then
      (p_X9_in (w32 r2) 48 57 w3).bind fun ⟨r6, w5⟩ =>
      if eq32 r6 0 then
        (some (sF (sF w5 50 22 3) 50 23 r2)).bind fun w7 =>
        some (sF w7 50 20 ((gF w7 50 20) + 1))
      else
        p_X9_scan_144 FU (sF w5 50 23 0)
    else
      p_X9_scan_83 FU w3
def p_X9_scan_0 : Nat → Wd → Option (Wd)
  | 0, _ => none
  | n + 1, w =>
    (p_X9_byteAt (gF w 50 20) w).bind fun ⟨r2, w1⟩ =>
    if eq32 r2 32 then
      p_X9_scan_26 (p_X9_scan_0 n) w1
    else
      (p_X9_byteAt (gF w1 50 20) w1).bind fun ⟨r4, w3⟩ =>
      if eq32 r4 10 then
        p_X9_scan_26 (p_X9_scan_0 n) w3
      else
        p_X9_scan_39 w3
def p_X9_scan (w : Wd) : Option (Wd) :=
  p_X9_scan_0 FU w
def p_X9_goOn (w : Wd) : Option (Wd) :=
  (p_X9_good w).bind fun ⟨r2, w1⟩ =>
  if eq32 r2 0 then
    some w1
  else
    (p_X9_scan w1).bind fun w3 =>
    some w3
def p_X9_isWord_75 (o1 : Nat) (k39 : Int → Int → Wd → Option (Int × Wd)) (x3 : Int) (s0 : Int) (w : Wd) : Option (Int × Wd) :=
  k39 s0 (x3 + 1) w
def p_X9_isWord_39 (o1 : Nat) : Nat → Int → Int → Wd → Option (Int × Wd)
  | 0, _, _, _ => none
  | n + 1, x2, x3, w =>
    if lt32 x3 ((slen o1 : Nat) : Int) then
      if eq32 x2 0 then
        zr x2 w
      else
        if inb ((gF w 50 21) + x3) 500 = false then none else
        if inb x3 (slen o1) = false then none else
        if eq32 (gA w 60 ((gF w 50 21) + x3)) (sch o1 x3) then
          p_X9_isWord_75 o1 (p_X9_isWord_39 o1 n) x3 1 w
        else
          p_X9_isWord_75 o1 (p_X9_isWord_39 o1 n) x3 0 w
    else
      zr x2 w
def p_X9_isWord_36 (o1 : Nat) (s0 : Int) (w : Wd) : Option (Int × Wd) :=
  p_X9_isWord_39 o1 FU s0 0 w
def p_X9_isWord_35 (o1 : Nat) (w : Wd) : Option (Int × Wd) :=
  p_X9_isWord_36 o1 0 w
def p_X9_isWord (o1 : Nat) (w : Wd) : Option (Int × Wd) :=
  (p_X9_good w).bind fun ⟨r2, w1⟩ =>
  if eq32 r2 0 then
    p_X9_isWord_35 o1 w1
  else
    if eq32 (gF w1 50 22) 1 then
      if eq32 ((gF w1 50 20) - (gF w1 50 21)) ((slen o1 : Nat) : Int) then
        p_X9_isWord_36 o1 1 w1
      else
        p_X9_isWord_35 o1 w1
    else
      p_X9_isWord_35 o1 w1
def p_X9_numberHere_47 (x1 : Int) (w : Wd) : Option (Int × Wd) :=
  (p_X9_good w).bind fun ⟨r2, w1⟩ =>
  if eq32 r2 0 then
    some (x1, w1)
  else
    some (gF w1 50 23, w1)
def p_X9_numberHere_20 (x1 : Int) (x2 : Int) (w : Wd) : Option (Int × Wd) :=
  (p_X9_good w).bind fun ⟨r2, w1⟩ =>
  if eq32 r2 0 then
    p_X9_numberHere_47 x1 w1
  else
    (p_X9_in (w32 (gF w1 50 23)) (w32 x1) (w32 x2) w1).bind fun ⟨r4, w3⟩ =>
    if eq32 r4 0 then
      (p_X9_errs 2 w3).bind fun w5 =>
      p_X9_numberHere_47 x1 w5
    else
      p_X9_numberHere_47 x1 w3
def p_X9_numberHere (x1 : Int) (x2 : Int) (w : Wd) : Option (Int × Wd) :=
  (p_X9_good w).bind fun ⟨r2, w1⟩ =>
  if eq32 r2 0 then
    p_X9_numberHere_20 x1 x2 w1
  else
    if eq32 (gF w1 50 22) 2 then
      p_X9_numberHere_20 x1 x2 w1
    else
      (p_X9_errs 1 w1).bind fun w3 =>
      p_X9_numberHere_20 x1 x2 w3
def p_X9_number (x1 : Int) (x2 : Int) (w : Wd) : Option (Int × Wd) :=
  (p_X9_numberHere x1 x2 w).bind fun ⟨r2, w1⟩ =>
  (p_X9_goOn w1).bind fun w3 =>
  some (r2, w3)
def p_X9_takeWord_13 (o1 : Nat) (w : Wd) : Option (Wd) :=
  (p_X9_goOn w).bind fun w1 =>
  some w1
def p_X9_takeWord (o1 : Nat) (w : Wd) : Option (Wd) :=
  (p_X9_isWord o1 w).bind fun ⟨r2, w1⟩ =>
  if eq32 r2 0 then
    (p_X9_errs 1 w1).bind fun w3 =>
    p_X9_takeWord_13 o1 w3
  else
    p_X9_takeWord_13 o1 w1
def p_X9_semicolon_29 (w : Wd) : Option (Wd) :=
  (p_X9_goOn w).bind fun w1 =>
  some w1
def p_X9_semicolon_24 (w : Wd) : Option (Wd) :=
  (p_X9_errs 1 w).bind fun w1 =>
  p_X9_semicolon_29 w1
def p_X9_semicolon (w : Wd) : Option (Wd) :=
  (p_X9_good w).bind fun ⟨r2, w1⟩ =>
  if eq32 r2 0 then
    p_X9_semicolon_24 w1
  else
    if eq32 (gF w1 50 22) 3 then
      if eq32 (gF w1 50 23) 59 then
        p_X9_semicolon_29 w1
      else
        p_X9_semicolon_24 w1
    else
      p_X9_semicolon_24 w1
def p_X9_errsIf (x1 : Int) (x2 : Int) (w : Wd) : Option (Wd) :=
  (p_X9_good w).bind fun ⟨r2, w1⟩ =>
  if eq32 r2 0 then
    some w1
  else
    if eq32 x1 0 then
      some w1
    else
      (p_X9_errs x2 w1).bind fun w3 =>
      some w3
def p_X9_isSign (x1 : Int) (w : Wd) : Option (Int × Wd) :=
  (p_X9_good w).bind fun ⟨r2, w1⟩ =>
  if eq32 r2 0 then
    some (0, w1)
  else
    if eq32 (gF w1 50 22) 3 then
      if eq32 (gF w1 50 23) x1 then
        some (1, w1)
      else
        some (0, w1)
    else
      some (0, w1)
def p_X9_isW_16 (w : Wd) : Option (Int × Wd) :=
  some (1, w)
def p_X9_isW (w : Wd) : Option (Int × Wd) :=
  if eq32 (gF w 50 22) 1 then
    p_X9_isW_16 w
  else
    if eq32 (gF w 50 22) 2 then
      p_X9_isW_16 w
    else
      some (0, w)
def p_X9_parseSlab (w : Wd) : Option (Wd) :=
  (p_X9_takeWord 0 w).bind fun w1 =>
  (p_X9_number 4 24 w1).bind fun ⟨r4, w3⟩ =>
  if inb 0 1099 = false then none else
  (p_X9_number 2 12 (sA w3 (gP w1 50 3) 0 r4)).bind fun ⟨r7, w6⟩ =>
  if inb 1 1099 = false then none else
  (some (sA w6 (gP (sA w3 (gP w1 50 3) 0 r4) 50 3) 1 r7)).bind fun w8 =>
  (p_X9_semicolon w8).bind fun w9 =>
  some w9
def p_X9_parseFlaws_97 (k2 : Int → Wd → Option (Wd)) (w : Wd) : Option (Wd) :=
  (p_X9_goOn w).bind fun w1 =>
  (p_X9_isSign 44 w1).bind fun ⟨r3, w2⟩ =>
  k2 r3 w2
def p_X9_parseFlaws_79 (k2 : Int → Wd → Option (Wd)) (x2 : Int) (x3 : Int) (s0 : Int) (w : Wd) : Option (Wd) :=
  (p_X9_errsIf s0 3 w).bind fun w1 =>
  (p_X9_good w1).bind fun ⟨r3, w2⟩ =>
  if eq32 r3 0 then
    p_X9_parseFlaws_97 k2 w2
  else
    (p_X9_putFlaw x2 x3 1 w2).bind fun w4 =>
    p_X9_parseFlaws_97 k2 w4
def p_X9_parseFlaws_78 (k2 : Int → Wd → Option (Wd)) (x2 : Int) (x3 : Int) (w : Wd) : Option (Wd) :=
  p_X9_parseFlaws_79 k2 x2 x3 0 w
def p_X9_parseFlaws_37 (k2 : Int → Wd → Option (Wd)) (x2 : Int) (s0 : Int) (w : Wd) : Option (Wd) :=
  (p_X9_errsIf s0 5 w).bind fun w1 =>
  (p_X9_goOn w1).bind fun w2 =>
  (p_X9_high w2).bind fun ⟨r4, w3⟩ =>
  (p_X9_numberHere 0 (r4 - 1) w3).bind fun ⟨r6, w5⟩ =>
  (p_X9_good w5).bind fun ⟨r8, w7⟩ =>
  if eq32 r8 0 then
    p_X9_parseFlaws_78 k2 x2 r6 w7
  else
    (p_X9_hasFlaw x2 r6 w7).bind fun ⟨r10, w9⟩ =>
    if eq32 r10 0 then
      p_X9_parseFlaws_78 k2 x2 r6 w9
    else
      p_X9_parseFlaws_79 k2 x2 r6 1 w9
def p_X9_parseFlaws_111 (w : Wd) : Option (Wd) :=
  (p_X9_semicolon w).bind fun w1 =>
  some w1
def p_X9_parseFlaws_2 : Nat → Int → Wd → Option (Wd)
  | 0, _, _ => none
  | n + 1, x1, w =>
    if eq32 x1 0 then
      p_X9_parseFlaws_111 w
    else
      (p_X9_goOn w).bind fun w1 =>
      (p_X9_wide w1).bind fun ⟨r3, w2⟩ =>
      (p_X9_numberHere 0 (r3 - 1) w2).bind fun ⟨r5, w4⟩ =>
      (p_X9_flaws w4).bind fun ⟨r7, w6⟩ =>
      if eq32 r7 40 then
        p_X9_parseFlaws_37 (p_X9_parseFlaws_2 n) r5 1 w6
      else
        p_X9_parseFlaws_37 (p_X9_parseFlaws_2 n) r5 0 w6
def p_X9_parseFlaws (w : Wd) : Option (Wd) :=
  p_X9_parseFlaws_2 FU 1 w
def p_X9_parseGap (w : Wd) : Option (Wd) :=
  (p_X9_errsIf (gF w 50 26) 3 w).bind fun w1 =>
  (p_X9_goOn (sF w1 50 26 1)).bind fun w2 =>
  (p_X9_number 0 3 w2).bind fun ⟨r5, w4⟩ =>
  if inb 2 1099 = false then none else
  (p_X9_semicolon (sA w4 (gP w2 50 3) 2 r5)).bind fun w6 =>
  some w6
def p_X9_parseChisel (w : Wd) : Option (Wd) :=
  (p_X9_errsIf (gF w 50 27) 3 w).bind fun w1 =>
  (p_X9_goOn (sF w1 50 27 1)).bind fun w2 =>
  (p_X9_number 1 999 w2).bind fun ⟨r5, w4⟩ =>
  if inb 3 1099 = false then none else
  (p_X9_number 0 99 (sA w4 (gP w2 50 3) 3 r5)).bind fun ⟨r8, w7⟩ =>
  if inb 4 1099 = false then none else
  (some (sA w7 (gP (sA w4 (gP w2 50 3) 3 r5) 50 3) 4 r8)).bind fun w9 =>
  (p_X9_semicolon w9).bind fun w10 =>
  some w10
def p_X9_addWord_70 (w : Wd) : Option (Wd) :=
  if inb 10 1099 = false then none else
  if inb 10 1099 = false then none else
  some (sA w (gP w 50 3) 10 ((gA w (gP w 50 3) 10) + 1))
def p_X9_addWord_35 : Nat → Int → Int → Wd → Option (Wd)
  | 0, _, _, _ => none
  | n + 1, x1, x2, w =>
    if lt32 x2 (gF w 50 20) then
      if inb x2 500 = false then none else
      if inb (((x1 + 1) + x2) - (gF w 50 21)) 1099 = false then none else
      p_X9_addWord_35 n x1 (x2 + 1) (sA w (gP w 50 3) (((x1 + 1) + x2) - (gF w 50 21)) (gA w 60 x2))
    else
      p_X9_addWord_70 w
def p_X9_addWord (w : Wd) : Option (Wd) :=
  if inb 10 1099 = false then none else
  if inb (319 + (13 * (gA w (gP w 50 3) 10))) 1099 = false then none else
  p_X9_addWord_35 FU (319 + (13 * (gA w (gP w 50 3) 10))) (gF (sA w (gP w 50 3) (319 + (13 * (gA w (gP w 50 3) 10))) ((gF w 50 20) - (gF w 50 21))) 50 21) (sA w (gP w 50 3) (319 + (13 * (gA w (gP w 50 3) 10))) ((gF w 50 20) - (gF w 50 21)))
def p_X9_takeW_90 (w : Wd) : Option (Wd) :=
  (p_X9_goOn w).bind fun w1 =>
  some w1
def p_X9_takeW_75 (s0 : Int) (w : Wd) : Option (Wd) :=
  (p_X9_errsIf s0 5 w).bind fun w1 =>
  (p_X9_good w1).bind fun ⟨r3, w2⟩ =>
  if eq32 r3 0 then
    p_X9_takeW_90 w2
  else
    (p_X9_addWord w2).bind fun w4 =>
    p_X9_takeW_90 w4
def p_X9_takeW_53 (s0 : Int) (w : Wd) : Option (Wd) :=
  (p_X9_errsIf s0 4 w).bind fun w1 =>
  if inb 10 1099 = false then none else
  if eq32 (gA w1 (gP w1 50 3) 10) 60 then
    p_X9_takeW_75 1 w1
  else
    p_X9_takeW_75 0 w1
def p_X9_takeW_27 (s0 : Int) (w : Wd) : Option (Wd) :=
  (p_X9_errsIf s0 1 w).bind fun w1 =>
  (p_X9_wide w1).bind fun ⟨r3, w2⟩ =>
  if lt32 r3 ((gF w1 50 20) - (gF w1 50 21)) then
    p_X9_takeW_53 1 w2
  else
    p_X9_takeW_53 0 w2
def p_X9_takeW_22 (w : Wd) : Option (Wd) :=
  p_X9_takeW_27 1 w
def p_X9_takeW (w : Wd) : Option (Wd) :=
  (p_X9_isW w).bind fun ⟨r2, w1⟩ =>
  if eq32 r2 0 then
    p_X9_takeW_22 w1
  else
    if lt32 12 ((gF w1 50 20) - (gF w1 50 21)) then
      p_X9_takeW_22 w1
    else
      p_X9_takeW_27 0 w1
def p_X9_addPartOf (x1 : Int) (x2 : Int) (w : Wd) : Option (Wd) :=
  if inb 9 1099 = false then none else
  if inb ((299 + (2 * (gA w (gP w 50 3) 9))) + 0) 1099 = false then none else
  if inb 10 1099 = false then none else
  (some (gA (sA w (gP w 50 3) ((299 + (2 * (gA w (gP w 50 3) 9))) + 0) x1) (gP (sA w (gP w 50 3) ((299 + (2 * (gA w (gP w 50 3) 9))) + 0) x1) 50 3) 10)).bind fun v5 =>
  if inb ((299 + (2 * (gA w (gP w 50 3) 9))) + 1) 1099 = false then none else
  (some (sA (sA w (gP w 50 3) ((299 + (2 * (gA w (gP w 50 3) 9))) + 0) x1) (gP (sA w (gP w 50 3) ((299 + (2 * (gA w (gP w 50 3) 9))) + 0) x1) 50 3) ((299 + (2 * (gA w (gP w 50 3) 9))) + 1) (v5 - x2))).bind fun w6 =>
  if inb 9 1099 = false then none else
  if inb 9 1099 = false then none else
  some (sA w6 (gP w6 50 3) 9 ((gA w6 (gP w6 50 3) 9) + 1))
def p_X9_parsePart_61 (x1 : Int) (x2 : Int) (w : Wd) : Option (Wd) :=
  (p_X9_semicolon w).bind fun w1 =>
  (p_X9_good w1).bind fun ⟨r3, w2⟩ =>
  if eq32 r3 0 then
    some w2
  else
    (p_X9_addPartOf x1 x2 w2).bind fun w4 =>
    some w4
def p_X9_parsePart_38 : Nat → Int → Int → Wd → Option (Wd)
  | 0, _, _, _ => none
  | n + 1, x1, x2, w =>
    (p_X9_good w).bind fun ⟨r2, w1⟩ =>
    if eq32 r2 0 then
      p_X9_parsePart_61 x1 x2 w1
    else
      (p_X9_isSign 59 w1).bind fun ⟨r4, w3⟩ =>
      if eq32 r4 0 then
        (p_X9_takeW w3).bind fun w5 =>
        p_X9_parsePart_38 n x1 x2 w5
      else
        p_X9_parsePart_61 x1 x2 w3
def p_X9_parsePart_18 (x1 : Int) (s0 : Int) (w : Wd) : Option (Wd) :=
  (p_X9_errsIf s0 5 w).bind fun w1 =>
  (p_X9_goOn w1).bind fun w2 =>
  if inb 10 1099 = false then none else
  (p_X9_takeW w2).bind fun w4 =>
  p_X9_parsePart_38 FU x1 (gA w2 (gP w2 50 3) 10) w4
def p_X9_parsePart (x1 : Int) (w : Wd) : Option (Wd) :=
  if inb 9 1099 = false then none else
  if eq32 (gA w (gP w 50 3) 9) 10 then
    p_X9_parsePart_18 x1 1 w
  else
    p_X9_parsePart_18 x1 0 w
def p_X9_parseStatement (w : Wd) : Option (Wd) :=
  (p_X9_isWord 2 w).bind fun ⟨r2, w1⟩ =>
  if eq32 r2 0 then
    (p_X9_isWord 4 w1).bind fun ⟨r4, w3⟩ =>
    if eq32 r4 0 then
      (p_X9_isWord 5 w3).bind fun ⟨r6, w5⟩ =>
      if eq32 r6 0 then
        (p_X9_isWord 6 w5).bind fun ⟨r8, w7⟩ =>
        if eq32 r8 0 then
          (p_X9_isWord 7 w7).bind fun ⟨r10, w9⟩ =>
          if eq32 r10 0 then
            (p_X9_isWord 8 w9).bind fun ⟨r12, w11⟩ =>
            if eq32 r12 0 then
              (p_X9_errs 1 w11).bind fun w13 =>
              some w13
            else
              (p_X9_parsePart 2 w11).bind fun w14 =>
              some w14
          else
            (p_X9_parsePart 1 w9).bind fun w15 =>
            some w15
        else
          (p_X9_parsePart 0 w7).bind fun w16 =>
          some w16
      else
        (p_X9_parseChisel w5).bind fun w17 =>
        some w17
    else
      (p_X9_parseGap w3).bind fun w18 =>
      some w18
  else
    (p_X9_parseFlaws w1).bind fun w19 =>
    some w19
def p_X9_beginText (w : Wd) : Option (Wd) :=
  (some (sF (sF w 50 19 (gF w 50 18)) 50 18 0)).bind fun w1 =>
  (some (sF (sF w1 50 20 0) 50 24 0)).bind fun w2 =>
  (some (sP (sF w2 50 25 (-1)) 50 3 52)).bind fun w3 =>
  some w3
def p_X9_rememberOf_85 (o1 : Nat) (w : Wd) : Option (Wd) :=
  some (sF w 50 31 ((gF w 50 31) + 1))
def p_X9_rememberOf_54 (o1 : Nat) : Nat → Int → Wd → Option (Wd)
  | 0, _, _ => none
  | n + 1, x2, w =>
    if lt32 x2 1099 then
      if inb x2 (ln o1) = false then none else
      if inb ((1099 * (gF w 50 31)) + x2) 6594 = false then none else
      p_X9_rememberOf_54 o1 n (x2 + 1) (sA w 63 ((1099 * (gF w 50 31)) + x2) (gA w o1 x2))
    else
      p_X9_rememberOf_85 o1 w
def p_X9_rememberOf_52 (o1 : Nat) (w : Wd) : Option (Wd) :=
  p_X9_rememberOf_54 o1 FU 0 w
def p_X9_rememberOf_42 (o1 : Nat) (w : Wd) : Option (Wd) :=
  p_X9_rememberOf_52 o1 (sF w 50 31 ((gF w 50 31) - 1))
def p_X9_rememberOf_13 (o1 : Nat) : Nat → Int → Wd → Option (Wd)
  | 0, _, _ => none
  | n + 1, x2, w =>
    if lt32 x2 6594 then
      if inb x2 6594 = false then none else
      if inb (x2 - 1099) 6594 = false then none else
      p_X9_rememberOf_13 o1 n (x2 + 1) (sA w 63 (x2 - 1099) (gA w 63 x2))
    else
      p_X9_rememberOf_42 o1 w
def p_X9_rememberOf (o1 : Nat) (w : Wd) : Option (Wd) :=
  if eq32 (gF w 50 31) 6 then
    p_X9_rememberOf_13 o1 FU 1099 w
  else
    p_X9_rememberOf_52 o1 w
def p_X9_remember (w : Wd) : Option (Wd) :=
  (p_X9_rememberOf 51 w).bind fun w1 =>
  some w1
def p_X9_takeDraft_2 : Nat → Int → Wd → Option (Wd)
  | 0, _, _ => none
  | n + 1, x1, w =>
    if lt32 x1 1099 then
      if inb x1 1099 = false then none else
      if inb x1 1099 = false then none else
      p_X9_takeDraft_2 n (x1 + 1) (sA w 51 x1 (gA w 52 x1))
    else
      some w
def p_X9_takeDraft (w : Wd) : Option (Wd) :=
  p_X9_takeDraft_2 FU 0 w
def p_X9_load_52 (w : Wd) : Option (Int × Wd) :=
  if inb 3 1099 = false then none else
  if inb 5 1099 = false then none else
  (some (sP (sA w (gP w 50 3) 5 (gA w (gP w 50 3) 3)) 50 3 51)).bind fun w3 =>
  (p_X9_good w3).bind fun ⟨r5, w4⟩ =>
  if eq32 r5 0 then
    some (-4, w4)
  else
    (p_X9_remember w4).bind fun w6 =>
    (p_X9_takeDraft w6).bind fun w7 =>
    (p_X9_lay w7).bind fun ⟨r9, w8⟩ =>
    some (r9, w8)
def p_X9_load_31 : Nat → Wd → Option (Int × Wd)
  | 0, _ => none
  | n + 1, w =>
    (p_X9_good w).bind fun ⟨r2, w1⟩ =>
    if eq32 r2 0 then
      p_X9_load_52 w1
    else
      if eq32 (gF w1 50 22) 0 then
        p_X9_load_52 w1
      else
        (p_X9_parseStatement w1).bind fun w3 =>
        p_X9_load_31 n w3
def p_X9_load (w : Wd) : Option (Int × Wd) :=
  (some (sF (sF w 50 0 0) 50 26 0)).bind fun w1 =>
  (p_X9_beginText (sF w1 50 27 0)).bind fun w2 =>
  (p_X9_layPlain w2).bind fun w3 =>
  (p_X9_scan w3).bind fun w4 =>
  (p_X9_parseSlab w4).bind fun w5 =>
  p_X9_load_31 FU w5
def p_X9_errorCode (w : Wd) : Option (Int × Wd) :=
  some (gF (sF w 50 0 0) 50 24, sF w 50 0 0)
def p_X9_errorPosition (w : Wd) : Option (Int × Wd) :=
  some (gF (sF w 50 0 0) 50 25, sF w 50 0 0)
def p_X9_property (x1 : Int) (w : Wd) : Option (Int × Wd) :=
  (p_X9_in (w32 x1) 0 13 w).bind fun ⟨r2, w1⟩ =>
  (p_X9_passes r2 w1).bind fun ⟨r4, w3⟩ =>
  if eq32 r4 0 then
    some (0, w3)
  else
    (p_X9_lay w3).bind fun ⟨r6, w5⟩ =>
    if lt32 x1 0 then
      if inb 7 1099 = false then none else
      some (gA w5 51 7, w5)
    else if lt32 12 x1 then
      if inb 7 1099 = false then none else
      some (gA w5 51 7, w5)
    else
    if lt32 x1 6 then
      if lt32 x1 3 then
        if lt32 x1 1 then
          (p_X9_wide w5).bind fun ⟨r18, w17⟩ =>
          some (r18, w17)
        else
          if lt32 x1 2 then
            (p_X9_high w5).bind fun ⟨r22, w21⟩ =>
            some (r22, w21)
          else
            (p_X9_flaws w5).bind fun ⟨r24, w23⟩ =>
            some (r24, w23)
      else
        if lt32 x1 4 then
          if inb 2 1099 = false then none else
          some (gA w5 51 2, w5)
        else
          if lt32 x1 5 then
            if inb 9 1099 = false then none else
            some (gA w5 51 9, w5)
          else
            if inb 10 1099 = false then none else
            some (gA w5 51 10, w5)
    else
      if lt32 x1 9 then
        if lt32 x1 7 then
          some (r6, w5)
        else
          if lt32 x1 8 then
            (p_X9_letters w5).bind fun ⟨r36, w35⟩ =>
            some (r36, w35)
          else
            if inb 8 1099 = false then none else
            some (gA w5 51 8, w5)
      else
        if lt32 x1 11 then
          if lt32 x1 10 then
            if inb 5 1099 = false then none else
            some (gA w5 51 5, w5)
          else
            if inb 3 1099 = false then none else
            some (gA w5 51 3, w5)
        else
          if lt32 x1 12 then
            if inb 4 1099 = false then none else
            some (gA w5 51 4, w5)
          else
            if inb 6 1099 = false then none else
            some (gA w5 51 6, w5)
def p_X9_part (x1 : Int) (x2 : Int) (w : Wd) : Option (Int × Wd) :=
  (p_X9_isPart x1 w).bind fun ⟨r2, w1⟩ =>
  (p_X9_in (w32 x2) 0 5 w1).bind fun ⟨r4, w3⟩ =>
  (p_X9_passes2 r2 r4 w3).bind fun ⟨r6, w5⟩ =>
  if eq32 r6 0 then
    some (0, w5)
  else
    (p_X9_firstOf x1 w5).bind fun ⟨r8, w7⟩ =>
    (p_X9_manyOf x1 w7).bind fun ⟨r10, w9⟩ =>
    (p_X9_lay w9).bind fun ⟨r12, w11⟩ =>
    if lt32 x2 0 then
      if eq32 (mx32 0 (mn32 r10 (r12 - r8))) 0 then
        some (-1, w11)
      else
        if inb ((r8 + (mx32 0 (mn32 r10 (r12 - r8)))) - 1) 60 = false then none else
        some (gA w11 53 ((r8 + (mx32 0 (mn32 r10 (r12 - r8)))) - 1), w11)
    else if lt32 4 x2 then
      if eq32 (mx32 0 (mn32 r10 (r12 - r8))) 0 then
        some (-1, w11)
      else
        if inb ((r8 + (mx32 0 (mn32 r10 (r12 - r8)))) - 1) 60 = false then none else
        some (gA w11 53 ((r8 + (mx32 0 (mn32 r10 (r12 - r8)))) - 1), w11)
    else
    if lt32 x2 2 then
      if lt32 x2 1 then
        (p_X9_kindOf x1 w11).bind fun ⟨r22, w21⟩ =>
        some (r22, w21)
      else
        some (r8, w11)
    else
      if lt32 x2 3 then
        some (r10, w11)
      else
        if lt32 x2 4 then
          some (mx32 0 (mn32 r10 (r12 - r8)), w11)
        else
          if eq32 (mx32 0 (mn32 r10 (r12 - r8))) 0 then
            some (-1, w11)
          else
            if inb r8 60 = false then none else
            some (gA w11 53 r8, w11)
def p_X9_carvedOf (x1 : Int) (w : Wd) : Option (Int × Wd) :=
  (p_X9_bytesOf x1 w).bind fun ⟨r2, w1⟩ =>
  if inb 8 1099 = false then none else
  (p_X9_lettersAhead x1 w1).bind fun ⟨r4, w3⟩ =>
  some (mx32 0 (mn32 r2 ((gA w1 51 8) - r4)), w3)
def p_X9_word_36 (x1 : Int) (x2 : Int) (s0 : Int) (w : Wd) : Option (Int × Wd) :=
  if lt32 x2 0 then
    if eq32 s0 0 then
      some (0, w)
    else
      (p_X9_carvedOf x1 w).bind fun ⟨r2, w1⟩ =>
      some (r2, w1)
  else if lt32 4 x2 then
    if eq32 s0 0 then
      some (0, w)
    else
      (p_X9_carvedOf x1 w).bind fun ⟨r4, w3⟩ =>
      some (r4, w3)
  else
  if lt32 x2 2 then
    if lt32 x2 1 then
      (p_X9_partOf x1 w).bind fun ⟨r14, w13⟩ =>
      some (r14, w13)
    else
      (p_X9_bytesOf x1 w).bind fun ⟨r16, w15⟩ =>
      some (r16, w15)
  else
    if lt32 x2 3 then
      if eq32 s0 0 then
        some (-1, w)
      else
        if inb x1 60 = false then none else
        some (gA w 53 x1, w)
    else
      if lt32 x2 4 then
        if eq32 s0 0 then
          some (-1, w)
        else
          if inb x1 60 = false then none else
          some (gA w 54 x1, w)
      else
        if eq32 s0 0 then
          some (0, w)
        else
          (p_X9_strokesOfWord x1 w).bind fun ⟨r22, w21⟩ =>
          some (r22, w21)
def p_X9_word (x1 : Int) (x2 : Int) (w : Wd) : Option (Int × Wd) :=
  (p_X9_isWordNumber x1 w).bind fun ⟨r2, w1⟩ =>
  (p_X9_in (w32 x2) 0 5 w1).bind fun ⟨r4, w3⟩ =>
  (p_X9_passes2 r2 r4 w3).bind fun ⟨r6, w5⟩ =>
  if eq32 r6 0 then
    some (0, w5)
  else
    (p_X9_lay w5).bind fun ⟨r8, w7⟩ =>
    if lt32 x1 r8 then
      p_X9_word_36 x1 x2 1 w7
    else
      p_X9_word_36 x1 x2 0 w7
def p_X9_letter_33 (x1 : Int) (x2 : Int) (s0 : Int) (w : Wd) : Option (Int × Wd) :=
  (p_X9_passes s0 w).bind fun ⟨r2, w1⟩ =>
  if eq32 r2 0 then
    some (0, w1)
  else
    (p_X9_byteOf x1 x2 w1).bind fun ⟨r4, w3⟩ =>
    some (r4, w3)
def p_X9_letter_32 (x1 : Int) (x2 : Int) (w : Wd) : Option (Int × Wd) :=
  p_X9_letter_33 x1 x2 0 w
def p_X9_letter (x1 : Int) (x2 : Int) (w : Wd) : Option (Int × Wd) :=
  (p_X9_isWordNumber x1 w).bind fun ⟨r2, w1⟩ =>
  if eq32 r2 0 then
    p_X9_letter_32 x1 x2 w1
  else
    (p_X9_bytesOf x1 w1).bind fun ⟨r4, w3⟩ =>
    (p_X9_in (w32 x2) 0 (w32 (r4 - 1)) w3).bind fun ⟨r6, w5⟩ =>
    if eq32 r6 0 then
      p_X9_letter_32 x1 x2 w5
    else
      p_X9_letter_33 x1 x2 1 w5
def p_X9_cell (x1 : Int) (x2 : Int) (w : Wd) : Option (Int × Wd) :=
  (p_X9_isCell x1 x2 w).bind fun ⟨r2, w1⟩ =>
  (p_X9_passes r2 w1).bind fun ⟨r4, w3⟩ =>
  if eq32 r4 0 then
    some (0, w3)
  else
    (p_X9_lay w3).bind fun ⟨r6, w5⟩ =>
    (p_X9_wordIn x1 x2 w5).bind fun ⟨r8, w7⟩ =>
    (p_X9_hasFlaw x1 x2 w7).bind fun ⟨r10, w9⟩ =>
    if eq32 r10 0 then
      if eq32 r8 (-1) then
        some (0, w9)
      else
        if inb r8 60 = false then none else
        (p_X9_byteOf r8 (x1 - (gA w9 54 r8)) w9).bind fun ⟨r12, w11⟩ =>
        some (r12, w11)
    else
      some (-1, w9)
def p_X9_wordAt (x1 : Int) (x2 : Int) (w : Wd) : Option (Int × Wd) :=
  (p_X9_isCell x1 x2 w).bind fun ⟨r2, w1⟩ =>
  (p_X9_passes r2 w1).bind fun ⟨r4, w3⟩ =>
  if eq32 r4 0 then
    some (0, w3)
  else
    (p_X9_lay w3).bind fun ⟨r6, w5⟩ =>
    (p_X9_wordIn x1 x2 w5).bind fun ⟨r8, w7⟩ =>
    some (r8, w7)
def p_X9_isRow (x1 : Int) (w : Wd) : Option (Int × Wd) :=
  (p_X9_high w).bind fun ⟨r2, w1⟩ =>
  (p_X9_in (w32 x1) 0 (w32 (r2 - 1)) w1).bind fun ⟨r4, w3⟩ =>
  zr r4 w3
def p_X9_freeIn_60 (k24 : Int → Int → Int → Wd → Option (Int × Wd)) (x1 : Int) (x4 : Int) (s0 : Int) (s1 : Int) (w : Wd) : Option (Int × Wd) :=
  k24 x1 (s1 + s0) (x4 + 1) w
def p_X9_freeIn_59 (k24 : Int → Int → Int → Wd → Option (Int × Wd)) (x1 : Int) (x4 : Int) (s0 : Int) (w : Wd) : Option (Int × Wd) :=
  p_X9_freeIn_60 k24 x1 x4 0 s0 w
def p_X9_freeIn_24 : Nat → Int → Int → Int → Wd → Option (Int × Wd)
  | 0, _, _, _, _ => none
  | n + 1, x1, x3, x4, w =>
    (p_X9_wide w).bind fun ⟨r2, w1⟩ =>
    if lt32 x4 r2 then
      (p_X9_hasFlaw x4 x1 w1).bind fun ⟨r4, w3⟩ =>
      if eq32 r4 0 then
        (p_X9_wordIn x4 x1 w3).bind fun ⟨r6, w5⟩ =>
        if eq32 r6 (-1) then
          p_X9_freeIn_60 (p_X9_freeIn_24 n) x1 x4 1 x3 w5
        else
          p_X9_freeIn_59 (p_X9_freeIn_24 n) x1 x4 x3 w5
      else
        p_X9_freeIn_59 (p_X9_freeIn_24 n) x1 x4 x3 w3
    else
      some (x3, w1)
def p_X9_freeIn (x1 : Int) (w : Wd) : Option (Int × Wd) :=
  (p_X9_isRow x1 w).bind fun ⟨r2, w1⟩ =>
  (p_X9_passes r2 w1).bind fun ⟨r4, w3⟩ =>
  if eq32 r4 0 then
    some (0, w3)
  else
    (p_X9_lay w3).bind fun ⟨r6, w5⟩ =>
    p_X9_freeIn_24 FU x1 0 0 w5
def p_X9_longestRun_47 (k21 : Int → Int → Int → Int → Wd → Option (Int × Wd)) (x1 : Int) (x2 : Int) (x4 : Int) (s0 : Int) (w : Wd) : Option (Int × Wd) :=
  k21 x1 (mx32 x2 s0) s0 (x4 + 1) w
def p_X9_longestRun_21 : Nat → Int → Int → Int → Int → Wd → Option (Int × Wd)
  | 0, _, _, _, _, _ => none
  | n + 1, x1, x2, x3, x4, w =>
    (p_X9_wide w).bind fun ⟨r2, w1⟩ =>
    if lt32 x4 r2 then
      (p_X9_hasFlaw x4 x1 w1).bind fun ⟨r4, w3⟩ =>
      if eq32 r4 0 then
        p_X9_longestRun_47 (p_X9_longestRun_21 n) x1 x2 x4 (x3 + 1) w3
      else
        p_X9_longestRun_47 (p_X9_longestRun_21 n) x1 x2 x4 0 w3
    else
      some (x2, w1)
def p_X9_longestRun (x1 : Int) (w : Wd) : Option (Int × Wd) :=
  (p_X9_isRow x1 w).bind fun ⟨r2, w1⟩ =>
  (p_X9_passes r2 w1).bind fun ⟨r4, w3⟩ =>
  if eq32 r4 0 then
    some (0, w3)
  else
    p_X9_longestRun_21 FU x1 0 0 0 w3
def p_X9_rowsUsed_46 (k14 : Int → Int → Int → Wd → Option (Int × Wd)) (x1 : Int) (x3 : Int) (s0 : Int) (s1 : Int) (w : Wd) : Option (Int × Wd) :=
  k14 x1 (s1 + s0) (x3 + 1) w
def p_X9_rowsUsed_41 (k14 : Int → Int → Int → Wd → Option (Int × Wd)) (x1 : Int) (x3 : Int) (s0 : Int) (w : Wd) : Option (Int × Wd) :=
  p_X9_rowsUsed_46 k14 x1 x3 1 s0 w
def p_X9_rowsUsed_14 : Nat → Int → Int → Int → Wd → Option (Int × Wd)
  | 0, _, _, _, _ => none
  | n + 1, x1, x2, x3, w =>
    if lt32 x3 x1 then
      if eq32 x3 0 then
        p_X9_rowsUsed_41 (p_X9_rowsUsed_14 n) x1 x3 x2 w
      else
        if inb x3 60 = false then none else
        if inb (x3 - 1) 60 = false then none else
        if eq32 (gA w 53 x3) (gA w 53 (x3 - 1)) then
          p_X9_rowsUsed_46 (p_X9_rowsUsed_14 n) x1 x3 0 x2 w
        else
          p_X9_rowsUsed_41 (p_X9_rowsUsed_14 n) x1 x3 x2 w
    else
      some (x2, w)
def p_X9_rowsUsed (w : Wd) : Option (Int × Wd) :=
  (p_X9_lay (sF w 50 0 0)).bind fun ⟨r2, w1⟩ =>
  p_X9_rowsUsed_14 FU r2 0 0 w1
def p_X9_firstMissing (w : Wd) : Option (Int × Wd) :=
  (p_X9_lay (sF w 50 0 0)).bind fun ⟨r2, w1⟩ =>
  if inb 10 1099 = false then none else
  if eq32 r2 (gA w1 51 10) then
    some (-1, w1)
  else
    some (r2, w1)
def p_X9_strokesFrom_4 : Nat → Int → Int → Wd → Option (Int × Wd)
  | 0, _, _, _ => none
  | n + 1, x2, x3, w =>
    (p_X9_letters w).bind fun ⟨r2, w1⟩ =>
    if lt32 x3 r2 then
      (p_X9_strokesOfLetter x3 w1).bind fun ⟨r4, w3⟩ =>
      p_X9_strokesFrom_4 n (x2 + r4) (x3 + 1) w3
    else
      some (x2, w1)
def p_X9_strokesFrom (x1 : Int) (w : Wd) : Option (Int × Wd) :=
  p_X9_strokesFrom_4 FU 0 x1 w
def p_X9_strokesLeft (w : Wd) : Option (Int × Wd) :=
  (p_X9_lay (sF w 50 0 0)).bind fun ⟨r2, w1⟩ =>
  if inb 8 1099 = false then none else
  (p_X9_strokesFrom (gA w1 51 8) w1).bind fun ⟨r4, w3⟩ =>
  some (r4, w3)
def p_X9_endOf (x1 : Int) (w : Wd) : Option (Int × Wd) :=
  if inb 8 1099 = false then none else
  (p_X9_letters w).bind fun ⟨r2, w1⟩ =>
  if inb 8 1099 = false then none else
  some ((gA w 51 8) + (mn32 x1 (r2 - (gA w1 51 8))), w1)
def p_X9_timeFor_10 (x1 : Int) (s0 : Int) (w : Wd) : Option (Int × Wd) :=
  (p_X9_passes s0 w).bind fun ⟨r2, w1⟩ =>
  if eq32 r2 0 then
    some (0, w1)
  else
    (p_X9_lay w1).bind fun ⟨r4, w3⟩ =>
    if inb 8 1099 = false then none else
    (p_X9_endOf x1 w3).bind fun ⟨r6, w5⟩ =>
    (p_X9_timeFromTo (gA w3 51 8) r6 w5).bind fun ⟨r8, w7⟩ =>
    some (r8, w7)
def p_X9_timeFor (x1 : Int) (w : Wd) : Option (Int × Wd) :=
  if lt32 x1 0 then
    p_X9_timeFor_10 x1 0 w
  else
    p_X9_timeFor_10 x1 1 w
def p_X9_lettersIn_78 (x5 : Int) (w : Wd) : Option (Int × Wd) :=
  if inb 8 1099 = false then none else
  some (x5 - (gA w 51 8), w)
def p_X9_lettersIn_95 (x3 : Int) (w : Wd) : Option (Int × Wd) :=
  if inb 8 1099 = false then none else
  some (x3 - (gA w 51 8), w)
def p_X9_lettersIn_50 : Nat → Int → Int → Int → Wd → Option (Int × Wd)
  | 0, _, _, _, _ => none
  | n + 1, x3, x4, x5, w =>
    if lt32 x5 x3 then
      if inb 3 1099 = false then none else
      (p_X9_timeForLetter x5 (gA w 51 3) w).bind fun ⟨r2, w1⟩ =>
      if lt32 (x4 - r2) 0 then
        p_X9_lettersIn_78 x5 w1
      else
        p_X9_lettersIn_50 n x3 (x4 - r2) (x5 + 1) w1
    else
      p_X9_lettersIn_95 x3 w
def p_X9_lettersIn_10 (x1 : Int) (s0 : Int) (w : Wd) : Option (Int × Wd) :=
  (p_X9_passes s0 w).bind fun ⟨r2, w1⟩ =>
  if eq32 r2 0 then
    some (0, w1)
  else
    (p_X9_lay w1).bind fun ⟨r4, w3⟩ =>
    if inb 5 1099 = false then none else
    (p_X9_letters (sF w3 50 9 (gA w3 51 5))).bind fun ⟨r6, w5⟩ =>
    if inb 8 1099 = false then none else
    p_X9_lettersIn_50 FU r6 x1 (gA w5 51 8) w5
def p_X9_lettersIn (x1 : Int) (w : Wd) : Option (Int × Wd) :=
  if lt32 x1 0 then
    p_X9_lettersIn_10 x1 0 w
  else
    p_X9_lettersIn_10 x1 1 w
def p_X9_sharpenings (w : Wd) : Option (Int × Wd) :=
  (p_X9_lay (sF w 50 0 0)).bind fun ⟨r2, w1⟩ =>
  if inb 8 1099 = false then none else
  (p_X9_letters w1).bind fun ⟨r4, w3⟩ =>
  (p_X9_timeFromTo (gA w1 51 8) r4 w3).bind fun ⟨r6, w5⟩ =>
  some (gF w5 50 10, w5)
def p_X9_isSharp (x0 : Int) (w : Wd) : Option (Int × Wd) :=
  (p_X9_in (w32 x0) 1 999 w).bind fun ⟨r2, w1⟩ =>
  zr r2 w1
def p_X9_timeWith_28 : Nat → Int → Int → Int → Wd → Option (Int × Wd)
  | 0, _, _, _, _ => none
  | n + 1, x1, x3, x4, w =>
    (p_X9_letters w).bind fun ⟨r2, w1⟩ =>
    if lt32 x4 r2 then
      (p_X9_timeForLetter x4 x1 w1).bind fun ⟨r4, w3⟩ =>
      p_X9_timeWith_28 n x1 (x3 + r4) (x4 + 1) w3
    else
      some (x3, w1)
def p_X9_timeWith (x1 : Int) (w : Wd) : Option (Int × Wd) :=
  (p_X9_isSharp x1 w).bind fun ⟨r2, w1⟩ =>
  (p_X9_passes r2 w1).bind fun ⟨r4, w3⟩ =>
  if eq32 r4 0 then
    some (0, w3)
  else
    (p_X9_lay w3).bind fun ⟨r6, w5⟩ =>
    p_X9_timeWith_28 FU x1 0 0 (sF w5 50 9 x1)
def p_X9_nextCell (w : Wd) : Option (Int × Wd) :=
  (p_X9_lay (sF w 50 0 0)).bind fun ⟨r2, w1⟩ =>
  if inb 8 1099 = false then none else
  (p_X9_letters w1).bind fun ⟨r4, w3⟩ =>
  if eq32 (gA w1 51 8) r4 then
    some (-1, w3)
  else
    (p_X9_wordOfLetter (gA w1 51 8) w3).bind fun ⟨r6, w5⟩ =>
    if inb r6 60 = false then none else
    if inb r6 60 = false then none else
    (p_X9_lettersAhead r6 w5).bind fun ⟨r8, w7⟩ =>
    some ((((100 * (gA w5 53 r6)) + (gA w5 54 r6)) + (gA w1 51 8)) - r8, w7)
def p_X9_laidIf_36 (s0 : Int) (s1 : Int) (s2 : Int) (w : Wd) : Option (Int × Wd) :=
  (p_X9_putFlaw s2 s1 s0 w).bind fun w1 =>
  (p_X9_lay w1).bind fun ⟨r3, w2⟩ =>
  (p_X9_layBack r3 w2).bind fun ⟨r5, w4⟩ =>
  some (r5, w4)
def p_X9_laidIf (x1 : Int) (x2 : Int) (w : Wd) : Option (Int × Wd) :=
  (p_X9_isCell x1 x2 w).bind fun ⟨r2, w1⟩ =>
  (p_X9_passes r2 w1).bind fun ⟨r4, w3⟩ =>
  if eq32 r4 0 then
    some (0, w3)
  else
    (p_X9_keepAside w3).bind fun w5 =>
    (p_X9_hasFlaw x1 x2 w5).bind fun ⟨r7, w6⟩ =>
    if eq32 r7 0 then
      p_X9_laidIf_36 1 x2 x1 w6
    else
      p_X9_laidIf_36 0 x2 x1 w6
def p_X9_worstFlaw_71 (k11 : Int → Int → Int → Wd → Option (Int × Wd)) (k22 : Int → Int → Int → Int → Wd → Option (Int × Wd)) (x2 : Int) (x3 : Int) (x4 : Int) (x5 : Int) (s0 : Int) (w : Wd) : Option (Int × Wd) :=
  k22 s0 (mx32 x2 x5) x3 (x4 + 1) w
def p_X9_worstFlaw_52 (k11 : Int → Int → Int → Wd → Option (Int × Wd)) (k22 : Int → Int → Int → Int → Wd → Option (Int × Wd)) (x1 : Int) (x2 : Int) (x3 : Int) (x4 : Int) (s0 : Int) (w : Wd) : Option (Int × Wd) :=
  if lt32 x2 s0 then
    p_X9_worstFlaw_71 k11 k22 x2 x3 x4 s0 ((100 * x3) + x4) w
  else
    p_X9_worstFlaw_71 k11 k22 x2 x3 x4 s0 x1 w
def p_X9_worstFlaw_85 (k11 : Int → Int → Int → Wd → Option (Int × Wd)) (x1 : Int) (x2 : Int) (x3 : Int) (w : Wd) : Option (Int × Wd) :=
  k11 x1 x2 (x3 + 1) w
def p_X9_worstFlaw_22 (k11 : Int → Int → Int → Wd → Option (Int × Wd)) : Nat → Int → Int → Int → Int → Wd → Option (Int × Wd)
  | 0, _, _, _, _, _ => none
  | n + 1, x1, x2, x3, x4, w =>
    (p_X9_wide w).bind fun ⟨r2, w1⟩ =>
    if lt32 x4 r2 then
      (p_X9_hasFlaw x4 x3 w1).bind fun ⟨r4, w3⟩ =>
      if eq32 r4 0 then
        p_X9_worstFlaw_52 k11 (p_X9_worstFlaw_22 k11 n) x1 x2 x3 x4 (-1) w3
      else
        (p_X9_laidIf x4 x3 w3).bind fun ⟨r6, w5⟩ =>
        p_X9_worstFlaw_52 k11 (p_X9_worstFlaw_22 k11 n) x1 x2 x3 x4 r6 w5
    else
      p_X9_worstFlaw_85 k11 x1 x2 x3 w1
def p_X9_worstFlaw_11 : Nat → Int → Int → Int → Wd → Option (Int × Wd)
  | 0, _, _, _, _ => none
  | n + 1, x1, x2, x3, w =>
    (p_X9_high w).bind fun ⟨r2, w1⟩ =>
    if lt32 x3 r2 then
      p_X9_worstFlaw_22 (p_X9_worstFlaw_11 n) FU x1 x2 x3 0 w1
    else
      some (x1, w1)
def p_X9_worstFlaw (w : Wd) : Option (Int × Wd) :=
  p_X9_worstFlaw_11 FU (-1) (-1) 0 (sF w 50 0 0)
def p_X9_laidWithout_34 (w : Wd) : Option (Int × Wd) :=
  (p_X9_lay w).bind fun ⟨r2, w1⟩ =>
  (p_X9_layBack r2 w1).bind fun ⟨r4, w3⟩ =>
  some (r4, w3)
def p_X9_laidWithout_11 : Nat → Int → Wd → Option (Int × Wd)
  | 0, _, _ => none
  | n + 1, x1, w =>
    if lt32 x1 288 then
      if inb (11 + x1) 1099 = false then none else
      p_X9_laidWithout_11 n (x1 + 1) (sA w 51 (11 + x1) 0)
    else
      p_X9_laidWithout_34 w
def p_X9_laidWithout (w : Wd) : Option (Int × Wd) :=
  (p_X9_keepAside (sF w 50 0 0)).bind fun w1 =>
  p_X9_laidWithout_11 FU 0 w1
def p_X9_isGap (x0 : Int) (w : Wd) : Option (Int × Wd) :=
  (p_X9_in (w32 x0) 0 3 w).bind fun ⟨r2, w1⟩ =>
  zr r2 w1
def p_X9_laidWith (x1 : Int) (w : Wd) : Option (Int × Wd) :=
  (p_X9_isGap x1 w).bind fun ⟨r2, w1⟩ =>
  (p_X9_passes r2 w1).bind fun ⟨r4, w3⟩ =>
  if eq32 r4 0 then
    some (0, w3)
  else
    (p_X9_keepAside w3).bind fun w5 =>
    if inb 2 1099 = false then none else
    (p_X9_lay (sA w5 51 2 x1)).bind fun ⟨r7, w6⟩ =>
    (p_X9_layBack r7 w6).bind fun ⟨r9, w8⟩ =>
    some (r9, w8)
def p_X9_laidTurned (w : Wd) : Option (Int × Wd) :=
  (p_X9_keepAside (sF w 50 0 0)).bind fun w1 =>
  (p_X9_turn w1).bind fun w2 =>
  (p_X9_lay w2).bind fun ⟨r4, w3⟩ =>
  (p_X9_layBack r4 w3).bind fun ⟨r6, w5⟩ =>
  some (r6, w5)
def p_X9_leastRows_51 (k7 : Int → Wd → Option (Int × Wd)) (x1 : Int) (s0 : Int) (w : Wd) : Option (Int × Wd) :=
  if eq32 s0 0 then
    k7 (x1 + 1) w
  else
    some (x1, w)
def p_X9_leastRows_7 : Nat → Int → Wd → Option (Int × Wd)
  | 0, _, _ => none
  | n + 1, x1, w =>
    if inb 1 1099 = false then none else
    if lt32 (gA w 51 1) x1 then
      some (-1, w)
    else
      (p_X9_keepAside w).bind fun w1 =>
      if inb 1 1099 = false then none else
      (p_X9_lay (sA w1 51 1 x1)).bind fun ⟨r3, w2⟩ =>
      (p_X9_layBack r3 w2).bind fun ⟨r5, w4⟩ =>
      if inb 10 1099 = false then none else
      if eq32 r5 (gA w4 51 10) then
        p_X9_leastRows_51 (p_X9_leastRows_7 n) x1 1 w4
      else
        p_X9_leastRows_51 (p_X9_leastRows_7 n) x1 0 w4
def p_X9_leastRows (w : Wd) : Option (Int × Wd) :=
  p_X9_leastRows_7 FU 1 (sF w 50 0 0)
def p_X9_laidBut (x1 : Int) (w : Wd) : Option (Int × Wd) :=
  (p_X9_isPart x1 w).bind fun ⟨r2, w1⟩ =>
  (p_X9_passes r2 w1).bind fun ⟨r4, w3⟩ =>
  if eq32 r4 0 then
    some (0, w3)
  else
    (p_X9_keepAside w3).bind fun w5 =>
    (p_X9_takePart x1 w5).bind fun w6 =>
    (p_X9_lay w6).bind fun ⟨r8, w7⟩ =>
    (p_X9_layBack r8 w7).bind fun ⟨r10, w9⟩ =>
    some (r10, w9)
def p_X9_bestPlace_66 (k21 : Int → Int → Int → Int → Wd → Option (Int × Wd)) (x1 : Int) (x3 : Int) (x4 : Int) (x5 : Int) (s0 : Int) (w : Wd) : Option (Int × Wd) :=
  k21 x1 s0 (mx32 x3 x5) (x4 + 1) w
def p_X9_bestPlace_21 : Nat → Int → Int → Int → Int → Wd → Option (Int × Wd)
  | 0, _, _, _, _, _ => none
  | n + 1, x1, x2, x3, x4, w =>
    if inb 9 1099 = false then none else
    if lt32 x4 (gA w 51 9) then
      (p_X9_keepAside w).bind fun w1 =>
      (p_X9_moveNow x1 x4 w1).bind fun w2 =>
      (p_X9_lay w2).bind fun ⟨r4, w3⟩ =>
      (p_X9_layBack r4 w3).bind fun ⟨r6, w5⟩ =>
      if lt32 x3 r6 then
        p_X9_bestPlace_66 (p_X9_bestPlace_21 n) x1 x3 x4 r6 x4 w5
      else
        p_X9_bestPlace_66 (p_X9_bestPlace_21 n) x1 x3 x4 r6 x2 w5
    else
      some (x2, w)
def p_X9_bestPlace (x1 : Int) (w : Wd) : Option (Int × Wd) :=
  (p_X9_isPart x1 w).bind fun ⟨r2, w1⟩ =>
  (p_X9_passes r2 w1).bind fun ⟨r4, w3⟩ =>
  if eq32 r4 0 then
    some (0, w3)
  else
    p_X9_bestPlace_21 FU x1 (-1) (-1) 0 w3
def p_X9_hasLetter (x1 : Int) (x2 : Int) (w : Wd) : Option (Int × Wd) :=
  (p_X9_isCell x1 x2 w).bind fun ⟨r2, w1⟩ =>
  if eq32 r2 0 then
    some (0, w1)
  else
    (p_X9_wordIn x1 x2 w1).bind fun ⟨r4, w3⟩ =>
    if eq32 r4 (-1) then
      some (0, w3)
    else
      some (1, w3)
def p_X9_touches_44 (w : Wd) : Option (Int × Wd) :=
  some (1, w)
def p_X9_touches (x1 : Int) (x2 : Int) (w : Wd) : Option (Int × Wd) :=
  (p_X9_hasLetter (x1 - 1) x2 w).bind fun ⟨r2, w1⟩ =>
  if eq32 r2 0 then
    (p_X9_hasLetter (x1 + 1) x2 w1).bind fun ⟨r4, w3⟩ =>
    if eq32 r4 0 then
      (p_X9_hasLetter x1 (x2 - 1) w3).bind fun ⟨r6, w5⟩ =>
      if eq32 r6 0 then
        (p_X9_hasLetter x1 (x2 + 1) w5).bind fun ⟨r8, w7⟩ =>
        if eq32 r8 0 then
          some (0, w7)
        else
          p_X9_touches_44 w7
      else
        p_X9_touches_44 w5
    else
      p_X9_touches_44 w3
  else
    p_X9_touches_44 w1
def p_X9_touching_60 (k14 : Int → Int → Wd → Option (Int × Wd)) (k25 : Int → Int → Int → Wd → Option (Int × Wd)) (x3 : Int) (x4 : Int) (s0 : Int) (s1 : Int) (w : Wd) : Option (Int × Wd) :=
  k25 (s1 + s0) x3 (x4 + 1) w
def p_X9_touching_59 (k14 : Int → Int → Wd → Option (Int × Wd)) (k25 : Int → Int → Int → Wd → Option (Int × Wd)) (x3 : Int) (x4 : Int) (s0 : Int) (w : Wd) : Option (Int × Wd) :=
  p_X9_touching_60 k14 k25 x3 x4 0 s0 w
def p_X9_touching_68 (k14 : Int → Int → Wd → Option (Int × Wd)) (x2 : Int) (x3 : Int) (w : Wd) : Option (Int × Wd) :=
  k14 x2 (x3 + 1) w
def p_X9_touching_25 (k14 : Int → Int → Wd → Option (Int × Wd)) : Nat → Int → Int → Int → Wd → Option (Int × Wd)
  | 0, _, _, _, _ => none
  | n + 1, x2, x3, x4, w =>
    (p_X9_wide w).bind fun ⟨r2, w1⟩ =>
    if lt32 x4 r2 then
      (p_X9_hasFlaw x4 x3 w1).bind fun ⟨r4, w3⟩ =>
      if eq32 r4 0 then
        p_X9_touching_59 k14 (p_X9_touching_25 k14 n) x3 x4 x2 w3
      else
        (p_X9_touches x4 x3 w3).bind fun ⟨r6, w5⟩ =>
        if eq32 r6 0 then
          p_X9_touching_59 k14 (p_X9_touching_25 k14 n) x3 x4 x2 w5
        else
          p_X9_touching_60 k14 (p_X9_touching_25 k14 n) x3 x4 1 x2 w5
    else
      p_X9_touching_68 k14 x2 x3 w1
def p_X9_touching_14 : Nat → Int → Int → Wd → Option (Int × Wd)
  | 0, _, _, _ => none
  | n + 1, x2, x3, w =>
    (p_X9_high w).bind fun ⟨r2, w1⟩ =>
    if lt32 x3 r2 then
      p_X9_touching_25 (p_X9_touching_14 n) FU x2 x3 0 w1
    else
      some (x2, w1)
def p_X9_touching (w : Wd) : Option (Int × Wd) :=
  (p_X9_lay (sF w 50 0 0)).bind fun ⟨r2, w1⟩ =>
  p_X9_touching_14 FU 0 0 w1
def p_X9_dear_59 (k14 : Int → Int → Int → Wd → Option (Int × Wd)) (x1 : Int) (x2 : Int) (x3 : Int) (w : Wd) : Option (Int × Wd) :=
  k14 x1 x2 (x3 + 1) w
def p_X9_dear_22 (k14 : Int → Int → Int → Wd → Option (Int × Wd)) : Nat → Int → Int → Int → Int → Wd → Option (Int × Wd)
  | 0, _, _, _, _, _ => none
  | n + 1, x1, x2, x3, x4, w =>
    (p_X9_bytesOf x3 w).bind fun ⟨r2, w1⟩ =>
    if lt32 x4 r2 then
      (p_X9_strokesOf x3 x4 w1).bind fun ⟨r4, w3⟩ =>
      (p_X9_byteOf x3 x4 w3).bind fun ⟨r6, w5⟩ =>
      (p_X9_plainStrokes r6 w5).bind fun ⟨r8, w7⟩ =>
      p_X9_dear_22 k14 n x1 (x2 + (r4 - r8)) x3 (x4 + 1) w7
    else
      p_X9_dear_59 k14 x1 x2 x3 w1
def p_X9_dear_14 : Nat → Int → Int → Int → Wd → Option (Int × Wd)
  | 0, _, _, _, _ => none
  | n + 1, x1, x2, x3, w =>
    if lt32 x3 x1 then
      p_X9_dear_22 (p_X9_dear_14 n) FU x1 x2 x3 0 w
    else
      some (x2, w)
def p_X9_dear (w : Wd) : Option (Int × Wd) :=
  (p_X9_lay (sF w 50 0 0)).bind fun ⟨r2, w1⟩ =>
  p_X9_dear_14 FU r2 0 0 w1
def p_X9_carvedShare (w : Wd) : Option (UInt32 × Wd) :=
  (p_X9_lay (sF w 50 0 0)).bind fun ⟨r2, w1⟩ =>
  (p_X9_letters w1).bind fun ⟨r4, w3⟩ =>
  if eq32 r4 0 then
    some (FP.fconst1, w3)
  else
    if inb 8 1099 = false then none else
    (p_X9_letters w3).bind fun ⟨r6, w5⟩ =>
    (fdv (fi2 (gA w3 51 8)) (fi2 r6)).bind fun v8 =>
    some (v8, w5)
def p_X9_meanStrokes (w : Wd) : Option (UInt64 × Wd) :=
  (p_X9_lay (sF w 50 0 0)).bind fun ⟨r2, w1⟩ =>
  (p_X9_letters w1).bind fun ⟨r4, w3⟩ =>
  if eq32 r4 0 then
    some (FP.dconst0, w3)
  else
    (p_X9_strokesFrom 0 w3).bind fun ⟨r6, w5⟩ =>
    (p_X9_letters w5).bind fun ⟨r8, w7⟩ =>
    (ddv (di2 r6) (di2 r8)).bind fun v10 =>
    some (v10, w7)
def p_X9_density (w : Wd) : Option (UInt64 × Wd) :=
  (p_X9_lay (sF w 50 0 0)).bind fun ⟨r2, w1⟩ =>
  (p_X9_wide w1).bind fun ⟨r4, w3⟩ =>
  (p_X9_high w3).bind fun ⟨r6, w5⟩ =>
  (p_X9_flaws w5).bind fun ⟨r8, w7⟩ =>
  if eq32 ((r4 * r6) - r8) 0 then
    some (FP.dconst0, w7)
  else
    (p_X9_letters w7).bind fun ⟨r10, w9⟩ =>
    (ddv (di2 r10) (di2 ((r4 * r6) - r8))).bind fun v12 =>
    some (v12, w9)
def p_X9_stays (w : Wd) : Option (Int × Wd) :=
  (p_X9_allStay w).bind fun ⟨r2, w1⟩ =>
  if eq32 r2 0 then
    (p_X9_layBack 0 w1).bind fun ⟨r4, w3⟩ =>
    some (0, w3)
  else
    (p_X9_rememberOf 55 w1).bind fun w5 =>
    some (1, w5)
def p_X9_beginChange (w : Wd) : Option (Wd) :=
  (p_X9_keepCarved w).bind fun w1 =>
  (p_X9_keepAside w1).bind fun w2 =>
  some w2
def p_X9_addPart_173 (k89 : Int → Int → Int → Int → Int → Int → Wd → Option (Int × Wd)) (x1 : Int) (x2 : Int) (x3 : Int) (x4 : Int) (x5 : Int) (x6 : Int) (w : Wd) : Option (Int × Wd) :=
  (p_X9_goOn w).bind fun w1 =>
  k89 x1 x2 x3 x4 x5 (x6 + 1) w1
def p_X9_addPart_146 (k89 : Int → Int → Int → Int → Int → Int → Wd → Option (Int × Wd)) (x1 : Int) (x2 : Int) (x3 : Int) (x4 : Int) (x5 : Int) (x6 : Int) (s0 : Int) (w : Wd) : Option (Int × Wd) :=
  (p_X9_errsIf s0 1 w).bind fun w1 =>
  (p_X9_good w1).bind fun ⟨r3, w2⟩ =>
  if eq32 r3 0 then
    p_X9_addPart_173 k89 x1 x2 x3 x4 x5 x6 w2
  else
    if inb 10 1099 = false then none else
    if lt32 (gA w2 (gP w2 50 3) 10) 60 then
      (p_X9_addWord w2).bind fun w5 =>
      p_X9_addPart_173 k89 x1 x2 x3 x4 x5 x6 w5
    else
      p_X9_addPart_173 k89 x1 x2 x3 x4 x5 x6 w2
def p_X9_addPart_141 (k89 : Int → Int → Int → Int → Int → Int → Wd → Option (Int × Wd)) (x1 : Int) (x2 : Int) (x3 : Int) (x4 : Int) (x5 : Int) (x6 : Int) (w : Wd) : Option (Int × Wd) :=
  p_X9_addPart_146 k89 x1 x2 x3 x4 x5 x6 1 w
def p_X9_addPart_255 (x1 : Int) (x5 : Int) (s0 : Int) (s1 : Int) (w : Wd) : Option (Int × Wd) :=
  (p_X9_passes2 s1 s0 w).bind fun ⟨r2, w1⟩ =>
  if eq32 r2 0 then
    some (0, w1)
  else
    (p_X9_remember w1).bind fun w3 =>
    (p_X9_addPartOf x1 x5 (sP w3 50 3 52)).bind fun w4 =>
    (p_X9_takeDraft (sP w4 50 3 51)).bind fun w5 =>
    if inb 9 1099 = false then none else
    some ((gA w5 51 9) - 1, w5)
def p_X9_addPart_254 (x1 : Int) (x5 : Int) (s0 : Int) (w : Wd) : Option (Int × Wd) :=
  p_X9_addPart_255 x1 x5 0 s0 w
def p_X9_addPart_223 (x1 : Int) (x5 : Int) (x6 : Int) (s0 : Int) (w : Wd) : Option (Int × Wd) :=
  if inb 9 1099 = false then none else
  if lt32 (gA w 51 9) 10 then
    if inb 10 1099 = false then none else
    if lt32 60 ((gA w 51 10) + x6) then
      p_X9_addPart_254 x1 x5 s0 w
    else
      p_X9_addPart_255 x1 x5 1 s0 w
  else
    p_X9_addPart_254 x1 x5 s0 w
def p_X9_addPart_222 (x1 : Int) (x5 : Int) (x6 : Int) (w : Wd) : Option (Int × Wd) :=
  p_X9_addPart_223 x1 x5 x6 0 w
def p_X9_addPart_183 (x1 : Int) (x2 : Int) (x3 : Int) (x4 : Int) (x5 : Int) (x6 : Int) (w : Wd) : Option (Int × Wd) :=
  (p_X9_good w).bind fun ⟨r2, w1⟩ =>
  (some (sF (sP w1 50 3 51) 50 24 x3)).bind fun w3 =>
  if eq32 x2 0 then
    p_X9_addPart_222 x1 x5 x6 (sF w3 50 25 x4)
  else
    if eq32 r2 0 then
      p_X9_addPart_222 x1 x5 x6 (sF w3 50 25 x4)
    else
      p_X9_addPart_223 x1 x5 x6 1 (sF w3 50 25 x4)
def p_X9_addPart_89 : Nat → Int → Int → Int → Int → Int → Int → Wd → Option (Int × Wd)
  | 0, _, _, _, _, _, _, _ => none
  | n + 1, x1, x2, x3, x4, x5, x6, w =>
    (p_X9_good w).bind fun ⟨r2, w1⟩ =>
    if eq32 r2 0 then
      p_X9_addPart_183 x1 x2 x3 x4 x5 x6 w1
    else
      if eq32 (gF w1 50 22) 0 then
        p_X9_addPart_183 x1 x2 x3 x4 x5 x6 w1
      else
        (p_X9_isW w1).bind fun ⟨r4, w3⟩ =>
        if eq32 r4 0 then
          p_X9_addPart_141 (p_X9_addPart_89 n) x1 x2 x3 x4 x5 x6 w3
        else
          if lt32 12 ((gF w3 50 20) - (gF w3 50 21)) then
            p_X9_addPart_141 (p_X9_addPart_89 n) x1 x2 x3 x4 x5 x6 w3
          else
            (p_X9_wide w3).bind fun ⟨r6, w5⟩ =>
            if lt32 r6 ((gF w3 50 20) - (gF w3 50 21)) then
              p_X9_addPart_141 (p_X9_addPart_89 n) x1 x2 x3 x4 x5 x6 w5
            else
              p_X9_addPart_146 (p_X9_addPart_89 n) x1 x2 x3 x4 x5 x6 0 w5
def p_X9_addPart_85 (x1 : Int) (x2 : Int) (x3 : Int) (x4 : Int) (x5 : Int) (x6 : Int) (s0 : Int) (w : Wd) : Option (Int × Wd) :=
  (p_X9_errsIf s0 1 w).bind fun w1 =>
  p_X9_addPart_89 FU x1 x2 x3 x4 x5 x6 w1
def p_X9_addPart_52 (x1 : Int) (x2 : Int) (x3 : Int) (x4 : Int) (w : Wd) : Option (Int × Wd) :=
  (p_X9_beginText w).bind fun w1 =>
  if inb 10 1099 = false then none else
  (p_X9_scan w1).bind fun w3 =>
  if eq32 (gF w3 50 22) 0 then
    p_X9_addPart_85 x1 x2 x3 x4 (gA w1 (gP w1 50 3) 10) 0 1 w3
  else
    p_X9_addPart_85 x1 x2 x3 x4 (gA w1 (gP w1 50 3) 10) 0 0 w3
def p_X9_addPart_24 : Nat → Int → Int → Int → Int → Int → Wd → Option (Int × Wd)
  | 0, _, _, _, _, _, _ => none
  | n + 1, x1, x2, x3, x4, x5, w =>
    if lt32 x5 1099 then
      if inb x5 1099 = false then none else
      if inb x5 1099 = false then none else
      p_X9_addPart_24 n x1 x2 x3 x4 (x5 + 1) (sA w 52 x5 (gA w 51 x5))
    else
      p_X9_addPart_52 x1 x2 x3 x4 w
def p_X9_addPart (x1 : Int) (w : Wd) : Option (Int × Wd) :=
  (p_X9_in (w32 x1) 0 2 w).bind fun ⟨r2, w1⟩ =>
  p_X9_addPart_24 FU x1 r2 (gF w1 50 24) (gF w1 50 25) 0 w1
def p_X9_dropPart (x1 : Int) (w : Wd) : Option (Int × Wd) :=
  (p_X9_isPart x1 w).bind fun ⟨r2, w1⟩ =>
  (p_X9_passes2 r2 1 w1).bind fun ⟨r4, w3⟩ =>
  if eq32 r4 0 then
    some (0, w3)
  else
    (p_X9_beginChange w3).bind fun w5 =>
    (p_X9_takePart x1 w5).bind fun w6 =>
    (p_X9_stays w6).bind fun ⟨r8, w7⟩ =>
    (p_X9_passes2 1 r8 w7).bind fun ⟨r10, w9⟩ =>
    if eq32 r10 0 then
      some (0, w9)
    else
      some (gF w9 50 6, w9)
def p_X9_movePart_22 (x1 : Int) (x2 : Int) (s0 : Int) (w : Wd) : Option (Int × Wd) :=
  (p_X9_passes2 s0 1 w).bind fun ⟨r2, w1⟩ =>
  if eq32 r2 0 then
    some (0, w1)
  else
    (p_X9_beginChange w1).bind fun w3 =>
    (p_X9_moveNow x1 x2 w3).bind fun w4 =>
    (p_X9_stays w4).bind fun ⟨r6, w5⟩ =>
    (p_X9_passes2 1 r6 w5).bind fun ⟨r8, w7⟩ =>
    if eq32 r8 0 then
      some (0, w7)
    else
      some (gF w7 50 6, w7)
def p_X9_movePart_21 (x1 : Int) (x2 : Int) (w : Wd) : Option (Int × Wd) :=
  p_X9_movePart_22 x1 x2 0 w
def p_X9_movePart (x1 : Int) (x2 : Int) (w : Wd) : Option (Int × Wd) :=
  (p_X9_isPart x1 w).bind fun ⟨r2, w1⟩ =>
  if eq32 r2 0 then
    p_X9_movePart_21 x1 x2 w1
  else
    (p_X9_isPart x2 w1).bind fun ⟨r4, w3⟩ =>
    if eq32 r4 0 then
      p_X9_movePart_21 x1 x2 w3
    else
      p_X9_movePart_22 x1 x2 1 w3
def p_X9_setFlaw_79 (x5 : Int) (s0 : Int) (s1 : Int) (s2 : Int) (w : Wd) : Option (Int × Wd) :=
  (p_X9_putFlaw s2 s1 s0 w).bind fun w1 =>
  (p_X9_stays w1).bind fun ⟨r3, w2⟩ =>
  (p_X9_passes2 1 r3 w2).bind fun ⟨r5, w4⟩ =>
  if eq32 r5 0 then
    some (0, w4)
  else
    if eq32 x5 0 then
      some (0, w4)
    else
      some (1, w4)
def p_X9_setFlaw_55 (x1 : Int) (x2 : Int) (x3 : Int) (x5 : Int) (s0 : Int) (s1 : Int) (w : Wd) : Option (Int × Wd) :=
  (p_X9_passes2 s1 s0 w).bind fun ⟨r2, w1⟩ =>
  if eq32 r2 0 then
    some (0, w1)
  else
    (p_X9_beginChange w1).bind fun w3 =>
    if eq32 x3 0 then
      p_X9_setFlaw_79 x5 0 x2 x1 w3
    else
      p_X9_setFlaw_79 x5 1 x2 x1 w3
def p_X9_setFlaw_50 (x1 : Int) (x2 : Int) (x3 : Int) (x5 : Int) (s0 : Int) (w : Wd) : Option (Int × Wd) :=
  p_X9_setFlaw_55 x1 x2 x3 x5 1 s0 w
def p_X9_setFlaw_27 (x1 : Int) (x2 : Int) (x3 : Int) (x4 : Int) (s0 : Int) (w : Wd) : Option (Int × Wd) :=
  if eq32 s0 0 then
    if eq32 x3 0 then
      p_X9_setFlaw_50 x1 x2 x3 s0 x4 w
    else
      (p_X9_flaws w).bind fun ⟨r2, w1⟩ =>
      if lt32 r2 40 then
        p_X9_setFlaw_50 x1 x2 x3 s0 x4 w1
      else
        p_X9_setFlaw_55 x1 x2 x3 s0 0 x4 w1
  else
    p_X9_setFlaw_50 x1 x2 x3 s0 x4 w
def p_X9_setFlaw_26 (x1 : Int) (x2 : Int) (x3 : Int) (x4 : Int) (w : Wd) : Option (Int × Wd) :=
  p_X9_setFlaw_27 x1 x2 x3 x4 0 w
def p_X9_setFlaw (x1 : Int) (x2 : Int) (x3 : Int) (w : Wd) : Option (Int × Wd) :=
  (p_X9_isCell x1 x2 w).bind fun ⟨r2, w1⟩ =>
  if eq32 r2 0 then
    p_X9_setFlaw_26 x1 x2 x3 r2 w1
  else
    (p_X9_hasFlaw x1 x2 w1).bind fun ⟨r4, w3⟩ =>
    if eq32 r4 0 then
      p_X9_setFlaw_26 x1 x2 x3 r2 w3
    else
      p_X9_setFlaw_27 x1 x2 x3 r2 1 w3
def p_X9_setGap (x1 : Int) (w : Wd) : Option (Int × Wd) :=
  (p_X9_isGap x1 w).bind fun ⟨r2, w1⟩ =>
  (p_X9_passes2 r2 1 w1).bind fun ⟨r4, w3⟩ =>
  if eq32 r4 0 then
    some (0, w3)
  else
    (p_X9_beginChange w3).bind fun w5 =>
    if inb 2 1099 = false then none else
    if inb 2 1099 = false then none else
    (p_X9_stays (sA w5 51 2 x1)).bind fun ⟨r7, w6⟩ =>
    (p_X9_passes2 1 r7 w6).bind fun ⟨r9, w8⟩ =>
    if eq32 r9 0 then
      some (0, w8)
    else
      some (gA w5 51 2, w8)
def p_X9_turnSlab_16 (s0 : Int) (w : Wd) : Option (Int × Wd) :=
  (p_X9_passes s0 w).bind fun ⟨r2, w1⟩ =>
  if eq32 r2 0 then
    some (0, w1)
  else
    (p_X9_remember w1).bind fun w3 =>
    (p_X9_turn w3).bind fun w4 =>
    (p_X9_lay w4).bind fun ⟨r6, w5⟩ =>
    some (r6, w5)
def p_X9_turnSlab (w : Wd) : Option (Int × Wd) :=
  if inb 8 1099 = false then none else
  if eq32 (gA w 51 8) 0 then
    p_X9_turnSlab_16 1 w
  else
    p_X9_turnSlab_16 0 w
def p_X9_cutRows_33 (x1 : Int) (x2 : Int) (s0 : Int) (s1 : Int) (w : Wd) : Option (Int × Wd) :=
  (p_X9_passes2 s1 s0 w).bind fun ⟨r2, w1⟩ =>
  if eq32 r2 0 then
    some (0, w1)
  else
    (p_X9_beginChange w1).bind fun w3 =>
    (p_X9_cut x1 x2 w3).bind fun w4 =>
    (p_X9_stays w4).bind fun ⟨r6, w5⟩ =>
    (p_X9_passes2 1 r6 w5).bind fun ⟨r8, w7⟩ =>
    if eq32 r8 0 then
      some (0, w7)
    else
      some (gF w7 50 6, w7)
def p_X9_cutRows_28 (x1 : Int) (x2 : Int) (s0 : Int) (w : Wd) : Option (Int × Wd) :=
  p_X9_cutRows_33 x1 x2 1 s0 w
def p_X9_cutRows (x1 : Int) (x2 : Int) (w : Wd) : Option (Int × Wd) :=
  (p_X9_high w).bind fun ⟨r2, w1⟩ =>
  (p_X9_in (w32 x1) 1 (w32 (r2 - 2)) w1).bind fun ⟨r4, w3⟩ =>
  if eq32 x2 0 then
    p_X9_cutRows_28 x1 x2 r4 w3
  else
    if inb 8 1099 = false then none else
    if eq32 (gA w3 51 8) 0 then
      p_X9_cutRows_28 x1 x2 r4 w3
    else
      p_X9_cutRows_33 x1 x2 0 r4 w3
def p_X9_carve (x1 : Int) (w : Wd) : Option (Int × Wd) :=
  (p_X9_in (w32 x1) 1 300 w).bind fun ⟨r2, w1⟩ =>
  (p_X9_passes r2 w1).bind fun ⟨r4, w3⟩ =>
  if eq32 r4 0 then
    some (0, w3)
  else
    (p_X9_remember w3).bind fun w5 =>
    (p_X9_lay w5).bind fun ⟨r7, w6⟩ =>
    (p_X9_endOf x1 w6).bind fun ⟨r9, w8⟩ =>
    if inb 8 1099 = false then none else
    (p_X9_timeFromTo (gA w8 51 8) r9 w8).bind fun ⟨r11, w10⟩ =>
    if inb 8 1099 = false then none else
    if inb 5 1099 = false then none else
    (some (sA (sA w10 51 8 r9) 51 5 (gF (sA w10 51 8 r9) 50 9))).bind fun w12 =>
    if inb 7 1099 = false then none else
    if inb 7 1099 = false then none else
    if inb 6 1099 = false then none else
    if inb 6 1099 = false then none else
    (some (sA (sA w12 51 7 ((gA w12 51 7) + (gF w12 50 10))) 51 6 ((gA (sA w12 51 7 ((gA w12 51 7) + (gF w12 50 10))) 51 6) + r11))).bind fun w13 =>
    some (r11, w13)
def p_X9_sharpen (w : Wd) : Option (Int × Wd) :=
  (p_X9_remember (sF w 50 0 0)).bind fun w1 =>
  if inb 5 1099 = false then none else
  if inb 3 1099 = false then none else
  if inb 5 1099 = false then none else
  if inb 6 1099 = false then none else
  if inb 4 1099 = false then none else
  if inb 6 1099 = false then none else
  (some (sA (sA w1 51 5 (gA w1 51 3)) 51 6 ((gA (sA w1 51 5 (gA w1 51 3)) 51 6) + (gA (sA w1 51 5 (gA w1 51 3)) 51 4)))).bind fun w2 =>
  if inb 7 1099 = false then none else
  if inb 7 1099 = false then none else
  some (gA w1 51 5, sA w2 51 7 ((gA w2 51 7) + 1))
def p_X9_setChisel_25 (x1 : Int) (x2 : Int) (s0 : Int) (w : Wd) : Option (Int × Wd) :=
  (p_X9_passes s0 w).bind fun ⟨r2, w1⟩ =>
  if eq32 r2 0 then
    some (0, w1)
  else
    (p_X9_remember w1).bind fun w3 =>
    if inb 3 1099 = false then none else
    if inb 4 1099 = false then none else
    if inb 3 1099 = false then none else
    if inb 5 1099 = false then none else
    (some (sA (sA w3 51 3 x1) 51 5 x1)).bind fun w4 =>
    if inb 4 1099 = false then none else
    some ((100 * (gA w3 51 3)) + (gA w3 51 4), sA w4 51 4 x2)
def p_X9_setChisel_24 (x1 : Int) (x2 : Int) (w : Wd) : Option (Int × Wd) :=
  p_X9_setChisel_25 x1 x2 0 w
def p_X9_setChisel (x1 : Int) (x2 : Int) (w : Wd) : Option (Int × Wd) :=
  (p_X9_isSharp x1 w).bind fun ⟨r2, w1⟩ =>
  if eq32 r2 0 then
    p_X9_setChisel_24 x1 x2 w1
  else
    (p_X9_in (w32 x2) 0 99 w1).bind fun ⟨r4, w3⟩ =>
    if eq32 r4 0 then
      p_X9_setChisel_24 x1 x2 w3
    else
      p_X9_setChisel_25 x1 x2 1 w3
def p_X9_isKeep (x0 : Int) (w : Wd) : Option (Int × Wd) :=
  (p_X9_in (w32 x0) 0 1 w).bind fun ⟨r2, w1⟩ =>
  zr r2 w1
def p_X9_keep_46 (x1 : Int) (w : Wd) : Option (Int × Wd) :=
  if inb x1 2 = false then none else
  if inb 8 1099 = false then none else
  some (gA (sA w 62 x1 1) 51 8, sA w 62 x1 1)
def p_X9_keep_15 : Nat → Int → Int → Wd → Option (Int × Wd)
  | 0, _, _, _ => none
  | n + 1, x1, x2, w =>
    if lt32 x2 1099 then
      if inb x2 1099 = false then none else
      if inb ((1099 * x1) + x2) 2198 = false then none else
      p_X9_keep_15 n x1 (x2 + 1) (sA w 61 ((1099 * x1) + x2) (gA w 51 x2))
    else
      p_X9_keep_46 x1 w
def p_X9_keep (x1 : Int) (w : Wd) : Option (Int × Wd) :=
  (p_X9_isKeep x1 w).bind fun ⟨r2, w1⟩ =>
  (p_X9_passes r2 w1).bind fun ⟨r4, w3⟩ =>
  if eq32 r4 0 then
    some (0, w3)
  else
    p_X9_keep_15 FU x1 0 w3
def p_X9_restore_71 (w : Wd) : Option (Int × Wd) :=
  if inb 8 1099 = false then none else
  some (gA w 51 8, w)
def p_X9_restore_40 : Nat → Int → Int → Wd → Option (Int × Wd)
  | 0, _, _, _ => none
  | n + 1, x1, x2, w =>
    if lt32 x2 1099 then
      if inb ((1099 * x1) + x2) 2198 = false then none else
      if inb x2 1099 = false then none else
      p_X9_restore_40 n x1 (x2 + 1) (sA w 51 x2 (gA w 61 ((1099 * x1) + x2)))
    else
      p_X9_restore_71 w
def p_X9_restore_26 (x1 : Int) (s0 : Int) (s1 : Int) (w : Wd) : Option (Int × Wd) :=
  (p_X9_passes2 s1 s0 w).bind fun ⟨r2, w1⟩ =>
  if eq32 r2 0 then
    some (0, w1)
  else
    (p_X9_remember w1).bind fun w3 =>
    p_X9_restore_40 FU x1 0 w3
def p_X9_restore_21 (x1 : Int) (s0 : Int) (w : Wd) : Option (Int × Wd) :=
  p_X9_restore_26 x1 1 s0 w
def p_X9_restore (x1 : Int) (w : Wd) : Option (Int × Wd) :=
  (p_X9_isKeep x1 w).bind fun ⟨r2, w1⟩ =>
  (p_X9_isKeep x1 w1).bind fun ⟨r4, w3⟩ =>
  if eq32 r4 0 then
    p_X9_restore_21 x1 r2 w3
  else
    if inb x1 2 = false then none else
    if eq32 (gA w3 62 x1) 0 then
      p_X9_restore_26 x1 0 r2 w3
    else
      p_X9_restore_21 x1 r2 w3
def p_X9_undo_33 : Nat → Int → Wd → Option (Int × Wd)
  | 0, _, _ => none
  | n + 1, x1, w =>
    if lt32 x1 1099 then
      if inb ((1099 * (gF w 50 31)) + x1) 6594 = false then none else
      if inb x1 1099 = false then none else
      p_X9_undo_33 n (x1 + 1) (sA w 51 x1 (gA w 63 ((1099 * (gF w 50 31)) + x1)))
    else
      some (gF w 50 31, w)
def p_X9_undo_13 (s0 : Int) (w : Wd) : Option (Int × Wd) :=
  (p_X9_passes s0 w).bind fun ⟨r2, w1⟩ =>
  if eq32 r2 0 then
    some (0, w1)
  else
    p_X9_undo_33 FU 0 (sF w1 50 31 ((gF w1 50 31) - 1))
def p_X9_undo (w : Wd) : Option (Int × Wd) :=
  if lt32 0 (gF w 50 31) then
    p_X9_undo_13 1 w
  else
    p_X9_undo_13 0 w
def p_X9_undoCount (w : Wd) : Option (Int × Wd) :=
  some (gF (sF w 50 0 0) 50 31, sF w 50 0 0)
def p_X9_write (x1 : Int) (w : Wd) : Option (Wd) :=
  if inb (gF w 50 33) 1000 = false then none else
  (some (sF (sA w 64 (gF w 50 33) (i8 (i8 x1))) 50 33 ((gF (sA w 64 (gF w 50 33) (i8 (i8 x1))) 50 33) + 1))).bind fun w1 =>
  some w1
def p_X9_shown (x1 : Int) (x2 : Int) (w : Wd) : Option (Int × Wd) :=
  (p_X9_byteOf x1 x2 w).bind fun ⟨r2, w1⟩ =>
  (p_X9_carvedOf x1 w1).bind fun ⟨r4, w3⟩ =>
  if lt32 x2 r4 then
    if lt32 r2 97 then
      some (r2, w3)
    else
      some (r2 - 32, w3)
  else
    some (r2, w3)
def p_X9_writeRow_87 (k26 : Int → Int → Wd → Option (Int × Wd)) (x1 : Int) (x3 : Int) (s0 : Int) (w : Wd) : Option (Int × Wd) :=
  (p_X9_write s0 w).bind fun w1 =>
  k26 x1 (x3 + 1) w1
def p_X9_writeRow_58 (k26 : Int → Int → Wd → Option (Int × Wd)) (x1 : Int) (x3 : Int) (x4 : Int) (s0 : Int) (w : Wd) : Option (Int × Wd) :=
  if eq32 x4 (-1) then
    p_X9_writeRow_87 k26 x1 x3 s0 w
  else
    if inb x4 60 = false then none else
    (p_X9_shown x4 (x3 - (gA w 54 x4)) w).bind fun ⟨r2, w1⟩ =>
    p_X9_writeRow_87 k26 x1 x3 r2 w1
def p_X9_writeRow_26 : Nat → Int → Int → Wd → Option (Int × Wd)
  | 0, _, _, _ => none
  | n + 1, x1, x3, w =>
    (p_X9_wide w).bind fun ⟨r2, w1⟩ =>
    if lt32 x3 r2 then
      (p_X9_wordIn x3 x1 w1).bind fun ⟨r4, w3⟩ =>
      (p_X9_hasFlaw x3 x1 w3).bind fun ⟨r6, w5⟩ =>
      if eq32 r6 0 then
        p_X9_writeRow_58 (p_X9_writeRow_26 n) x1 x3 r4 46 w5
      else
        p_X9_writeRow_58 (p_X9_writeRow_26 n) x1 x3 r4 35 w5
    else
      some (gF w1 50 33, w1)
def p_X9_writeRow (x1 : Int) (w : Wd) : Option (Int × Wd) :=
  (p_X9_isRow x1 w).bind fun ⟨r2, w1⟩ =>
  (p_X9_passes r2 w1).bind fun ⟨r4, w3⟩ =>
  if eq32 r4 0 then
    some (0, w3)
  else
    (p_X9_lay w3).bind fun ⟨r6, w5⟩ =>
    p_X9_writeRow_26 FU x1 0 (sF w5 50 33 0)
def p_X9_writeWord_2 : Nat → Int → Int → Wd → Option (Wd)
  | 0, _, _, _ => none
  | n + 1, x1, x2, w =>
    (p_X9_bytesOf x1 w).bind fun ⟨r2, w1⟩ =>
    if lt32 x2 r2 then
      (p_X9_byteOf x1 x2 w1).bind fun ⟨r4, w3⟩ =>
      (p_X9_write r4 w3).bind fun w5 =>
      p_X9_writeWord_2 n x1 (x2 + 1) w5
    else
      some w1
def p_X9_writeWord (x1 : Int) (w : Wd) : Option (Wd) :=
  p_X9_writeWord_2 FU x1 0 w
def p_X9_writePart_90 (k33 : Int → Int → Int → Int → Wd → Option (Int × Wd)) (x1 : Int) (x2 : Int) (x3 : Int) (x4 : Int) (w : Wd) : Option (Int × Wd) :=
  k33 x1 x2 x3 (x4 + 1) w
def p_X9_writePart_57 (k33 : Int → Int → Int → Int → Wd → Option (Int × Wd)) (x1 : Int) (x2 : Int) (x3 : Int) (x4 : Int) (w : Wd) : Option (Int × Wd) :=
  if lt32 x4 x2 then
    (p_X9_writeWord x4 w).bind fun w4 =>
    p_X9_writePart_90 k33 x1 x2 x3 x4 w4
  else
    (p_X9_write 91 w).bind fun w1 =>
    (p_X9_writeWord x4 w1).bind fun w2 =>
    (p_X9_write 93 w2).bind fun w3 =>
    p_X9_writePart_90 k33 x1 x2 x3 x4 w3
def p_X9_writePart_33 : Nat → Int → Int → Int → Int → Wd → Option (Int × Wd)
  | 0, _, _, _, _, _ => none
  | n + 1, x1, x2, x3, x4, w =>
    (p_X9_manyOf x1 w).bind fun ⟨r2, w1⟩ =>
    if lt32 x4 (x3 + r2) then
      if lt32 x3 x4 then
        (p_X9_write 32 w1).bind fun w3 =>
        p_X9_writePart_57 (p_X9_writePart_33 n) x1 x2 x3 x4 w3
      else
        p_X9_writePart_57 (p_X9_writePart_33 n) x1 x2 x3 x4 w1
    else
      some (gF w1 50 33, w1)
def p_X9_writePart (x1 : Int) (w : Wd) : Option (Int × Wd) :=
  (p_X9_isPart x1 w).bind fun ⟨r2, w1⟩ =>
  (p_X9_passes r2 w1).bind fun ⟨r4, w3⟩ =>
  if eq32 r4 0 then
    some (0, w3)
  else
    (p_X9_lay w3).bind fun ⟨r6, w5⟩ =>
    (p_X9_firstOf x1 (sF w5 50 33 0)).bind fun ⟨r8, w7⟩ =>
    p_X9_writePart_33 FU x1 r6 r8 r8 w7
def p_X9_outputByte (x1 : Int) (w : Wd) : Option (Int × Wd) :=
  (p_X9_in (w32 x1) 0 (w32 ((gF w 50 33) - 1)) w).bind fun ⟨r2, w1⟩ =>
  (p_X9_passes r2 w1).bind fun ⟨r4, w3⟩ =>
  if eq32 r4 0 then
    some (0, w3)
  else
    if inb x1 1000 = false then none else
    some (gA w3 64 x1, w3)
