/-! ===== the class's methods where nothing is thrown; the law's own methods on the class's world ===== -/
def dcm (a b : UInt64) : Int := (Op.cmpValue (FP.dcmp a b) .l).toInt
def fcm (a b : UInt32) : Int := (Op.cmpValue (FP.fcmp a b) .l).toInt
section XD
variable {g : Cx} {d : Dl} {cc : ByteArray} {nL : Nat} {ret : Option FieldType} {own : String} {hp : Heap → Prop} {lv : List (Nat × Value)} {st : List Value} {pc : Nat}
theorem x_dcmpl (C : CX g cc nL ret own) {a b : UInt64} (dg : decode cc pc = .ok (.dcmp .l, 1)) (k : XG g d hp lv (iV (dcm a b) :: st) (pc + 1)) : XG g d hp lv (.double b :: .double a :: st) pc := by
  intro H locs ls h1 h2 h3
  refine lv_dcmp C.x C.b dg ?_
  have kk := k H locs ls h1 h2 h3
  unfold dcm iV at kk
  rw [ofInt_toInt] at kk
  exact kk
theorem x_fcmpl (C : CX g cc nL ret own) {a b : UInt32} (dg : decode cc pc = .ok (.fcmp .l, 1)) (k : XG g d hp lv (iV (fcm a b) :: st) (pc + 1)) : XG g d hp lv (.float b :: .float a :: st) pc := by
  intro H locs ls h1 h2 h3
  refine lv_fcmp C.x C.b dg ?_
  have kk := k H locs ls h1 h2 h3
  unfold fcm iV at kk
  rw [ofInt_toInt] at kk
  exact kk
end XD
theorem mf_X8_property : mfV yX8_property cX8_property 2 (some .int) 1 := ⟨in_tg 341 (by decide +kernel) rfl, in_tg 342 (by decide +kernel) rfl, in_tg 34 (by decide +kernel) rfl, in_tg 343 (by decide +kernel) rfl, by decide +kernel, by decide +kernel, by decide +kernel⟩
theorem lk_L_94 : Cond.methodLink RL 94 yX8_property ∈ lw_tg := in_tg 340 (by decide +kernel) rfl
theorem mf_X8_cell : mfV yX8_cell cX8_cell 4 (some .int) 2 := ⟨in_tg 1185 (by decide +kernel) rfl, in_tg 1186 (by decide +kernel) rfl, in_tg 34 (by decide +kernel) rfl, in_tg 1187 (by decide +kernel) rfl, by decide +kernel, by decide +kernel, by decide +kernel⟩
theorem lk_L_178 : Cond.methodLink RL 178 yX8_cell ∈ lw_tg := in_tg 1184 (by decide +kernel) rfl
theorem mf_L_flaw : mfS yL_flaw cL_flaw 3 (some .boolean) 3 := ⟨in_tg 1200 (by decide +kernel) rfl, in_tg 33 (by decide +kernel) rfl, in_tg 1201 (by decide +kernel) rfl, by decide +kernel, by decide +kernel, by decide +kernel⟩
theorem lk_L_181 : Cond.methodLink RL 181 yL_flaw ∈ lw_tg := in_tg 1199 (by decide +kernel) rfl
theorem mf_X8_firstMissing : mfV yX8_firstMissing cX8_firstMissing 1 (some .int) 0 := ⟨in_tg 1181 (by decide +kernel) rfl, in_tg 1182 (by decide +kernel) rfl, in_tg 34 (by decide +kernel) rfl, in_tg 1183 (by decide +kernel) rfl, by decide +kernel, by decide +kernel, by decide +kernel⟩
theorem lk_L_185 : Cond.methodLink RL 185 yX8_firstMissing ∈ lw_tg := in_tg 1180 (by decide +kernel) rfl
theorem mf_X8_word : mfV yX8_word cX8_word 3 (some .int) 2 := ⟨in_tg 422 (by decide +kernel) rfl, in_tg 423 (by decide +kernel) rfl, in_tg 34 (by decide +kernel) rfl, in_tg 424 (by decide +kernel) rfl, by decide +kernel, by decide +kernel, by decide +kernel⟩
theorem lk_L_171 : Cond.methodLink RL 171 yX8_word ∈ lw_tg := in_tg 421 (by decide +kernel) rfl
theorem mf_X8_letter : mfV yX8_letter cX8_letter 3 (some .int) 2 := ⟨in_tg 473 (by decide +kernel) rfl, in_tg 474 (by decide +kernel) rfl, in_tg 34 (by decide +kernel) rfl, in_tg 475 (by decide +kernel) rfl, by decide +kernel, by decide +kernel, by decide +kernel⟩
theorem lk_L_173 : Cond.methodLink RL 173 yX8_letter ∈ lw_tg := in_tg 472 (by decide +kernel) rfl
theorem mf_X8_wordAt : mfV yX8_wordAt cX8_wordAt 3 (some .int) 2 := ⟨in_tg 1193 (by decide +kernel) rfl, in_tg 1194 (by decide +kernel) rfl, in_tg 34 (by decide +kernel) rfl, in_tg 1195 (by decide +kernel) rfl, by decide +kernel, by decide +kernel, by decide +kernel⟩
theorem lk_L_188 : Cond.methodLink RL 188 yX8_wordAt ∈ lw_tg := in_tg 1192 (by decide +kernel) rfl
theorem mf_L_touched : mfS yL_touched cL_touched 3 (some .boolean) 3 := ⟨in_tg 1197 (by decide +kernel) rfl, in_tg 33 (by decide +kernel) rfl, in_tg 1198 (by decide +kernel) rfl, by decide +kernel, by decide +kernel, by decide +kernel⟩
theorem lk_L_191 : Cond.methodLink RL 191 yL_touched ∈ lw_tg := in_tg 1196 (by decide +kernel) rfl
theorem mf_L_plain : mfS yL_plain cL_plain 1 (some .int) 1 := ⟨in_tg 1203 (by decide +kernel) rfl, in_tg 33 (by decide +kernel) rfl, in_tg 1204 (by decide +kernel) rfl, by decide +kernel, by decide +kernel, by decide +kernel⟩
theorem lk_L_194 : Cond.methodLink RL 194 yL_plain ∈ lw_tg := in_tg 1202 (by decide +kernel) rfl
theorem mf_X8_freeIn : mfV yX8_freeIn cX8_freeIn 4 (some .int) 1 := ⟨in_tg 1206 (by decide +kernel) rfl, in_tg 1207 (by decide +kernel) rfl, in_tg 34 (by decide +kernel) rfl, in_tg 1208 (by decide +kernel) rfl, by decide +kernel, by decide +kernel, by decide +kernel⟩
theorem lk_L_197 : Cond.methodLink RL 197 yX8_freeIn ∈ lw_tg := in_tg 1205 (by decide +kernel) rfl
theorem mf_X8_strokesLeft : mfV yX8_strokesLeft cX8_strokesLeft 1 (some .int) 0 := ⟨in_tg 1210 (by decide +kernel) rfl, in_tg 1211 (by decide +kernel) rfl, in_tg 34 (by decide +kernel) rfl, in_tg 1212 (by decide +kernel) rfl, by decide +kernel, by decide +kernel, by decide +kernel⟩
theorem lk_L_200 : Cond.methodLink RL 200 yX8_strokesLeft ∈ lw_tg := in_tg 1209 (by decide +kernel) rfl
theorem mf_X8_dear : mfV yX8_dear cX8_dear 4 (some .int) 0 := ⟨in_tg 1214 (by decide +kernel) rfl, in_tg 1215 (by decide +kernel) rfl, in_tg 34 (by decide +kernel) rfl, in_tg 1216 (by decide +kernel) rfl, by decide +kernel, by decide +kernel, by decide +kernel⟩
theorem lk_L_203 : Cond.methodLink RL 203 yX8_dear ∈ lw_tg := in_tg 1213 (by decide +kernel) rfl
theorem mf_X8_meanStrokes : mfV yX8_meanStrokes cX8_meanStrokes 2 (some .double) 0 := ⟨in_tg 1219 (by decide +kernel) rfl, in_tg 1220 (by decide +kernel) rfl, in_tg 34 (by decide +kernel) rfl, in_tg 1221 (by decide +kernel) rfl, by decide +kernel, by decide +kernel, by decide +kernel⟩
theorem lk_L_206 : Cond.methodLink RL 206 yX8_meanStrokes ∈ lw_tg := in_tg 1218 (by decide +kernel) rfl
theorem mf_X8_carvedShare : mfV yX8_carvedShare cX8_carvedShare 1 (some .float) 0 := ⟨in_tg 1223 (by decide +kernel) rfl, in_tg 1224 (by decide +kernel) rfl, in_tg 34 (by decide +kernel) rfl, in_tg 1225 (by decide +kernel) rfl, by decide +kernel, by decide +kernel, by decide +kernel⟩
theorem lk_L_210 : Cond.methodLink RL 210 yX8_carvedShare ∈ lw_tg := in_tg 1222 (by decide +kernel) rfl
def p_Y8_append (x1 : Int) (x2 : Int) (x3 : Int) (x4 : Int) (x5 : Int) (w : Wd) : Option (Int × Wd) :=
  if lt32 480 (gF w 2 1) then
    none
  else
    (p_X0_addFour 2 x1 w).bind fun w1 =>
    (p_X0_addFour 2 x2 w1).bind fun w2 =>
    (p_X0_addFour 2 x3 w2).bind fun w3 =>
    (p_X0_addFour 2 x4 w3).bind fun w4 =>
    (p_X0_addFour 2 x5 w4).bind fun w5 =>
    some (gF w5 2 1, w5)
def p_Y8_truncate_15 (w : Wd) : Option (Wd) :=
  none
def p_Y8_truncate (x1 : Int) (w : Wd) : Option (Wd) :=
  if lt32 x1 0 then
    p_Y8_truncate_15 w
  else
    if lt32 (gF w 2 1) x1 then
      p_Y8_truncate_15 w
    else
      some (sF w 2 1 x1)
def p_Y8_property (x1 : Int) (w : Wd) : Option (Int × Wd) :=
  if lt32 x1 0 then
    none
  else if lt32 13 x1 then
    none
  else
  if lt32 x1 7 then
    if lt32 x1 3 then
      if lt32 x1 1 then
        some (gF w 100 0, w)
      else
        if lt32 x1 2 then
          some (gF w 100 1, w)
        else
          (p_X6_flawCount 100 w).bind fun ⟨r14, w13⟩ =>
          some (r14, w13)
    else
      if lt32 x1 5 then
        if lt32 x1 4 then
          some (gF w 100 2, w)
        else
          some (gF w 100 4, w)
      else
        if lt32 x1 6 then
          some (gF w 100 7, w)
        else
          some (gF w 10 4, w)
  else
    if lt32 x1 10 then
      if lt32 x1 8 then
        some (gF w 10 5, w)
      else
        if lt32 x1 9 then
          some (gF w 100 11, w)
        else
          some (gF w 111 2, w)
    else
      if lt32 x1 12 then
        if lt32 x1 11 then
          some (gF w 111 0, w)
        else
          some (gF w 111 1, w)
      else
        if lt32 x1 13 then
          some (gF w 111 3, w)
        else
          some (gF w 111 4, w)
def p_Y8_needWord_15 (w : Wd) : Option (Wd) :=
  none
def p_Y8_needWord (x1 : Int) (w : Wd) : Option (Wd) :=
  if lt32 x1 0 then
    p_Y8_needWord_15 w
  else
    if lt32 x1 (gF w 100 7) then
      some w
    else
      p_Y8_needWord_15 w
def p_Y8_word (x1 : Int) (x2 : Int) (w : Wd) : Option (Int × Wd) :=
  (p_Y8_needWord x1 w).bind fun w1 =>
  if lt32 x2 0 then
    none
  else if lt32 5 x2 then
    none
  else
  if lt32 x2 3 then
    if lt32 x2 1 then
      (p_X6_partOf 100 x1 w1).bind fun ⟨r11, w10⟩ =>
      some (r11, w10)
    else
      if lt32 x2 2 then
        (p_X5_at 107 x1 w1).bind fun ⟨r15, w14⟩ =>
        some (r15, w14)
      else
        (p_X5_at 11 x1 w1).bind fun ⟨r17, w16⟩ =>
        some (r17, w16)
  else
    if lt32 x2 4 then
      (p_X5_at 13 x1 w1).bind fun ⟨r21, w20⟩ =>
      some (r21, w20)
    else
      if lt32 x2 5 then
        (p_X8_strokesOfWord x1 w1).bind fun ⟨r25, w24⟩ =>
        some (r25, w24)
      else
        (p_X8_carvedOfWord x1 w1).bind fun ⟨r27, w26⟩ =>
        some (r27, w26)
def p_Y8_letter_24 (w : Wd) : Option (Int × Wd) :=
  none
def p_Y8_letter (x1 : Int) (x2 : Int) (w : Wd) : Option (Int × Wd) :=
  (p_Y8_needWord x1 w).bind fun w1 =>
  if lt32 x2 0 then
    p_Y8_letter_24 w1
  else
    (p_X5_at 107 x1 w1).bind fun ⟨r3, w2⟩ =>
    if lt32 x2 r3 then
      (p_X6_byteOf 100 x1 x2 w2).bind fun ⟨r5, w4⟩ =>
      some (r5, w4)
    else
      p_Y8_letter_24 w2
def p_Y8_needRow_15 (w : Wd) : Option (Wd) :=
  none
def p_Y8_needRow (x1 : Int) (w : Wd) : Option (Wd) :=
  if lt32 x1 0 then
    p_Y8_needRow_15 w
  else
    if lt32 x1 (gF w 100 1) then
      some w
    else
      p_Y8_needRow_15 w
def p_Y8_needCell_20 (w : Wd) : Option (Wd) :=
  none
def p_Y8_needCell (x1 : Int) (x2 : Int) (w : Wd) : Option (Wd) :=
  (p_Y8_needRow x2 w).bind fun w1 =>
  if lt32 x1 0 then
    p_Y8_needCell_20 w1
  else
    if lt32 x1 (gF w1 100 0) then
      some w1
    else
      p_Y8_needCell_20 w1
def p_Y8_cell (x1 : Int) (x2 : Int) (w : Wd) : Option (Int × Wd) :=
  (p_Y8_needCell x1 x2 w).bind fun w1 =>
  (p_X6_flawed 100 x1 x2 w1).bind fun ⟨r3, w2⟩ =>
  if eq32 r3 0 then
    (p_X2_wordOn 10 100 x1 x2 w2).bind fun ⟨r5, w4⟩ =>
    if eq32 r5 (-1) then
      some (0, w4)
    else
      (p_X5_at 13 r5 w4).bind fun ⟨r7, w6⟩ =>
      (p_X6_byteOf 100 r5 (x1 - r7) w6).bind fun ⟨r9, w8⟩ =>
      some (r9, w8)
  else
    some (-1, w2)
def p_Y8_wordAt (x1 : Int) (x2 : Int) (w : Wd) : Option (Int × Wd) :=
  (p_Y8_needCell x1 x2 w).bind fun w1 =>
  (p_X2_wordOn 10 100 x1 x2 w1).bind fun ⟨r3, w2⟩ =>
  some (r3, w2)
def p_Y8_freeIn_52 (k9 : Int → Int → Int → Wd → Option (Int × Wd)) (x1 : Int) (x2 : Int) (x3 : Int) (w : Wd) : Option (Int × Wd) :=
  k9 x1 x2 (x3 + 1) w
def p_Y8_freeIn_9 : Nat → Int → Int → Int → Wd → Option (Int × Wd)
  | 0, _, _, _, _ => none
  | n + 1, x1, x2, x3, w =>
    if lt32 x3 (gF w 100 0) then
      (p_X6_flawed 100 x3 x1 w).bind fun ⟨r2, w1⟩ =>
      if eq32 r2 0 then
        (p_X2_wordOn 10 100 x3 x1 w1).bind fun ⟨r4, w3⟩ =>
        if eq32 r4 (-1) then
          p_Y8_freeIn_52 (p_Y8_freeIn_9 n) x1 (x2 + 1) x3 w3
        else
          p_Y8_freeIn_52 (p_Y8_freeIn_9 n) x1 x2 x3 w3
      else
        p_Y8_freeIn_52 (p_Y8_freeIn_9 n) x1 x2 x3 w1
    else
      some (x2, w)
def p_Y8_freeIn (x1 : Int) (w : Wd) : Option (Int × Wd) :=
  (p_Y8_needRow x1 w).bind fun w1 =>
  p_Y8_freeIn_9 FU x1 0 0 w1
def p_L_flaw (x1 : Int) (x2 : Int) (w : Wd) : Option (Int × Wd) :=
  if lt32 x1 0 then
    some (0, w)
  else
    if lt32 x2 0 then
      some (0, w)
    else
      (p_Y8_property 0 w).bind fun ⟨r2, w1⟩ =>
      if lt32 x1 r2 then
        (p_Y8_property 1 w1).bind fun ⟨r4, w3⟩ =>
        if lt32 x2 r4 then
          (p_Y8_cell x1 x2 w3).bind fun ⟨r6, w5⟩ =>
          if eq32 r6 (-1) then
            some (1, w5)
          else
            some (0, w5)
        else
          some (0, w3)
      else
        some (0, w1)
def p_L_touched_44 (w : Wd) : Option (Int × Wd) :=
  some (1, w)
def p_L_touched (x1 : Int) (x2 : Int) (w : Wd) : Option (Int × Wd) :=
  (p_L_flaw (x1 - 1) x2 w).bind fun ⟨r2, w1⟩ =>
  if eq32 r2 0 then
    (p_L_flaw (x1 + 1) x2 w1).bind fun ⟨r4, w3⟩ =>
    if eq32 r4 0 then
      (p_L_flaw x1 (x2 - 1) w3).bind fun ⟨r6, w5⟩ =>
      if eq32 r6 0 then
        (p_L_flaw x1 (x2 + 1) w5).bind fun ⟨r8, w7⟩ =>
        if eq32 r8 0 then
          some (0, w7)
        else
          p_L_touched_44 w7
      else
        p_L_touched_44 w5
    else
      p_L_touched_44 w3
  else
    p_L_touched_44 w1
def p_L_plain (x0 : Int) (w : Wd) : Option (Int × Wd) :=
  if lt32 x0 97 then
    some (2 + (rm32 (x0 - 48) 3), w)
  else
    some (1 + (rm32 (7 * (x0 - 97)) 5), w)
def p_L_stands_327 (k75 : Int → Int → Int → Int → Int → Int → Int → Wd → Option (Int × Wd)) (k190 : Int → Int → Int → Int → Int → Int → Int → Int → Int → Int → Int → Int → Wd → Option (Int × Wd)) (x1 : Int) (x2 : Int) (x3 : Int) (x5 : Int) (x6 : Int) (x7 : Int) (x8 : Int) (x9 : Int) (x10 : Int) (x11 : Int) (x12 : Int) (s0 : Int) (s1 : Int) (w : Wd) : Option (Int × Wd) :=
  k190 x1 (x2 + 1) x3 (s1 + s0) x5 x6 x7 x8 x9 x10 x11 (x12 + 1) w
def p_L_stands_310 (k75 : Int → Int → Int → Int → Int → Int → Int → Wd → Option (Int × Wd)) (k190 : Int → Int → Int → Int → Int → Int → Int → Int → Int → Int → Int → Int → Wd → Option (Int × Wd)) (x1 : Int) (x2 : Int) (x3 : Int) (x4 : Int) (x5 : Int) (x6 : Int) (x7 : Int) (x8 : Int) (x9 : Int) (x10 : Int) (x12 : Int) (x14 : Int) (s0 : Int) (s1 : Int) (w : Wd) : Option (Int × Wd) :=
  if lt32 x2 x6 then
    p_L_stands_327 k75 k190 x1 x2 x3 x5 x6 x7 x8 x9 x10 (s1 + s0) x12 0 x4 w
  else
    p_L_stands_327 k75 k190 x1 x2 x3 x5 x6 x7 x8 x9 x10 (s1 + s0) x12 x14 x4 w
def p_L_stands_275 (k75 : Int → Int → Int → Int → Int → Int → Int → Wd → Option (Int × Wd)) (k190 : Int → Int → Int → Int → Int → Int → Int → Int → Int → Int → Int → Int → Wd → Option (Int × Wd)) (x1 : Int) (x2 : Int) (x3 : Int) (x4 : Int) (x5 : Int) (x6 : Int) (x7 : Int) (x8 : Int) (x9 : Int) (x10 : Int) (x11 : Int) (x12 : Int) (x13 : Int) (s0 : Int) (w : Wd) : Option (Int × Wd) :=
  (p_L_plain x13 w).bind fun ⟨r2, w1⟩ =>
  if lt32 x2 x6 then
    p_L_stands_310 k75 k190 x1 x2 x3 x4 (x5 + (s0 - r2)) x6 x7 x8 x9 (x10 + s0) x12 s0 1 x11 w1
  else
    p_L_stands_310 k75 k190 x1 x2 x3 x4 (x5 + (s0 - r2)) x6 x7 x8 x9 (x10 + s0) x12 s0 0 x11 w1
def p_L_stands_495 (k75 : Int → Int → Int → Int → Int → Int → Int → Wd → Option (Int × Wd)) (x1 : Int) (x2 : Int) (x3 : Int) (x4 : Int) (x5 : Int) (x6 : Int) (x7 : Int) (w : Wd) : Option (Int × Wd) :=
  k75 x1 x2 x3 x4 x5 x6 (x7 + 1) w
def p_L_stands_468 (k75 : Int → Int → Int → Int → Int → Int → Int → Wd → Option (Int × Wd)) (x1 : Int) (x2 : Int) (x3 : Int) (x4 : Int) (x5 : Int) (x6 : Int) (x7 : Int) (x9 : Int) (x12 : Int) (x13 : Int) (w : Wd) : Option (Int × Wd) :=
  if lt32 0 x7 then
    if eq32 x12 0 then
      (p_Y8_property 3 w).bind fun ⟨r2, w1⟩ =>
      if lt32 x9 ((x13 + r2) + 1) then
        some (0, w1)
      else
        p_L_stands_495 k75 x1 x2 x3 x4 x5 x6 x7 w1
    else
      p_L_stands_495 k75 x1 x2 x3 x4 x5 x6 x7 w
  else
    p_L_stands_495 k75 x1 x2 x3 x4 x5 x6 x7 w
def p_L_stands_419 (k75 : Int → Int → Int → Int → Int → Int → Int → Wd → Option (Int × Wd)) (x1 : Int) (x2 : Int) (x3 : Int) (x4 : Int) (x5 : Int) (x6 : Int) (x7 : Int) (x8 : Int) (x9 : Int) (x12 : Int) (s0 : Int) (w : Wd) : Option (Int × Wd) :=
  if eq32 x12 0 then
    p_L_stands_468 k75 x1 x2 x3 x4 x5 x6 x7 x9 x12 s0 w
  else
    if lt32 x9 s0 then
      some (0, w)
    else
      if eq32 x9 s0 then
        (p_Y8_word (x7 - 1) 3 w).bind fun ⟨r2, w1⟩ =>
        (p_Y8_word (x7 - 1) 1 w1).bind fun ⟨r4, w3⟩ =>
        if lt32 x8 ((r2 + r4) + 1) then
          some (0, w3)
        else
          p_L_stands_468 k75 x1 x2 x3 x4 x5 x6 x7 x9 x12 s0 w3
      else
        p_L_stands_468 k75 x1 x2 x3 x4 x5 x6 x7 x9 x12 s0 w
def p_L_stands_399 (k75 : Int → Int → Int → Int → Int → Int → Int → Wd → Option (Int × Wd)) (x1 : Int) (x2 : Int) (x3 : Int) (x4 : Int) (x5 : Int) (x6 : Int) (x7 : Int) (x8 : Int) (x9 : Int) (s0 : Int) (w : Wd) : Option (Int × Wd) :=
  if lt32 0 x7 then
    (p_Y8_word (x7 - 1) 2 w).bind fun ⟨r2, w1⟩ =>
    p_L_stands_419 k75 x1 x2 x3 x4 x5 x6 x7 x8 x9 s0 r2 w1
  else
    p_L_stands_419 k75 x1 x2 x3 x4 x5 x6 x7 x8 x9 s0 0 w
def p_L_stands_398 (k75 : Int → Int → Int → Int → Int → Int → Int → Wd → Option (Int × Wd)) (x1 : Int) (x2 : Int) (x3 : Int) (x4 : Int) (x5 : Int) (x6 : Int) (x7 : Int) (x8 : Int) (x9 : Int) (w : Wd) : Option (Int × Wd) :=
  p_L_stands_399 k75 x1 x2 x3 x4 x5 x6 x7 x8 x9 0 w
def p_L_stands_339 (k75 : Int → Int → Int → Int → Int → Int → Int → Wd → Option (Int × Wd)) (x1 : Int) (x2 : Int) (x3 : Int) (x4 : Int) (x5 : Int) (x6 : Int) (x7 : Int) (x8 : Int) (x9 : Int) (x10 : Int) (x11 : Int) (w : Wd) : Option (Int × Wd) :=
  (p_Y8_word x7 4 w).bind fun ⟨r2, w1⟩ =>
  if eq32 r2 x10 then
    (p_Y8_word x7 5 w1).bind fun ⟨r4, w3⟩ =>
    if eq32 r4 x11 then
      if lt32 0 x7 then
        (p_Y8_word (x7 - 1) 0 w3).bind fun ⟨r6, w5⟩ =>
        (p_Y8_word x7 0 w5).bind fun ⟨r8, w7⟩ =>
        if eq32 r6 r8 then
          p_L_stands_399 k75 x1 x2 (x3 + x10) x4 x5 x6 x7 x8 x9 1 w7
        else
          p_L_stands_398 k75 x1 x2 (x3 + x10) x4 x5 x6 x7 x8 x9 w7
      else
        p_L_stands_398 k75 x1 x2 (x3 + x10) x4 x5 x6 x7 x8 x9 w3
    else
      some (0, w3)
  else
    some (0, w1)
def p_L_stands_190 (k75 : Int → Int → Int → Int → Int → Int → Int → Wd → Option (Int × Wd)) : Nat → Int → Int → Int → Int → Int → Int → Int → Int → Int → Int → Int → Int → Wd → Option (Int × Wd)
  | 0, _, _, _, _, _, _, _, _, _, _, _, _, _ => none
  | n + 1, x1, x2, x3, x4, x5, x6, x7, x8, x9, x10, x11, x12, w =>
    (p_Y8_word x7 1 w).bind fun ⟨r2, w1⟩ =>
    if lt32 x12 r2 then
      (p_Y8_letter x7 x12 w1).bind fun ⟨r4, w3⟩ =>
      (p_Y8_cell (x8 + x12) x9 w3).bind fun ⟨r6, w5⟩ =>
      if eq32 r6 r4 then
        (p_Y8_wordAt (x8 + x12) x9 w5).bind fun ⟨r8, w7⟩ =>
        if eq32 r8 x7 then
          (p_L_touched (x8 + x12) x9 w7).bind fun ⟨r10, w9⟩ =>
          if eq32 r10 0 then
            (p_L_plain r4 w9).bind fun ⟨r12, w11⟩ =>
            p_L_stands_275 k75 (p_L_stands_190 k75 n) x1 x2 x3 x4 x5 x6 x7 x8 x9 x10 x11 x12 r4 r12 w11
          else
            (p_L_plain r4 w9).bind fun ⟨r14, w13⟩ =>
            p_L_stands_275 k75 (p_L_stands_190 k75 n) x1 x2 x3 x4 x5 x6 x7 x8 x9 x10 x11 x12 r4 (2 * r14) w13
        else
          some (0, w7)
      else
        some (0, w5)
    else
      p_L_stands_339 k75 x1 x2 x3 x4 x5 x6 x7 x8 x9 x10 x11 w1
def p_L_stands_148 (k75 : Int → Int → Int → Int → Int → Int → Int → Wd → Option (Int × Wd)) (x1 : Int) (x2 : Int) (x3 : Int) (x4 : Int) (x5 : Int) (x6 : Int) (x7 : Int) (x8 : Int) (x9 : Int) (s0 : Int) (s1 : Int) (w : Wd) : Option (Int × Wd) :=
  if eq32 s1 s0 then
    if lt32 x7 x1 then
      p_L_stands_190 k75 FU x1 x2 x3 x4 x5 x6 x7 x8 x9 0 0 0 w
    else
      (p_Y8_word x7 4 w).bind fun ⟨r2, w1⟩ =>
      if eq32 r2 0 then
        (p_Y8_word x7 5 w1).bind fun ⟨r4, w3⟩ =>
        if eq32 r4 0 then
          p_L_stands_495 k75 x1 x2 x3 x4 x5 x6 x7 w3
        else
          some (0, w3)
      else
        some (0, w1)
  else
    some (0, w)
def p_L_stands_137 (k75 : Int → Int → Int → Int → Int → Int → Int → Wd → Option (Int × Wd)) (x1 : Int) (x2 : Int) (x3 : Int) (x4 : Int) (x5 : Int) (x6 : Int) (x7 : Int) (x8 : Int) (x9 : Int) (s0 : Int) (w : Wd) : Option (Int × Wd) :=
  if lt32 x7 x1 then
    p_L_stands_148 k75 x1 x2 x3 x4 x5 x6 x7 x8 x9 1 s0 w
  else
    p_L_stands_148 k75 x1 x2 x3 x4 x5 x6 x7 x8 x9 0 s0 w
def p_L_stands_124 (k75 : Int → Int → Int → Int → Int → Int → Int → Wd → Option (Int × Wd)) (x1 : Int) (x2 : Int) (x3 : Int) (x4 : Int) (x5 : Int) (x6 : Int) (x7 : Int) (x8 : Int) (x9 : Int) (s0 : Int) (s1 : Int) (w : Wd) : Option (Int × Wd) :=
  if eq32 s1 s0 then
    if lt32 x9 0 then
      p_L_stands_137 k75 x1 x2 x3 x4 x5 x6 x7 x8 x9 0 w
    else
      p_L_stands_137 k75 x1 x2 x3 x4 x5 x6 x7 x8 x9 1 w
  else
    some (0, w)
def p_L_stands_113 (k75 : Int → Int → Int → Int → Int → Int → Int → Wd → Option (Int × Wd)) (x1 : Int) (x2 : Int) (x3 : Int) (x4 : Int) (x5 : Int) (x6 : Int) (x7 : Int) (x8 : Int) (x9 : Int) (s0 : Int) (w : Wd) : Option (Int × Wd) :=
  if lt32 x7 x1 then
    p_L_stands_124 k75 x1 x2 x3 x4 x5 x6 x7 x8 x9 1 s0 w
  else
    p_L_stands_124 k75 x1 x2 x3 x4 x5 x6 x7 x8 x9 0 s0 w
def p_L_stands_597 (k510 : Int → Int → Int → Int → Int → Int → Int → Int → Wd → Option (Int × Wd)) (k526 : Int → Int → Int → Int → Int → Int → Int → Int → Int → Int → Wd → Option (Int × Wd)) (x2 : Int) (x3 : Int) (x4 : Int) (x5 : Int) (x6 : Int) (x7 : Int) (x8 : Int) (x9 : Int) (x11 : Int) (s0 : Int) (s1 : Int) (w : Wd) : Option (Int × Wd) :=
  k526 x2 x3 x4 x5 x6 x7 x8 x9 (s1 + s0) (x11 + 1) w
def p_L_stands_576 (k510 : Int → Int → Int → Int → Int → Int → Int → Int → Wd → Option (Int × Wd)) (k526 : Int → Int → Int → Int → Int → Int → Int → Int → Int → Int → Wd → Option (Int × Wd)) (x2 : Int) (x3 : Int) (x4 : Int) (x5 : Int) (x6 : Int) (x7 : Int) (x9 : Int) (x10 : Int) (x11 : Int) (s0 : Int) (s1 : Int) (w : Wd) : Option (Int × Wd) :=
  (p_Y8_cell x11 x9 w).bind fun ⟨r2, w1⟩ =>
  if eq32 r2 0 then
    p_L_stands_597 k510 k526 x2 x3 x4 x5 x6 x7 (s1 + s0) x9 x11 1 x10 w1
  else
    p_L_stands_597 k510 k526 x2 x3 x4 x5 x6 x7 (s1 + s0) x9 x11 0 x10 w1
def p_L_stands_554 (k510 : Int → Int → Int → Int → Int → Int → Int → Int → Wd → Option (Int × Wd)) (k526 : Int → Int → Int → Int → Int → Int → Int → Int → Int → Int → Wd → Option (Int × Wd)) (x2 : Int) (x3 : Int) (x4 : Int) (x5 : Int) (x6 : Int) (x8 : Int) (x9 : Int) (x10 : Int) (x11 : Int) (s0 : Int) (s1 : Int) (w : Wd) : Option (Int × Wd) :=
  (p_Y8_cell x11 x9 w).bind fun ⟨r2, w1⟩ =>
  if eq32 r2 (-1) then
    p_L_stands_576 k510 k526 x2 x3 x4 x5 x6 (s1 + s0) x9 x10 x11 1 x8 w1
  else
    p_L_stands_576 k510 k526 x2 x3 x4 x5 x6 (s1 + s0) x9 x10 x11 0 x8 w1
def p_L_stands_606 (k510 : Int → Int → Int → Int → Int → Int → Int → Int → Wd → Option (Int × Wd)) (x2 : Int) (x3 : Int) (x4 : Int) (x5 : Int) (x6 : Int) (x7 : Int) (x8 : Int) (x9 : Int) (x10 : Int) (w : Wd) : Option (Int × Wd) :=
  (p_Y8_freeIn x9 w).bind fun ⟨r2, w1⟩ =>
  if eq32 r2 x10 then
    k510 x2 x3 x4 x5 x6 x7 x8 (x9 + 1) w1
  else
    some (0, w1)
def p_L_stands_526 (k510 : Int → Int → Int → Int → Int → Int → Int → Int → Wd → Option (Int × Wd)) : Nat → Int → Int → Int → Int → Int → Int → Int → Int → Int → Int → Wd → Option (Int × Wd)
  | 0, _, _, _, _, _, _, _, _, _, _, _ => none
  | n + 1, x2, x3, x4, x5, x6, x7, x8, x9, x10, x11, w =>
    (p_Y8_property 0 w).bind fun ⟨r2, w1⟩ =>
    if lt32 x11 r2 then
      (p_Y8_cell x11 x9 w1).bind fun ⟨r4, w3⟩ =>
      if lt32 0 r4 then
        p_L_stands_554 k510 (p_L_stands_526 k510 n) x2 x3 x4 x5 x6 x8 x9 x10 x11 1 x7 w3
      else
        p_L_stands_554 k510 (p_L_stands_526 k510 n) x2 x3 x4 x5 x6 x8 x9 x10 x11 0 x7 w3
    else
      p_L_stands_606 k510 x2 x3 x4 x5 x6 x7 x8 x9 x10 w1
def p_L_stands_716 (s0 : UInt32) (s1 : UInt32) (w : Wd) : Option (Int × Wd) :=
  if eq32 (fcm s1 s0) 0 then
    (p_Y8_property 9 w).bind fun ⟨r2, w1⟩ =>
    if lt32 r2 0 then
      some (0, w1)
    else
      (p_Y8_property 9 w1).bind fun ⟨r4, w3⟩ =>
      (p_Y8_property 10 w3).bind fun ⟨r6, w5⟩ =>
      if lt32 r6 r4 then
        some (0, w5)
      else
        some (1, w5)
  else
    some (0, w)
def p_L_stands_694 (x2 : Int) (x6 : Int) (s0 : UInt64) (s1 : UInt64) (w : Wd) : Option (Int × Wd) :=
  if eq32 (dcm s1 s0) 0 then
    (p_X8_carvedShare w).bind fun ⟨r2, w1⟩ =>
    if eq32 x2 0 then
      p_L_stands_716 FP.fconst1 r2 w1
    else
      (fdv (fi2 x6) (fi2 x2)).bind fun v4 =>
      p_L_stands_716 v4 r2 w1
  else
    some (0, w)
def p_L_stands_625 (x2 : Int) (x3 : Int) (x4 : Int) (x5 : Int) (x6 : Int) (x7 : Int) (x8 : Int) (w : Wd) : Option (Int × Wd) :=
  if eq32 x7 x2 then
    (p_Y8_property 7 w).bind fun ⟨r2, w1⟩ =>
    if eq32 r2 x2 then
      (p_Y8_property 2 w1).bind fun ⟨r4, w3⟩ =>
      if eq32 x8 r4 then
        if lt32 x2 x6 then
          some (0, w3)
        else
          (p_X8_strokesLeft w3).bind fun ⟨r6, w5⟩ =>
          if eq32 r6 x4 then
            (p_X8_dear w5).bind fun ⟨r8, w7⟩ =>
            if eq32 r8 x5 then
              (p_X8_meanStrokes w7).bind fun ⟨r10, w9⟩ =>
              if eq32 x2 0 then
                p_L_stands_694 x2 x6 FP.dconst0 r10 w9
              else
                (ddv (di2 x3) (di2 x2)).bind fun v12 =>
                p_L_stands_694 x2 x6 v12 r10 w9
            else
              some (0, w7)
          else
            some (0, w5)
      else
        some (0, w3)
    else
      some (0, w1)
  else
    some (0, w)
def p_L_stands_510 : Nat → Int → Int → Int → Int → Int → Int → Int → Int → Wd → Option (Int × Wd)
  | 0, _, _, _, _, _, _, _, _, _ => none
  | n + 1, x2, x3, x4, x5, x6, x7, x8, x9, w =>
    (p_Y8_property 1 w).bind fun ⟨r2, w1⟩ =>
    if lt32 x9 r2 then
      p_L_stands_526 (p_L_stands_510 n) FU x2 x3 x4 x5 x6 x7 x8 x9 0 0 w1
    else
      p_L_stands_625 x2 x3 x4 x5 x6 x7 x8 w1
def p_L_stands_501 (x2 : Int) (x3 : Int) (x4 : Int) (x5 : Int) (x6 : Int) (w : Wd) : Option (Int × Wd) :=
  p_L_stands_510 FU x2 x3 x4 x5 x6 0 0 0 w
def p_L_stands_75 : Nat → Int → Int → Int → Int → Int → Int → Int → Wd → Option (Int × Wd)
  | 0, _, _, _, _, _, _, _, _ => none
  | n + 1, x1, x2, x3, x4, x5, x6, x7, w =>
    (p_Y8_property 5 w).bind fun ⟨r2, w1⟩ =>
    if lt32 x7 r2 then
      (p_Y8_word x7 3 w1).bind fun ⟨r4, w3⟩ =>
      (p_Y8_word x7 2 w3).bind fun ⟨r6, w5⟩ =>
      if lt32 r4 0 then
        p_L_stands_113 (p_L_stands_75 n) x1 x2 x3 x4 x5 x6 x7 r4 r6 0 w5
      else
        p_L_stands_113 (p_L_stands_75 n) x1 x2 x3 x4 x5 x6 x7 r4 r6 1 w5
    else
      p_L_stands_501 x2 x3 x4 x5 x6 w1
def p_L_stands_72 (x1 : Int) (x2 : Int) (x3 : Int) (x4 : Int) (x5 : Int) (x6 : Int) (w : Wd) : Option (Int × Wd) :=
  p_L_stands_75 FU x1 x2 x3 x4 x5 x6 0 w
def p_L_stands_52 (x1 : Int) (x2 : Int) (x3 : Int) (x4 : Int) (x5 : Int) (x6 : Int) (s0 : Int) (s1 : Int) (w : Wd) : Option (Int × Wd) :=
  if eq32 s1 s0 then
    (p_X8_firstMissing w).bind fun ⟨r2, w1⟩ =>
    if lt32 r2 0 then
      p_L_stands_72 x1 x2 x3 x4 x5 x6 w1
    else
      (p_X8_firstMissing w1).bind fun ⟨r4, w3⟩ =>
      if eq32 r4 x1 then
        p_L_stands_72 x1 x2 x3 x4 x5 x6 w3
      else
        some (0, w3)
  else
    some (0, w)
def p_L_stands_38 (x1 : Int) (x2 : Int) (x3 : Int) (x4 : Int) (x5 : Int) (x6 : Int) (s0 : Int) (w : Wd) : Option (Int × Wd) :=
  (p_Y8_property 5 w).bind fun ⟨r2, w1⟩ =>
  if eq32 x1 r2 then
    p_L_stands_52 x1 x2 x3 x4 x5 x6 1 s0 w1
  else
    p_L_stands_52 x1 x2 x3 x4 x5 x6 0 s0 w1
def p_L_stands (w : Wd) : Option (Int × Wd) :=
  (p_Y8_property 6 w).bind fun ⟨r2, w1⟩ =>
  (p_Y8_property 8 w1).bind fun ⟨r4, w3⟩ =>
  (p_X8_firstMissing w3).bind fun ⟨r6, w5⟩ =>
  if eq32 r6 (-1) then
    p_L_stands_38 r2 0 0 0 0 r4 1 w5
  else
    p_L_stands_38 r2 0 0 0 0 r4 0 w5
