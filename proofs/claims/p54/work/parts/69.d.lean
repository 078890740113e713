/-! ===== the model moves a part ===== -/
theorem moveNow9 {f : Rw} (hV : VB f) {w : Wd} (hp0 : gP w 50 3 = 51) (h51 : gA w 51 = f) {p t : Int} (hp : 0 ≤ p ∧ p < f 9) (ht : 0 ≤ t ∧ t < f 9) : ∃ w', p_X9_moveNow p t w = some w' ∧ frm S0 (fun o => o = 51 ∨ o = 56) w w' ∧ gA w' 51 = mvF f p t := by
  have h9 := hV.p
  have h10 := hV.w
  have hps := hV.ps hp.1 hp.2
  have hfn := firF_next hV hp.1 hp.2
  have hcr : cR w = f := by unfold cR; rw [hp0, h51]
  have hT := tpF_sel hV hp
  have hTV := hT.VB hV
  obtain ⟨t9, t10⟩ := tpF_9 hV hp
  have hfT := firF_rng hTV (p := t) (by omega)
  unfold p_X9_moveNow
  rw [kindOf_o hcr (by omega), Option.bind_some]
  dsimp only
  rw [manyOf_o hcr (by omega), Option.bind_some]
  dsimp only
  rw [firstOf_o hcr (by omega), Option.bind_some]
  dsimp only
  have hFU : FU = 1000000 := rfl
  -- the words aside
  have hcp := cp_loop (lp := fun n x w => p_X9_moveNow_37 n p t (pkF f p) (psF f p) (13 * psF f p) (319 + 13 * firF f p) x w) (fin := fun w => p_X9_moveNow_67 p t (pkF f p) (psF f p) (13 * psF f p) w) (dst := 56) (src := 51) (od := 0) (os := 319 + 13 * firF f p) (b := 13 * psF f p) (w := w) (by decide)
    (fun n x F x0 x1 => by
      have hpp : gP (setR w 56 F) 50 3 = 51 := hp0
      simp (disch := omega) only [p_X9_moveNow_37, hpp, lt32_o, inb_f, if_false]
      rw [if_pos x1, Int.zero_add])
    (fun n F => by
      simp (disch := omega) only [p_X9_moveNow_37, lt32_o, Int.lt_irrefl, if_false])
    FU (by omega) (by omega)
  rw [hcp]
  obtain ⟨wa, hwa⟩ : ∃ wa, wa = setR w 56 (fun j => if 0 ≤ j ∧ j < 0 + 13 * psF f p then gA w 51 (319 + 13 * firF f p + (j - 0)) else gA w 56 j) := ⟨_, rfl⟩
  rw [← hwa]
  have hBa : ∀ j, 0 ≤ j → j < 13 * psF f p → gA wa 56 j = f (319 + 13 * firF f p + j) := fun j j0 j1 => by
    rw [hwa, gA_setR, if_pos rfl, if_pos (by omega), h51, Int.sub_zero]
  have hfa : frm S0 (fun o => o = 51 ∨ o = 56) w wa := by rw [hwa]; exact frm_setR (frm_refl w) (Or.inr rfl)
  have hpa : gP wa 50 3 = 51 := (hfa.2.2 _ _).trans hp0
  have h51a : gA wa 51 = f := by rw [hwa]; exact h51
  unfold p_X9_moveNow_67
  obtain ⟨wb, b1, b2', b3⟩ := takePart9 hV hpa h51a hp
  rw [b1, Option.bind_some]
  have hpb : gP wb 50 3 = 51 := (b2'.2.2 _ _).trans hpa
  have hcrb : cR wb = tpF f p := by unfold cR; rw [hpb, b3]
  have hBb : ∀ j, 0 ≤ j → j < 13 * psF f p → gA wb 56 j = f (319 + 13 * firF f p + j) := fun j j0 j1 => (b2'.2.1 56 (by decide) j).trans (hBa j j0 j1)
  have hfb : frm S0 (fun o => o = 51 ∨ o = 56) w wb := frm_trans hfa (frm_mono b2' (fun _ _ h => h) (fun _ h => Or.inl h))
  rw [firstOf_o hcrb (by omega), Option.bind_some]
  dsimp only
  rw [if_neg (show ¬ inb 10 1099 = false by decide), hpb, b3]
  generalize hb0 : firF (tpF f p) t = b0 at *
  generalize hm : psF f p = m at *
  generalize hTT : tpF f p = T at *
  generalize hB : (fun i => f (319 + 13 * firF f p + i)) = B
  have hBB : ∀ j, 0 ≤ j → j < 13 * m → gA wb 56 j = B j := fun j j0 j1 => by rw [← hB]; exact hBb j j0 j1
  -- words go up
  obtain ⟨wc, c1, c2⟩ := loop_dn (lp := fun n x w => p_X9_moveNow_104 n t (pkF f p) m (13 * m) (319 + 13 * b0) x w) (fin := fun w => p_X9_moveNow_134 t (pkF f p) m (13 * m) (319 + 13 * b0) w) (b := 319 + 13 * b0)
    (I := fun x w' => x < 319 + 13 * T 10 ∧ w' = setR wb 51 (fun j => if x + 13 * m < j ∧ j < 319 + 13 * (T 10 + m) then T (j - 13 * m) else T j))
    (fun n x w' hx hI => by
      obtain ⟨i0, rfl⟩ := hI
      have hpp : ∀ F : Int → Int, gP (setR wb 51 F) 50 3 = 51 := fun _ => hpb
      simp (disch := omega) only [p_X9_moveNow_104, hpp, lt32_o, inb_f, if_false]
      rw [if_neg (by omega)]
      refine ⟨_, rfl, by omega, ?_⟩
      rw [sA_setR, setR_setR]
      refine setR_ext fun j => ?_
      show (if j = x + 13 * m then _ else _) = _
      by_cases d : j = x + 13 * m
      · rw [if_pos d, gA_setR, if_pos rfl, if_neg (by omega), if_pos (by omega), d]; exact congrArg T (by omega)
      · rw [if_neg d, gA_setR, if_pos rfl]
        by_cases e : x + 13 * m < j ∧ j < 319 + 13 * (T 10 + m)
        · rw [if_pos e, if_pos (by omega)]
        · rw [if_neg e, if_neg (by omega)])
    (fun n w' hI => by
      simp (disch := omega) only [p_X9_moveNow_104, lt32_o]
      rw [if_pos (by omega)])
    FU (319 + 13 * T 10 - 1) wb (by omega) ⟨by omega, (setR_self fun j => by rw [if_neg (by omega), b3]).symm⟩ (by omega)
  have hc1 : p_X9_moveNow_104 FU t (pkF f p) m (13 * m) (319 + 13 * b0) (319 + 13 * T 10 - 1) wb = p_X9_moveNow_134 t (pkF f p) m (13 * m) (319 + 13 * b0) wc := c1
  rw [hc1]
  obtain ⟨F1, hF1⟩ : ∃ F1 : Rw, F1 = fun j => if 319 + 13 * b0 + 13 * m ≤ j ∧ j < 319 + 13 * (T 10 + m) then T (j - 13 * m) else T j := ⟨_, rfl⟩
  have hwc : wc = setR wb 51 F1 := by
    rw [c2.2, hF1]
    refine setR_ext fun j => ?_
    by_cases e : 319 + 13 * b0 + 13 * m ≤ j ∧ j < 319 + 13 * (T 10 + m)
    · rw [if_pos e, if_pos (by omega)]
    · rw [if_neg e, if_neg (by omega)]
  unfold p_X9_moveNow_134
  -- the part's words
  have hcp2 := cp_loop (lp := fun n x w => p_X9_moveNow_137 n t (pkF f p) m (13 * m) (319 + 13 * b0) x w) (fin := fun w => p_X9_moveNow_167 t (pkF f p) m w) (dst := 51) (src := 56) (od := 319 + 13 * b0) (os := 0) (b := 13 * m) (w := wc) (by decide)
    (fun n x F x0 x1 => by
      have hpp : gP (setR wc 51 F) 50 3 = 51 := by rw [hwc]; exact hpb
      simp (disch := omega) only [p_X9_moveNow_137, hpp, lt32_o, inb_f, if_false]
      rw [if_pos x1, Int.zero_add])
    (fun n F => by
      simp (disch := omega) only [p_X9_moveNow_137, lt32_o, Int.lt_irrefl, if_false])
    FU (by omega) (by omega)
  rw [hcp2]
  obtain ⟨F2, hF2⟩ : ∃ F2 : Rw, F2 = fun j => if 319 + 13 * b0 ≤ j ∧ j < 319 + 13 * b0 + 13 * m then B (j - (319 + 13 * b0)) else F1 j := ⟨_, rfl⟩
  have hwd : setR wc 51 (fun j => if 319 + 13 * b0 ≤ j ∧ j < 319 + 13 * b0 + 13 * m then gA wc 56 (0 + (j - (319 + 13 * b0))) else gA wc 51 j) = setR wb 51 F2 := by
    rw [hwc, setR_setR, hF2]
    refine setR_ext fun j => ?_
    by_cases e : 319 + 13 * b0 ≤ j ∧ j < 319 + 13 * b0 + 13 * m
    · rw [if_pos e, if_pos e, gA_setR, if_neg (by decide), Int.zero_add]; exact hBB _ (by omega) (by omega)
    · rw [if_neg e, if_neg e, gA_setR, if_pos rfl]
  rw [hwd]
  have hlow : ∀ j, j < 319 → F2 j = T j := fun j hj => by rw [hF2, hF1]; dsimp only; rw [if_neg (by omega), if_neg (by omega)]
  unfold p_X9_moveNow_167
  rw [if_neg (show ¬ inb 9 1099 = false by decide), show gP (setR wb 51 F2) 50 3 = 51 from hpb, gA_setR, if_pos rfl, hlow 9 (by decide)]
  -- the parts go up
  obtain ⟨we, e1, e2⟩ := loop_dn (lp := fun n x w => p_X9_moveNow_184 n t (pkF f p) m x w) (fin := fun w => p_X9_moveNow_218 t (pkF f p) m w) (b := 299 + 2 * t)
    (I := fun x w' => x < 299 + 2 * T 9 ∧ w' = setR wb 51 (fun j => if x + 2 < j ∧ j < 299 + 2 * T 9 + 2 then T (j - 2) else F2 j))
    (fun n x w' hx hI => by
      obtain ⟨i0, rfl⟩ := hI
      have hpp : ∀ F : Int → Int, gP (setR wb 51 F) 50 3 = 51 := fun _ => hpb
      simp (disch := omega) only [p_X9_moveNow_184, hpp, lt32_o, inb_f, if_false]
      rw [if_neg (by omega)]
      refine ⟨_, rfl, by omega, ?_⟩
      rw [sA_setR, setR_setR]
      refine setR_ext fun j => ?_
      show (if j = x + 2 then _ else _) = _
      by_cases d : j = x + 2
      · rw [if_pos d, gA_setR, if_pos rfl, if_neg (by omega), if_pos (by omega), d, hlow x (by omega)]; exact congrArg T (by omega)
      · rw [if_neg d, gA_setR, if_pos rfl]
        by_cases e : x + 2 < j ∧ j < 299 + 2 * T 9 + 2
        · rw [if_pos e, if_pos (by omega)]
        · rw [if_neg e, if_neg (by omega)])
    (fun n w' hI => by
      simp (disch := omega) only [p_X9_moveNow_184, lt32_o]
      rw [if_pos (by omega)])
    FU (299 + 2 * T 9 - 1) (setR wb 51 F2) (by omega) ⟨by omega, setR_ext fun j => (if_neg (by omega)).symm⟩ (by omega)
  have he1 : p_X9_moveNow_184 FU t (pkF f p) m (299 + 2 * T 9 - 1) (setR wb 51 F2) = p_X9_moveNow_218 t (pkF f p) m we := e1
  rw [he1]
  obtain ⟨F3, hF3⟩ : ∃ F3 : Rw, F3 = fun j => if 299 + 2 * t - 1 + 2 < j ∧ j < 299 + 2 * T 9 + 2 then T (j - 2) else F2 j := ⟨_, rfl⟩
  have hwe : we = setR wb 51 F3 := by rw [e2.2, hF3]
  unfold p_X9_moveNow_218
  have hpe : gP we 50 3 = 51 := by rw [hwe]; exact hpb
  have i1 : inb (299 + 2 * t + 0) 1099 = true := by rw [← Bool.not_eq_false]; rw [inb_f (by omega)]; exact id
  have i2 : inb (299 + 2 * t + 1) 1099 = true := by rw [← Bool.not_eq_false]; rw [inb_f (by omega)]; exact id
  rw [i1, i2, if_neg (by decide), if_neg (by decide), Option.bind_some]
  have hpq : ∀ (a b : Int), gP (sA we 51 a b) 50 3 = 51 := fun _ _ => hpe
  have hpr : ∀ (a b c d : Int), gP (sA (sA we 51 a b) 51 c d) 50 3 = 51 := fun _ _ _ _ => hpe
  have hps' : ∀ (a b c d e g : Int), gP (sA (sA (sA we 51 a b) 51 c d) 51 e g) 50 3 = 51 := fun _ _ _ _ _ _ => hpe
  rw [if_neg (show ¬ inb 9 1099 = false by decide), if_neg (show ¬ inb 9 1099 = false by decide), if_neg (show ¬ inb 10 1099 = false by decide), Option.bind_some, if_neg (show ¬ inb 10 1099 = false by decide), Option.bind_some]
  simp only [hpe, hpq, hpr, hps']
  refine ⟨_, rfl, ?_, ?_⟩
  · rw [hwe]; exact frm_sA (frm_sA (frm_sA (frm_sA (frm_setR hfb (Or.inl rfl)) (Or.inl rfl)) (Or.inl rfl)) (Or.inl rfl)) (Or.inl rfl)
  · have q9 : ∀ (a b c d : Int), a ≠ 9 → c ≠ 9 → gA (sA (sA we 51 a b) 51 c d) 51 9 = T 9 := fun a b c d ha hc => by
      rw [gA_sA, if_neg (by omega), gA_sA, if_neg (by omega), hwe, gA_setR, if_pos rfl, hF3]; dsimp only; rw [if_neg (by omega), hlow 9 (by decide)]
    have q10 : ∀ (a b c d e : Int), a ≠ 10 → c ≠ 10 → gA (sA (sA (sA we 51 a b) 51 c d) 51 9 e) 51 10 = T 10 := fun a b c d e ha hc => by
      rw [gA_sA, if_neg (by omega), gA_sA, if_neg (by omega), gA_sA, if_neg (by omega), hwe, gA_setR, if_pos rfl, hF3]; dsimp only; rw [if_neg (by omega), hlow 10 (by decide)]
    rw [q9 _ _ _ _ (by omega) (by omega), q10 _ _ _ _ _ (by omega) (by omega)]
    rw [gA_upd, gA_upd, gA_upd, gA_upd, show gA we 51 = F3 by rw [hwe]; funext j; exact (gA_setR ..).trans (if_pos rfl)]
    unfold mvF
    rw [hTT, hb0, hm, hB]
    funext j
    unfold upd1 inF
    by_cases d1 : j = 10
    · rw [if_pos d1, if_pos d1]
    · rw [if_neg d1, if_neg d1]
      by_cases d2 : j = 9
      · rw [if_pos d2, if_pos d2]
      · rw [if_neg d2, if_neg d2]
        by_cases d3 : j = 299 + 2 * t + 1
        · rw [if_pos d3, if_pos d3]
        · rw [if_neg d3, if_neg d3]
          by_cases d4 : j = 299 + 2 * t
          · rw [if_pos (by omega), if_pos d4]
          · rw [if_neg (by omega), if_neg d4, hF3]
            dsimp only
            by_cases d5 : 299 + 2 * t + 2 ≤ j ∧ j < 299 + 2 * T 9 + 2
            · rw [if_pos d5, if_pos (by omega)]
            · rw [if_neg d5, if_neg (by omega), hF2, hF1]
