/-! ===== properties, parts, words, strokes that flaws make ===== -/
section OPS6
variable {k na : Nat} {wC wM : Wd} {xs : Nat → Int32} {i : Int}
theorem op5 (h : RR k na wC wM) : ∃ z, p_op_5 xs i na wC wM = some z ∧ RR k z.1 z.2.1 z.2.2 := by
  unfold p_op_5 p_L_property
  have hx := sc_rng xs (i + 1)
  generalize sc xs (i + 1) = x at *
  have hx' := hx
  unfold rng at hx'
  by_cases c : 0 ≤ x ∧ x ≤ 13
  · obtain ⟨w', a1, a2, a3, a4⟩ := h.lay (frmM_0 wM (b2 (!true)))
    obtain ⟨e1, e2, e3⟩ := h.ny a2
    have hM : p_X9_property x wM = (if lt32 x 0 then
      if inb 7 1099 = false then none else
      some (gA w' 51 7, w')
    else if lt32 12 x then
      if inb 7 1099 = false then none else
      some (gA w' 51 7, w')
    else
    if lt32 x 6 then
      if lt32 x 3 then
        if lt32 x 1 then
          (p_X9_wide w').bind fun ⟨r18, w17⟩ =>
          some (r18, w17)
        else
          if lt32 x 2 then
            (p_X9_high w').bind fun ⟨r22, w21⟩ =>
            some (r22, w21)
          else
            (p_X9_flaws w').bind fun ⟨r24, w23⟩ =>
            some (r24, w23)
      else
        if lt32 x 4 then
          if inb 2 1099 = false then none else
          some (gA w' 51 2, w')
        else
          if lt32 x 5 then
            if inb 9 1099 = false then none else
            some (gA w' 51 9, w')
          else
            if inb 10 1099 = false then none else
            some (gA w' 51 10, w')
    else
      if lt32 x 9 then
        if lt32 x 7 then
          some (nLF (gA wM 51), w')
        else
          if lt32 x 8 then
            (p_X9_letters w').bind fun ⟨r36, w35⟩ =>
            some (r36, w35)
          else
            if inb 8 1099 = false then none else
            some (gA w' 51 8, w')
      else
        if lt32 x 11 then
          if lt32 x 10 then
            if inb 5 1099 = false then none else
            some (gA w' 51 5, w')
          else
            if inb 3 1099 = false then none else
            some (gA w' 51 3, w')
        else
          if lt32 x 12 then
            if inb 4 1099 = false then none else
            some (gA w' 51 4, w')
          else
            if inb 6 1099 = false then none else
            some (gA w' 51 6, w')) := by
      unfold p_X9_property
      rw [w32_o hx', in_o (by omega), Option.bind_some]
      dsimp only
      rw [passes_o, Option.bind_some, decide_eq_true c]
      dsimp only
      rw [if_neg (show ¬ eq32 (b2 true) 0 = true by decide +kernel), a1, Option.bind_some]
    rw [hM]
    have key : ∀ v : Int, ∀ pM : Option (Int × Wd), p_X8_property x na wC = some (.inl v, na, wC) → pM = some (v, w') →
        ∃ z, (((p_X8_property x na wC).bind (wrL (hnd1 2) (fun r w => sA w 34 0 (w32 r)))).bind fun z1 => pM.bind fun m3 => (p_X9_thrown m3.2).bind fun m4 => if eq32 m4.1 z1.1 = true then (if eq32 z1.1 0 = true then (if eq32 (lcm64 (gA z1.2.2 34 0) (w32 m3.1)) 0 = true then (some (z1.2.1, z1.2.2, m4.2)) else (none)) else (some (z1.2.1, z1.2.2, m4.2))) else (none)) = some z ∧ RR k z.1 z.2.1 z.2.2 :=
      fun v pM q1 q2 => wok (na' := na) (wC' := wC) (wM' := w') q1 q2 a4 (h.fr (frm_refl _) a2)
    obtain ⟨s0, s1, s2, s4, s7, s11⟩ := h.S.1
    obtain ⟨t0, t1, t2, t3, t4⟩ := h.S.2.1
    have l4 : gF wC 10 4 = nLF (gA wM 51) := h.L.1.1
    have l5 : gF wC 10 5 = laF (gA wM 51) (nLF (gA wM 51)) := h.T.1
    have hlet := letters_o e1 h.B a3.1
    have hx14 : x = 0 ∨ x = 1 ∨ x = 2 ∨ x = 3 ∨ x = 4 ∨ x = 5 ∨ x = 6 ∨ x = 7 ∨ x = 8 ∨ x = 9 ∨ x = 10 ∨ x = 11 ∨ x = 12 ∨ x = 13 := by omega
    have dC : ∀ b : Bool, ¬ (b = true) → b = false := fun b hb => bfF hb
    rcases hx14 with rfl | rfl | rfl | rfl | rfl | rfl | rfl | rfl | rfl | rfl | rfl | rfl | rfl | rfl
    · exact key (gA wM 51 0) _ (by unfold p_X8_property; simp (disch := decide) only [lt32_o, Int.reduceLT, if_true, if_false, s0]) (by simp (disch := decide) only [lt32_o, Int.reduceLT, if_true, if_false, wide_o e1, Option.bind_some])
    · exact key (gA wM 51 1) _ (by unfold p_X8_property; simp (disch := decide) only [lt32_o, Int.reduceLT, if_true, if_false, s1]) (by simp (disch := decide) only [lt32_o, Int.reduceLT, if_true, if_false, high_o e1, Option.bind_some])
    · exact key (nfF (gA wM 51)) _ (by unfold p_X8_property; simp (disch := decide) only [lt32_o, Int.reduceLT, if_true, if_false, flawC_o SLo_0 h.B h.S, Option.bind_some]) (by simp (disch := decide) only [lt32_o, Int.reduceLT, if_true, if_false, flaws_o e1, Option.bind_some])
    · exact key (gA wM 51 2) _ (by unfold p_X8_property; simp (disch := decide) only [lt32_o, Int.reduceLT, if_true, if_false, s2]) (by simp (disch := decide) only [lt32_o, Int.reduceLT, if_true, if_false, inb_f, e3])
    · exact key (gA wM 51 9) _ (by unfold p_X8_property; simp (disch := decide) only [lt32_o, Int.reduceLT, if_true, if_false, s4]) (by simp (disch := decide) only [lt32_o, Int.reduceLT, if_true, if_false, inb_f, e3])
    · exact key (gA wM 51 10) _ (by unfold p_X8_property; simp (disch := decide) only [lt32_o, Int.reduceLT, if_true, if_false, s7]) (by simp (disch := decide) only [lt32_o, Int.reduceLT, if_true, if_false, inb_f, e3])
    · exact key (nLF (gA wM 51)) _ (by unfold p_X8_property; simp (disch := decide) only [lt32_o, Int.reduceLT, if_true, if_false, l4]) (by simp (disch := decide) only [lt32_o, Int.reduceLT, if_true, if_false])
    · exact key (laF (gA wM 51) (nLF (gA wM 51))) _ (by unfold p_X8_property; simp (disch := decide) only [lt32_o, Int.reduceLT, if_true, if_false, l5]) (by simp (disch := decide) only [lt32_o, Int.reduceLT, if_true, if_false, hlet, Option.bind_some])
    · exact key (gA wM 51 8) _ (by unfold p_X8_property; simp (disch := decide) only [lt32_o, Int.reduceLT, if_true, if_false, s11]) (by simp (disch := decide) only [lt32_o, Int.reduceLT, if_true, if_false, inb_f, e3])
    · exact key (gA wM 51 5) _ (by unfold p_X8_property; simp (disch := decide) only [lt32_o, Int.reduceLT, if_true, if_false]; rw [show gF wC 111 2 = gA wM 51 5 from t2]) (by simp (disch := decide) only [lt32_o, Int.reduceLT, if_true, if_false, inb_f, e3])
    · exact key (gA wM 51 3) _ (by unfold p_X8_property; simp (disch := decide) only [lt32_o, Int.reduceLT, if_true, if_false]; rw [show gF wC 111 0 = gA wM 51 3 from t0]) (by simp (disch := decide) only [lt32_o, Int.reduceLT, if_true, if_false, inb_f, e3])
    · exact key (gA wM 51 4) _ (by unfold p_X8_property; simp (disch := decide) only [lt32_o, Int.reduceLT, if_true, if_false]; rw [show gF wC 111 1 = gA wM 51 4 from t1]) (by simp (disch := decide) only [lt32_o, Int.reduceLT, if_true, if_false, inb_f, e3])
    · exact key (gA wM 51 6) _ (by unfold p_X8_property; simp (disch := decide) only [lt32_o, Int.reduceLT, if_true, if_false]; rw [show gF wC 111 3 = gA wM 51 6 from t3]) (by simp (disch := decide) only [lt32_o, Int.reduceLT, if_true, if_false, inb_f, e3])
    · exact key (gA wM 51 7) _ (by unfold p_X8_property; simp (disch := decide) only [lt32_o, Int.reduceLT, if_true, if_false]; rw [show gF wC 111 4 = gA wM 51 7 from t4]) (by simp (disch := decide) only [lt32_o, Int.reduceLT, if_true, if_false, inb_f, e3])
  · unfold p_X8_property p_X9_property
    rw [w32_o hx', in_o (by omega), Option.bind_some]
    dsimp only
    rw [passes_o, Option.bind_some, decide_eq_false c]
    dsimp only
    rw [if_pos (show eq32 (b2 false) 0 = true by decide +kernel)]
    by_cases d : lt32 x 0 = true
    · rw [if_pos d]
      exact wex (e := 2) (na' := na) (wC' := wC) rfl rfl rfl (Or.inl rfl) rfl (h.fr (frm_refl _) (frmM_0 _ _))
    · rw [if_neg d, if_pos (by rw [lt32_o (by omega)] at d ⊢; omega)]
      exact wex (e := 2) (na' := na) (wC' := wC) rfl rfl rfl (Or.inl rfl) rfl (h.fr (frm_refl _) (frmM_0 _ _))
theorem partOfC_o (h : RR k na wC wM) {v : Int} (hv : 0 ≤ v ∧ v < gA wM 51 10) : ∃ p, p_X6_partOf 100 v wC = some (p, wC) ∧ 0 ≤ p ∧ p < gA wM 51 9 ∧ firF (gA wM 51) p ≤ v ∧ v < firF (gA wM 51) (p + 1) := by
  have hp := h.B.p
  have hw := h.B.w
  have e4 : gF wC 100 4 = gA wM 51 9 := h.S.1.2.2.2.1
  have h9 : 0 < gA wM 51 9 := by
    rcases Int.lt_or_le 0 (gA wM 51 9) with c | c
    · exact c
    · have := h.B.fir
      rw [show gA wM 51 9 = 0 by omega, firF_0] at this
      omega
  unfold p_X6_partOf
  rw [sizeC_o SLo_0 h.B h.S ⟨Int.le_refl _, h9⟩, Option.bind_some]
  have hl : ∀ (m n : Nat) (p : Int), 0 ≤ p → p < gA wM 51 9 → p + m = gA wM 51 9 → firF (gA wM 51) p ≤ v → m < n → ∃ q, p_X6_partOf_11 100 n v p (firF (gA wM 51) (p + 1)) wC = some (q, wC) ∧ 0 ≤ q ∧ q < gA wM 51 9 ∧ firF (gA wM 51) q ≤ v ∧ v < firF (gA wM 51) (q + 1) := by
    intro m
    induction m with
    | zero => intro n p p0 p1 p2; exact absurd p2 (by omega)
    | succ m ih =>
      intro n p p0 p1 p2 p3 hn
      obtain ⟨n', rfl⟩ : ∃ n', n = n' + 1 := ⟨n - 1, by omega⟩
      have hr := firF_rng h.B (show p + 1 ≤ gA wM 51 9 by omega)
      simp (disch := omega) only [p_X6_partOf_11, e4, lt32_o]
      by_cases c1 : p < gA wM 51 9 - 1
      · rw [if_pos c1]
        by_cases c2 : v < firF (gA wM 51) (p + 1)
        · rw [if_pos c2]; exact ⟨p, rfl, p0, p1, p3, c2⟩
        · rw [if_neg c2, sizeC_o SLo_0 h.B h.S ⟨by omega, by omega⟩, Option.bind_some]
          dsimp only
          rw [← firF_step (show 0 ≤ p + 1 by omega)]
          exact ih n' (p + 1) (by omega) (by omega) (by omega) (by omega) (by omega)
      · rw [if_neg c1]
        refine ⟨p, rfl, p0, p1, p3, ?_⟩
        rw [show p + 1 = gA wM 51 9 by omega, h.B.fir]; exact hv.2
  have h1 := hl (gA wM 51 9).toNat FU 0 (Int.le_refl _) h9 (by omega) (by rw [firF_0]; exact hv.1) (by have : FU = 1000000 := rfl; omega)
  rw [firF_step (Int.le_refl 0), firF_0, Int.zero_add] at h1
  exact h1
theorem partOf_o {f : Rw} (hV : VB f) {w : Wd} (hf : cR w = f) {v p : Int} (hv : 0 ≤ v ∧ v < f 10) (hp : 0 ≤ p ∧ p < f 9) (h1 : firF f p ≤ v) (h2 : v < firF f (p + 1)) : p_X9_partOf v w = some (p, w) := by
  have hp9 := hV.p
  have hw := hV.w
  have hl : ∀ (m n : Nat) (x : Int), 0 ≤ x → x + m = p → m < n → p_X9_partOf_2 n v x w = some (p, w) := by
    intro m
    induction m with
    | zero =>
      intro n x x0 x1 hn
      obtain ⟨n', rfl⟩ : ∃ n', n = n' + 1 := ⟨n - 1, by omega⟩
      have hr := firF_rng hV (show x + 1 ≤ f 9 by omega)
      simp only [p_X9_partOf_2]
      rw [firstOf_o hf (by omega), Option.bind_some]
      simp (disch := omega) only [lt32_o]
      rw [show x = p by omega, if_pos h2]
    | succ m ih =>
      intro n x x0 x1 hn
      obtain ⟨n', rfl⟩ : ∃ n', n = n' + 1 := ⟨n - 1, by omega⟩
      have hr := firF_rng hV (show x + 1 ≤ f 9 by omega)
      have hm := firF_mono hV (show x + 1 ≤ p by omega) (by omega)
      simp only [p_X9_partOf_2]
      rw [firstOf_o hf (by omega), Option.bind_some]
      simp (disch := omega) only [lt32_o]
      rw [if_neg (by omega)]
      exact ih n' (x + 1) (by omega) (by omega) (by omega)
  unfold p_X9_partOf
  exact hl p.toNat FU 0 (Int.le_refl _) (by omega) (by have : FU = 1000000 := rfl; omega)
theorem carvedC_o (h : RR k na wC wM) {v : Int} (hv : 0 ≤ v ∧ v < gA wM 51 10) : p_X8_carvedOfWord v wC = some (max 0 (min (gA wM 51 8 - laF (gA wM 51) v) (wnF (gA wM 51) v)), wC) := by
  obtain ⟨vB, v1, v3, v4, v5, v6, v7, v8⟩ := h.V
  have h288 := (lF_ok h.B).2.2.2
  have hw := h.B.w
  have hwn := h.B.wn hv.1 hv.2
  have hla := laF_rng h.B hv.1 (show v ≤ gA wM 51 10 by omega)
  unfold p_X8_carvedOfWord
  rw [aheadC_o SLo_0 h.B h.S (by omega), Option.bind_some]
  dsimp only
  rw [lenC_o SLo_0 h.B h.S hv, Option.bind_some]
  dsimp only
  rw [show gF wC 100 11 = gA wM 51 8 from h.S.1.2.2.2.2.2, mn32_o (by omega), mx32_o (by omega)]
theorem carvedOf_o (h : RR k na wC wM) {w : Wd} (hw : frm SMf TMf wM w) {v : Int} (hv : 0 ≤ v ∧ v < gA wM 51 10) : p_X9_carvedOf v w = some (max 0 (min (gA wM 51 8 - laF (gA wM 51) v) (wnF (gA wM 51) v)), w) := by
  obtain ⟨e1, e2, e3⟩ := h.ny hw
  obtain ⟨vB, v1, v3, v4, v5, v6, v7, v8⟩ := h.V
  have h288 := (lF_ok h.B).2.2.2
  have hw := h.B.w
  have hwn := h.B.wn hv.1 hv.2
  have hla := laF_rng h.B hv.1 (show v ≤ gA wM 51 10 by omega)
  unfold p_X9_carvedOf
  rw [bytesOf_o e1 (by omega), Option.bind_some]
  dsimp only
  rw [if_neg (by decide), lettersAhead_o e1 (by omega), Option.bind_some]
  dsimp only
  rw [e3, mn32_o (by omega), mx32_o (by omega)]
  exact congrArg (fun q => some (q, w)) (by omega)
theorem strokesW_sum {f : Rw} (hV : VB f) {v : Int} (hv : 0 ≤ v ∧ v < nLF f) : ∀ (m : Nat), (m : Int) ≤ wnF f v → sm (cosF f) (laF f v + m).toNat = sm (cosF f) (laF f v).toNat + sm (strF f v) m := by
  have hn := nL_rng hV
  have hla := laF_rng hV hv.1 (show v ≤ f 10 by omega)
  intro m
  induction m with
  | zero => intro _; show sm (cosF f) (laF f v + ((0 : Nat) : Int)).toNat = _ + 0; rw [show laF f v + ((0 : Nat) : Int) = laF f v by omega]; omega
  | succ m ih =>
    intro hm
    rw [show laF f v + ((m + 1 : Nat) : Int) = laF f v + m + 1 by omega, sm_step (by omega), ih (by omega)]
    show _ + cosF f (laF f v + m) = _ + (sm (strF f v) m + strF f v m)
    have : cosF f (laF f v + m) = strF f v m := by
      unfold cosF
      rw [wl_uniq hV (v := v) ⟨hv.1, by omega⟩ (by omega) (by omega), show laF f v + (m : Int) - laF f v = m by omega]
    rw [this]; omega
theorem strokesW_o {f : Rw} (hV : VB f) {w : Wd} (hf : cR w = f) (hA : AR9 w (nLF f) (rLF f) (cLF f)) {v : Int} (hv : 0 ≤ v ∧ v < nLF f) : p_X9_strokesOfWord v w = some (sm (strF f v) (wnF f v).toNat, w) := by
  have hn := nL_rng hV
  have hwn := hV.wn hv.1 (show v < f 10 by omega)
  have hl := sum_loop (lp := fun n x s => p_X9_strokesOfWord_4 n v s x w) (g := strF f v) (b := wnF f v) (w := w)
    (fun n x s x0 x1 => by
      show p_X9_strokesOfWord_4 (n + 1) v s x w = p_X9_strokesOfWord_4 n v _ (x + 1) w
      simp only [p_X9_strokesOfWord_4]
      rw [bytesOf_o hf (by omega), Option.bind_some]
      simp (disch := omega) only [lt32_o, x1, if_true]
      rw [strokesOf_o hf hV hA hv ⟨x0, x1⟩, Option.bind_some])
    (fun n x s x0 => by
      show p_X9_strokesOfWord_4 (n + 1) v s x w = _
      simp only [p_X9_strokesOfWord_4]
      rw [bytesOf_o hf (by omega), Option.bind_some]
      simp (disch := omega) only [lt32_o]
      rw [if_neg (by omega)])
    FU 0 0 (by decide) (by omega) (by have : FU = 1000000 := rfl; omega)
  unfold p_X9_strokesOfWord
  refine hl.trans (congrArg (fun q => some (q, w)) ?_)
  show 0 + (_ - 0) = _
  omega
theorem strokesWC_o (h : RR k na wC wM) {v : Int} (hv : 0 ≤ v ∧ v < gA wM 51 10) : p_X8_strokesOfWord v wC = some (if v < nLF (gA wM 51) then sm (strF (gA wM 51) v) (wnF (gA wM 51) v).toNat else 0, wC) := by
  have hn := nL_rng h.B
  have hw := h.B.w
  have hwn := h.B.wn hv.1 hv.2
  unfold p_X8_strokesOfWord
  rw [show gF wC 10 4 = nLF (gA wM 51) from h.L.1.1]
  simp (disch := omega) only [lt32_o]
  by_cases c : v < nLF (gA wM 51)
  · have hla := laF_rng h.B hv.1 (show v ≤ gA wM 51 10 by omega)
    have hle := laF_mono h.B (show v + 1 ≤ nLF (gA wM 51) by omega) hn.2.1
    rw [laF_step hv.1] at hle
    rw [if_pos c, if_pos c, aheadC_o SLo_0 h.B h.S (by omega), Option.bind_some]
    dsimp only
    rw [lenC_o SLo_0 h.B h.S hv, Option.bind_some]
    dsimp only
    rw [costsOf_o h ⟨by omega, by omega, by omega⟩, Option.bind_some]
    have hs := strokesW_sum h.B ⟨hv.1, c⟩ (wnF (gA wM 51) v).toNat (by omega)
    rw [Int.toNat_of_nonneg (show 0 ≤ wnF (gA wM 51) v by omega)] at hs
    rw [hs]
    exact congrArg (fun q => some (q, wC)) (by omega)
  · rw [if_neg c, if_neg c]
theorem op7 (h : RR k na wC wM) : ∃ z, p_op_7 xs i na wC wM = some z ∧ RR k z.1 z.2.1 z.2.2 := by
  unfold p_op_7 p_L_word
  have hx := sc_rng xs (i + 1)
  have hy := sc_rng xs (i + 2)
  generalize sc xs (i + 1) = x at *
  generalize sc xs (i + 2) = y at *
  have hy' := hy
  have hx' := hx
  unfold rng at hy' hx'
  unfold p_X8_word p_X9_word
  rw [needWord_o h hx, isWordNumber_o h.f h.B hx, Option.bind_some]
  dsimp only
  rw [w32_o hy', in_o (by omega), Option.bind_some]
  dsimp only
  rw [passes2_o, Option.bind_some]
  simp only [eq32_b2]
  by_cases c : 0 ≤ x ∧ x < gA wM 51 10
  · rw [if_pos c, decide_eq_true c, bindG_l]
    simp (disch := omega) only [lt32_o]
    by_cases d : 0 ≤ y ∧ y ≤ 5
    · rw [decide_eq_true d, if_neg (show ¬ (true && true) = false by decide)]
      obtain ⟨w', a1, a2, a3, a4⟩ := h.lay (frmM_0 wM 0)
      obtain ⟨e1, e2, e3⟩ := h.ny a2
      have hn := nL_rng h.B
      have hw := h.B.w
      have hwn := h.B.wn c.1 c.2
      show ∃ z, ((Option.bind _ _).bind fun z1 => ((p_X9_lay (sF wM 50 0 0)).bind _).bind _) = some z ∧ _
      rw [a1, Option.bind_some]
      have key : ∀ v : Int, ∀ p8 : Option Rz, ∀ pM : Option (Int × Wd), p8 = some (.inl v, na, wC) → pM = some (v, w') →
          ∃ z, ((p8.bind (wrL (hnd2 3 2) (fun r w => sA w 34 0 (w32 r)))).bind fun z1 => pM.bind fun m3 => (p_X9_thrown m3.2).bind fun m4 => if eq32 m4.1 z1.1 = true then (if eq32 z1.1 0 = true then (if eq32 (lcm64 (gA z1.2.2 34 0) (w32 m3.1)) 0 = true then (some (z1.2.1, z1.2.2, m4.2)) else (none)) else (some (z1.2.1, z1.2.2, m4.2))) else (none)) = some z ∧ RR k z.1 z.2.1 z.2.2 :=
        fun v p8 pM q1 q2 => wok (na' := na) (wC' := wC) (wM' := w') q1 q2 a4 (h.fr (frm_refl _) a2)
      have h36 : (if lt32 x (nLF (gA wM 51)) = true then p_X9_word_36 x y 1 w' else p_X9_word_36 x y 0 w') = p_X9_word_36 x y (b2 (decide (x < nLF (gA wM 51)))) w' := by
        simp (disch := omega) only [lt32_o]
        by_cases q : x < nLF (gA wM 51)
        · rw [if_pos q, decide_eq_true q]; rfl
        · rw [if_neg q, decide_eq_false q]; rfl
      dsimp only
      rw [h36]
      unfold p_X9_word_36
      simp only [eq32_b2]
      have hy6 : y = 0 ∨ y = 1 ∨ y = 2 ∨ y = 3 ∨ y = 4 ∨ y = 5 := by omega
      rcases hy6 with rfl | rfl | rfl | rfl | rfl | rfl
      · obtain ⟨p, p1, p2, p3, p4, p5⟩ := partOfC_o h c
        refine key p _ _ ?_ ?_
        · simp only [Int.reduceLT, if_true, if_false, p1, Option.bind_some]
        · simp (disch := decide) only [lt32_o, Int.reduceLT, if_true, if_false, partOf_o h.B e1 c ⟨p2, p3⟩ p4 p5, Option.bind_some]
      · refine key (wnF (gA wM 51) x) _ _ ?_ ?_
        · simp only [Int.reduceLT, if_true, if_false, lenC_o SLo_0 h.B h.S c, Option.bind_some]
        · have hb := bytesOf_o e1 (v := x) (by omega)
          simp (disch := decide) only [lt32_o, Int.reduceLT, if_true, if_false, hb, Option.bind_some]
      · refine key (if x < nLF (gA wM 51) then rLF (gA wM 51) x else -1) _ _ ?_ ?_
        · simp only [Int.reduceLT, if_true, if_false, at11_o h c, Option.bind_some]
        · simp (disch := decide) only [lt32_o, Int.reduceLT, if_true, if_false]
          by_cases q : x < nLF (gA wM 51)
          · rw [decide_eq_true q, if_neg (by decide), if_neg (by rw [inb_f (by omega)]; exact id), if_pos q, (a3.2 x c.1 q).1]
          · rw [decide_eq_false q, if_pos rfl, if_neg q]
      · refine key (if x < nLF (gA wM 51) then cLF (gA wM 51) x else -1) _ _ ?_ ?_
        · simp only [Int.reduceLT, if_true, if_false, at13_o h c, Option.bind_some]
        · simp (disch := decide) only [lt32_o, Int.reduceLT, if_true, if_false]
          by_cases q : x < nLF (gA wM 51)
          · rw [decide_eq_true q, if_neg (by decide), if_neg (by rw [inb_f (by omega)]; exact id), if_pos q, (a3.2 x c.1 q).2]
          · rw [decide_eq_false q, if_pos rfl, if_neg q]
      · refine key (if x < nLF (gA wM 51) then sm (strF (gA wM 51) x) (wnF (gA wM 51) x).toNat else 0) _ _ ?_ ?_
        · simp only [Int.reduceLT, if_true, if_false, strokesWC_o h c, Option.bind_some]
        · simp (disch := decide) only [lt32_o, Int.reduceLT, if_true, if_false]
          by_cases q : x < nLF (gA wM 51)
          · rw [decide_eq_true q, if_neg (by decide), strokesW_o h.B e1 a3 ⟨c.1, q⟩, Option.bind_some, if_pos q]
          · rw [decide_eq_false q, if_pos rfl, if_neg q]
      · refine key (max 0 (min (gA wM 51 8 - laF (gA wM 51) x) (wnF (gA wM 51) x))) _ _ ?_ ?_
        · simp only [Int.reduceLT, if_true, if_false, carvedC_o h c, Option.bind_some]
        · simp (disch := decide) only [lt32_o, Int.reduceLT, if_true, if_false]
          by_cases q : x < nLF (gA wM 51)
          · rw [decide_eq_true q, if_neg (by decide), carvedOf_o h a2 c, Option.bind_some]
          · rw [decide_eq_false q, if_pos rfl]
            have hle := laF_mono h.B (show nLF (gA wM 51) ≤ x by omega) (by omega)
            obtain ⟨vB, v1, v3, v4, v5, v6, v7, v8⟩ := h.V
            exact congrArg (fun q => some (q, w')) (by omega)
    · rw [decide_eq_false d, if_pos (show (true && false) = false from rfl)]
      by_cases d1 : y < 0
      · rw [if_pos d1]
        exact wex (e := 2) (na' := na) (wC' := wC) rfl rfl rfl (Or.inr rfl) rfl (h.fr (frm_refl _) (frmM_0 _ _))
      · rw [if_neg d1, if_pos (by omega)]
        exact wex (e := 2) (na' := na) (wC' := wC) rfl rfl rfl (Or.inr rfl) rfl (h.fr (frm_refl _) (frmM_0 _ _))
  · rw [if_neg c, decide_eq_false c, bindG_r, if_pos (show (false && decide (0 ≤ y ∧ y ≤ 5)) = false from rfl)]
    exact wex (e := 3) (na' := na) (wC' := wC) rfl rfl rfl (Or.inl rfl) rfl (h.fr (frm_refl _) (frmM_0 _ _))
end OPS6
