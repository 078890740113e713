/-! ===== questions: the class's and the model's answers ===== -/
theorem bindG_l {x : Int} {na : Nat} {w : Wd} {K : Int → Nat → Wd → Option Rz} : bindG (some (.inl x, na, w)) K = K x na w := rfl
theorem bindG_r {e : Nat} {na : Nat} {w : Wd} {K : Int → Nat → Wd → Option Rz} : bindG (some (.inr e, na, w)) K = some (.inr e, na, w) := rfl
section RA
variable {k na : Nat} {wC wM : Wd}
theorem RR.pp (h : RR k na wC wM) : gP wM 50 3 = 51 := h.1
theorem RR.V (h : RR k na wC wM) : VF k (gA wM 51) := h.2.1
theorem RR.B (h : RR k na wC wM) : VB (gA wM 51) := h.2.1.1
theorem RR.S (h : RR k na wC wM) : RS wC 100 (gA wM 51) := h.2.2.1
theorem RR.L (h : RR k na wC wM) : LY wC 10 (gA wM 51) := h.2.2.2.1
theorem RR.T (h : RR k na wC wM) : LT wC 10 (gA wM 51) := h.2.2.2.2.1
theorem RR.ny (h : RR k na wC wM) {w : Wd} (hw : frm SMf TMf wM w) : cR w = gA wM 51 ∧ gP w 50 3 = 51 ∧ gA w 51 = gA wM 51 := by
  refine ⟨(cR_frm hw h.pp (by unfold TMf; omega)).trans h.f, (hw.2.2 _ _).trans h.pp, funext fun i => hw.2.1 51 (by unfold TMf; omega) i⟩
theorem frm_L9 {w w' : Wd} (h : frm SL9 TL9 w w') : frm SMf TMf w w' := frm_mono h (fun o k h => by unfold SL9 at h; unfold SMf; omega) (fun o h => by unfold TL9 at h; unfold TMf; omega)
theorem frm_910 {w w' : Wd} (h : frm S910 T0 w w') : frm SMf TMf w w' := frm_mono h (fun o k h => by unfold S910 at h; unfold SMf; omega) (fun o h => absurd h id)
theorem RR.lay (h : RR k na wC wM) {w : Wd} (hw : frm SMf TMf wM w) : ∃ w', p_X9_lay w = some (nLF (gA wM 51), w') ∧ frm SMf TMf wM w' ∧ AR9 w' (nLF (gA wM 51)) (rLF (gA wM 51)) (cLF (gA wM 51)) ∧ gF w' 50 0 = gF w 50 0 := by
  obtain ⟨e1, e2, e3⟩ := h.ny hw
  obtain ⟨w', a1, a2, a3⟩ := lay9 h.B e1 e2
  exact ⟨w', a2, frm_trans hw (frm_L9 a1), a3, a1.1 50 0 (by unfold SL9; omega)⟩
theorem needPart_o (h : RR k na wC wM) {x : Int} (hx : rng x) (n : Nat) : p_X8_needPart x n wC = some (if 0 ≤ x ∧ x < gA wM 51 9 then .inl 0 else .inr 3, n, wC) := by
  have e : gF wC 100 4 = gA wM 51 9 := h.S.1.2.2.2.1
  have hb := h.B.p
  unfold rng at hx
  unfold p_X8_needPart p_X8_needPart_15
  simp (disch := omega) only [e, lt32_o]
  by_cases c1 : x < 0
  · rw [if_pos c1, if_neg (by omega)]
  · by_cases c2 : x < gA wM 51 9
    · rw [if_neg c1, if_pos c2, if_pos ⟨by omega, c2⟩]
    · rw [if_neg c1, if_neg c2, if_neg (fun q => c2 q.2)]
theorem needWord_o (h : RR k na wC wM) {x : Int} (hx : rng x) (n : Nat) : p_X8_needWord x n wC = some (if 0 ≤ x ∧ x < gA wM 51 10 then .inl 0 else .inr 3, n, wC) := by
  have e : gF wC 100 7 = gA wM 51 10 := h.S.1.2.2.2.2.1
  have hb := h.B.w
  unfold rng at hx
  unfold p_X8_needWord p_X8_needWord_15
  simp (disch := omega) only [e, lt32_o]
  by_cases c1 : x < 0
  · rw [if_pos c1, if_neg (by omega)]
  · by_cases c2 : x < gA wM 51 10
    · rw [if_neg c1, if_pos c2, if_pos ⟨by omega, c2⟩]
    · rw [if_neg c1, if_neg c2, if_neg (fun q => c2 q.2)]
theorem needRow_o (h : RR k na wC wM) {x : Int} (hx : rng x) (n : Nat) : p_X8_needRow x n wC = some (if 0 ≤ x ∧ x < gA wM 51 1 then .inl 0 else .inr 3, n, wC) := by
  have e : gF wC 100 1 = gA wM 51 1 := h.S.1.2.1
  have hb := h.B.r
  unfold rng at hx
  unfold p_X8_needRow p_X8_needRow_15
  simp (disch := omega) only [e, lt32_o]
  by_cases c1 : x < 0
  · rw [if_pos c1, if_neg (by omega)]
  · by_cases c2 : x < gA wM 51 1
    · rw [if_neg c1, if_pos c2, if_pos ⟨by omega, c2⟩]
    · rw [if_neg c1, if_neg c2, if_neg (fun q => c2 q.2)]
theorem needCell_o (h : RR k na wC wM) {x y : Int} (hx : rng x) (hy : rng y) (n : Nat) : p_X8_needCell x y n wC = some (if isCF (gA wM 51) x y = true then .inl 0 else .inr 3, n, wC) := by
  have e : gF wC 100 0 = gA wM 51 0 := h.S.1.1
  have hb := h.B.c
  unfold p_X8_needCell p_X8_needCell_20
  rw [needRow_o h hy]
  unfold rng at hx
  unfold isCF
  by_cases c : 0 ≤ y ∧ y < gA wM 51 1
  · rw [if_pos c, bindG_l]
    simp (disch := omega) only [e, lt32_o]
    by_cases c1 : x < 0
    · rw [if_pos c1, if_neg (by rw [decide_eq_true_iff]; omega)]
    · by_cases c2 : x < gA wM 51 0
      · rw [if_neg c1, if_pos c2, if_pos (decide_eq_true ⟨by omega, c2, c⟩)]
      · rw [if_neg c1, if_neg c2, if_neg (by rw [decide_eq_true_iff]; omega)]
  · rw [if_neg c, bindG_r, if_neg (by rw [decide_eq_true_iff]; omega)]
theorem needGap_o {x : Int} (hx : rng x) (n : Nat) (w : Wd) : p_X8_needGap x n w = some (if 0 ≤ x ∧ x ≤ 3 then .inl 0 else .inr 2, n, w) := by
  unfold rng at hx
  unfold p_X8_needGap p_X8_needGap_9
  simp (disch := omega) only [lt32_o]
  by_cases c1 : x < 0
  · rw [if_pos c1, if_neg (by omega)]
  · by_cases c2 : 3 < x
    · rw [if_neg c1, if_pos c2, if_neg (by omega)]
    · rw [if_neg c1, if_neg c2, if_pos (by omega)]
theorem needSlot_o {x : Int} (hx : rng x) (n : Nat) (w : Wd) : p_X8_needSlot x n w = some (if 0 ≤ x ∧ x < 2 then .inl 0 else .inr 3, n, w) := by
  unfold rng at hx
  unfold p_X8_needSlot p_X8_needSlot_13
  simp (disch := omega) only [lt32_o]
  by_cases c1 : x < 0
  · rw [if_pos c1, if_neg (by omega)]
  · by_cases c2 : x < 2
    · rw [if_neg c1, if_pos c2, if_pos (by omega)]
    · rw [if_neg c1, if_neg c2, if_neg (by omega)]
theorem at11_o (h : RR k na wC wM) {i : Int} (hi : 0 ≤ i ∧ i < gA wM 51 10) : p_X5_at 11 i wC = some (if i < nLF (gA wM 51) then rLF (gA wM 51) i else -1, wC) := by
  have hb := h.B.w
  rw [at_in ⟨hi.1, by rw [show ln (11 + 1) = 60 from rfl]; omega⟩]
  by_cases c : i < nLF (gA wM 51)
  · rw [if_pos c]; exact congrArg (fun x => some (x, wC)) (h.L.1.2 i hi.1 c).1
  · rw [if_neg c]; exact congrArg (fun x => some (x, wC)) (h.L.2 i (by omega) hi.2).1
theorem at13_o (h : RR k na wC wM) {i : Int} (hi : 0 ≤ i ∧ i < gA wM 51 10) : p_X5_at 13 i wC = some (if i < nLF (gA wM 51) then cLF (gA wM 51) i else -1, wC) := by
  have hb := h.B.w
  rw [at_in ⟨hi.1, by rw [show ln (13 + 1) = 60 from rfl]; omega⟩]
  by_cases c : i < nLF (gA wM 51)
  · rw [if_pos c]; exact congrArg (fun x => some (x, wC)) (h.L.1.2 i hi.1 c).2
  · rw [if_neg c]; exact congrArg (fun x => some (x, wC)) (h.L.2 i (by omega) hi.2).2
end RA
section OPS
variable {k na : Nat} {wC wM : Wd} {xs : Nat → Int32} {i : Int}
theorem op3 (h : RR k na wC wM) : ∃ z, p_op_3 xs i na wC wM = some z ∧ RR k z.1 z.2.1 z.2.2 :=
  dok (p8 := p_X8_errorCode wC) (pM := p_X9_errorCode wM) (r := gF wC 9 1) rfl (congrArg (fun x => some (x, sF wM 50 0 0)) (show gF (sF wM 50 0 0) 50 24 = _ from h.2.2.2.2.2.2.2.1.1.symm)) (h.fr (frm_refl _) (frmM_0 _ _))
theorem op4 (h : RR k na wC wM) : ∃ z, p_op_4 xs i na wC wM = some z ∧ RR k z.1 z.2.1 z.2.2 :=
  dok (p8 := p_X8_errorPosition wC) (pM := p_X9_errorPosition wM) (r := gF wC 9 2) rfl (congrArg (fun x => some (x, sF wM 50 0 0)) (show gF (sF wM 50 0 0) 50 25 = _ from h.2.2.2.2.2.2.2.1.2.symm)) (h.fr (frm_refl _) (frmM_0 _ _))
theorem op47 (h : RR k na wC wM) : ∃ z, p_op_47 xs i na wC wM = some z ∧ RR k z.1 z.2.1 z.2.2 :=
  dok (p8 := p_X8_undoCount wC) (pM := p_X9_undoCount wM) (r := gF wC 31 1) rfl (congrArg (fun x => some (x, sF wM 50 0 0)) (show gF (sF wM 50 0 0) 50 31 = _ from h.2.2.2.2.2.2.2.2.1.1.symm)) (h.fr (frm_refl _) (frmM_0 _ _))
theorem op14 (h : RR k na wC wM) : ∃ z, p_op_14 xs i na wC wM = some z ∧ RR k z.1 z.2.1 z.2.2 := by
  obtain ⟨w', a1, a2, a3, a4⟩ := h.lay (frmM_0 wM 0)
  obtain ⟨e1, e2, e3⟩ := h.ny a2
  have hn := nL_rng h.B
  have hw := h.B.w
  refine dok (p8 := p_X8_firstMissing wC) (pM := p_X9_firstMissing wM) (r := if nLF (gA wM 51) < gA wM 51 10 then nLF (gA wM 51) else -1) (wC' := wC) (wM' := w') ?_ ?_ (h.fr (frm_refl _) a2)
  · unfold p_X8_firstMissing
    rw [show gF wC 10 4 = nLF (gA wM 51) from h.L.1.1, show gF wC 100 7 = gA wM 51 10 from h.S.1.2.2.2.2.1]
    simp (disch := omega) only [lt32_o]
    by_cases c : nLF (gA wM 51) < gA wM 51 10
    · rw [if_pos c, if_pos c]
    · rw [if_neg c, if_neg c]
  · unfold p_X9_firstMissing
    rw [a1, Option.bind_some]
    dsimp only
    rw [if_neg (by decide), e3]
    simp (disch := omega) only [eq32_o]
    by_cases c : nLF (gA wM 51) < gA wM 51 10
    · rw [if_neg (by omega), if_pos c]
    · rw [if_pos (by omega), if_neg c]
theorem op10 (h : RR k na wC wM) : ∃ z, p_op_10 xs i na wC wM = some z ∧ RR k z.1 z.2.1 z.2.2 := by
  unfold p_op_10 p_L_wordAt
  have hx := sc_rng xs (i + 1)
  have hy := sc_rng xs (i + 2)
  generalize sc xs (i + 1) = x at *
  generalize sc xs (i + 2) = y at *
  unfold p_X8_wordAt p_X9_wordAt
  rw [needCell_o h hx hy, isCell_o h.f h.B hx hy, Option.bind_some]
  dsimp only
  rw [passes_o, Option.bind_some]
  simp only [eq32_b2]
  by_cases c : isCF (gA wM 51) x y = true
  · rw [if_pos c, if_neg (by rw [c]; decide), c]
    obtain ⟨w', a1, a2, a3, a4⟩ := h.lay (frmM_0 wM (b2 (!true)))
    obtain ⟨e1, e2, e3⟩ := h.ny a2
    refine wok (r := woF (gA wM 51) x y) (na' := na) (wC' := wC) (wM' := w') ?_ ?_ a4 (h.fr (frm_refl _) a2)
    · rw [bindG_l, wordOn_o h.B h.S h.L hx hy, Option.bind_some]
    · rw [a1, Option.bind_some]
      dsimp only
      rw [wordIn_o h.B e1 a3 hx hy, Option.bind_some]
  · rw [if_neg c, if_pos (bfF c), bfF c]
    exact wex (e := 3) (na' := na) (wC' := wC) bindG_r rfl rfl (Or.inl rfl) rfl (h.fr (frm_refl _) (frmM_0 _ _))
theorem op9 (h : RR k na wC wM) : ∃ z, p_op_9 xs i na wC wM = some z ∧ RR k z.1 z.2.1 z.2.2 := by
  unfold p_op_9 p_L_cell
  have hx := sc_rng xs (i + 1)
  have hy := sc_rng xs (i + 2)
  generalize sc xs (i + 1) = x at *
  generalize sc xs (i + 2) = y at *
  unfold p_X8_cell p_X9_cell
  rw [needCell_o h hx hy, isCell_o h.f h.B hx hy, Option.bind_some]
  dsimp only
  rw [passes_o, Option.bind_some]
  simp only [eq32_b2]
  by_cases c : isCF (gA wM 51) x y = true
  · rw [if_pos c, if_neg (by rw [c]; decide), c]
    obtain ⟨w', a1, a2, a3, a4⟩ := h.lay (frmM_0 wM (b2 (!true)))
    obtain ⟨e1, e2, e3⟩ := h.ny a2
    have hn := nL_rng h.B
    have hc := h.B.c
    have hcc : 0 ≤ x ∧ x < gA wM 51 0 ∧ 0 ≤ y ∧ y < gA wM 51 1 := of_decide_eq_true c
    refine wok (r := if flF (gA wM 51) x y = true then -1 else if woF (gA wM 51) x y = -1 then 0 else wbF (gA wM 51) (woF (gA wM 51) x y) (x - cLF (gA wM 51) (woF (gA wM 51) x y))) (na' := na) (wC' := wC) (wM' := w') ?_ ?_ a4 (h.fr (frm_refl _) a2)
    · rw [bindG_l, cflaw_o SLo_0 h.B h.S hx hy, Option.bind_some]
      simp only [eq32_b2]
      by_cases c1 : flF (gA wM 51) x y = true
      · rw [if_neg (by rw [c1]; decide), if_pos c1]
      · rw [if_pos (bfF c1), if_neg c1, wordOn_o h.B h.S h.L hx hy, Option.bind_some]
        dsimp only
        rcases woF_rng h.B x y with ⟨d, _⟩ | ⟨d1, d2, d3, d4, d5⟩
        · rw [d, if_pos (by decide +kernel), if_pos rfl]
        · simp (disch := omega) only [eq32_o]
          rw [if_neg (by omega), if_neg (by omega), at13_o h (by omega), Option.bind_some]
          dsimp only
          rw [if_pos d2, byteC_o SLo_0 h.B h.S (by omega) (by omega), Option.bind_some]
    · rw [a1, Option.bind_some]
      dsimp only
      rw [wordIn_o h.B e1 a3 hx hy, Option.bind_some]
      dsimp only
      rw [hasFlaw_o e1 h.B hx hy, Option.bind_some]
      simp only [eq32_b2]
      by_cases c1 : flF (gA wM 51) x y = true
      · rw [if_neg (by rw [c1]; decide), if_pos c1]
      · rw [if_pos (bfF c1), if_neg c1]
        rcases woF_rng h.B x y with ⟨d, _⟩ | ⟨d1, d2, d3, d4, d5⟩
        · rw [d, if_pos (by decide +kernel), if_pos rfl]
        · have hwn := h.B.wn d1 (show _ < gA wM 51 10 by omega)
          simp (disch := omega) only [eq32_o]
          rw [if_neg (by omega), if_neg (by rw [inb_f (by omega)]; exact id), if_neg (by omega), (a3.2 _ d1 d2).2, byteOf_o e1 (by omega) (by omega), Option.bind_some]
  · rw [if_neg c, if_pos (bfF c), bfF c]
    exact wex (e := 3) (na' := na) (wC' := wC) bindG_r rfl rfl (Or.inl rfl) rfl (h.fr (frm_refl _) (frmM_0 _ _))
end OPS
