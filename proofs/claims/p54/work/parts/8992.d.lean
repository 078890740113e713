/-! ===== what the class answers to the law's questions ===== -/
section YA
variable {k na : Nat} {wC wM : Wd}
theorem y_p0 (h : RR k na wC wM) : p_Y8_property 0 wC = some (gA wM 51 0, wC) := by
  obtain ⟨s0, s1, s2, s4, s7, s11⟩ := h.S.1
  unfold p_Y8_property; simp (disch := decide) only [lt32_o, Int.reduceLT, if_true, if_false, s0]
theorem y_p1 (h : RR k na wC wM) : p_Y8_property 1 wC = some (gA wM 51 1, wC) := by
  obtain ⟨s0, s1, s2, s4, s7, s11⟩ := h.S.1
  unfold p_Y8_property; simp (disch := decide) only [lt32_o, Int.reduceLT, if_true, if_false, s1]
theorem y_p3 (h : RR k na wC wM) : p_Y8_property 3 wC = some (gA wM 51 2, wC) := by
  obtain ⟨s0, s1, s2, s4, s7, s11⟩ := h.S.1
  unfold p_Y8_property; simp (disch := decide) only [lt32_o, Int.reduceLT, if_true, if_false, s2]
theorem y_p4 (h : RR k na wC wM) : p_Y8_property 4 wC = some (gA wM 51 9, wC) := by
  obtain ⟨s0, s1, s2, s4, s7, s11⟩ := h.S.1
  unfold p_Y8_property; simp (disch := decide) only [lt32_o, Int.reduceLT, if_true, if_false, s4]
theorem y_p5 (h : RR k na wC wM) : p_Y8_property 5 wC = some (gA wM 51 10, wC) := by
  obtain ⟨s0, s1, s2, s4, s7, s11⟩ := h.S.1
  unfold p_Y8_property; simp (disch := decide) only [lt32_o, Int.reduceLT, if_true, if_false, s7]
theorem y_p8 (h : RR k na wC wM) : p_Y8_property 8 wC = some (gA wM 51 8, wC) := by
  obtain ⟨s0, s1, s2, s4, s7, s11⟩ := h.S.1
  unfold p_Y8_property; simp (disch := decide) only [lt32_o, Int.reduceLT, if_true, if_false, s11]
theorem y_p6 (h : RR k na wC wM) : p_Y8_property 6 wC = some (nLF (gA wM 51), wC) := by
  have l4 : gF wC 10 4 = nLF (gA wM 51) := h.L.1.1
  unfold p_Y8_property; simp (disch := decide) only [lt32_o, Int.reduceLT, if_true, if_false, l4]
theorem y_p7 (h : RR k na wC wM) : p_Y8_property 7 wC = some (laF (gA wM 51) (nLF (gA wM 51)), wC) := by
  have l5 : gF wC 10 5 = laF (gA wM 51) (nLF (gA wM 51)) := h.T.1
  unfold p_Y8_property; simp (disch := decide) only [lt32_o, Int.reduceLT, if_true, if_false, l5]
theorem y_p2 (h : RR k na wC wM) : p_Y8_property 2 wC = some (nfF (gA wM 51), wC) := by
  unfold p_Y8_property; simp (disch := decide) only [lt32_o, Int.reduceLT, if_true, if_false, flawC_o SLo_0 h.B h.S, Option.bind_some]
theorem y_p9 (h : RR k na wC wM) : p_Y8_property 9 wC = some (gA wM 51 5, wC) := by
  obtain ⟨t0, t1, t2, t3, t4⟩ := h.S.2.1
  unfold p_Y8_property; simp (disch := decide) only [lt32_o, Int.reduceLT, if_true, if_false]; rw [show gF wC 111 2 = gA wM 51 5 from t2]
theorem y_p10 (h : RR k na wC wM) : p_Y8_property 10 wC = some (gA wM 51 3, wC) := by
  obtain ⟨t0, t1, t2, t3, t4⟩ := h.S.2.1
  unfold p_Y8_property; simp (disch := decide) only [lt32_o, Int.reduceLT, if_true, if_false]; rw [show gF wC 111 0 = gA wM 51 3 from t0]
theorem y_p11 (h : RR k na wC wM) : p_Y8_property 11 wC = some (gA wM 51 4, wC) := by
  obtain ⟨t0, t1, t2, t3, t4⟩ := h.S.2.1
  unfold p_Y8_property; simp (disch := decide) only [lt32_o, Int.reduceLT, if_true, if_false]; rw [show gF wC 111 1 = gA wM 51 4 from t1]
theorem y_nw (h : RR k na wC wM) {x : Int} (hx : 0 ≤ x ∧ x < gA wM 51 10) : p_Y8_needWord x wC = some wC := by
  have hw := h.B.w
  unfold p_Y8_needWord
  rw [show gF wC 100 7 = gA wM 51 10 from h.S.1.2.2.2.2.1]
  simp (disch := omega) only [lt32_o]
  rw [if_neg (by omega), if_pos hx.2]
theorem y_w0 (h : RR k na wC wM) {v : Int} (hv : 0 ≤ v ∧ v < gA wM 51 10) : ∃ p, p_Y8_word v 0 wC = some (p, wC) ∧ 0 ≤ p ∧ p < gA wM 51 9 ∧ firF (gA wM 51) p ≤ v ∧ v < firF (gA wM 51) (p + 1) := by
  obtain ⟨p, h1, h2⟩ := partOfC_o h hv
  refine ⟨p, ?_, h2⟩
  unfold p_Y8_word
  rw [y_nw h hv, Option.bind_some]
  simp (disch := decide) only [lt32_o, Int.reduceLT, if_true, if_false]
  rw [h1, Option.bind_some]
theorem y_w1 (h : RR k na wC wM) {v : Int} (hv : 0 ≤ v ∧ v < gA wM 51 10) : p_Y8_word v 1 wC = some (wnF (gA wM 51) v, wC) := by
  unfold p_Y8_word
  rw [y_nw h hv, Option.bind_some]
  simp (disch := decide) only [lt32_o, Int.reduceLT, if_true, if_false]
  rw [lenC_o SLo_0 h.B h.S hv, Option.bind_some]
theorem y_w2 (h : RR k na wC wM) {v : Int} (hv : 0 ≤ v ∧ v < gA wM 51 10) : p_Y8_word v 2 wC = some (if v < nLF (gA wM 51) then rLF (gA wM 51) v else -1, wC) := by
  unfold p_Y8_word
  rw [y_nw h hv, Option.bind_some]
  simp (disch := decide) only [lt32_o, Int.reduceLT, if_true, if_false]
  rw [at11_o h hv, Option.bind_some]
theorem y_w3 (h : RR k na wC wM) {v : Int} (hv : 0 ≤ v ∧ v < gA wM 51 10) : p_Y8_word v 3 wC = some (if v < nLF (gA wM 51) then cLF (gA wM 51) v else -1, wC) := by
  unfold p_Y8_word
  rw [y_nw h hv, Option.bind_some]
  simp (disch := decide) only [lt32_o, Int.reduceLT, if_true, if_false]
  rw [at13_o h hv, Option.bind_some]
theorem y_w4 (h : RR k na wC wM) {v : Int} (hv : 0 ≤ v ∧ v < gA wM 51 10) : p_Y8_word v 4 wC = some (if v < nLF (gA wM 51) then sm (strF (gA wM 51) v) (wnF (gA wM 51) v).toNat else 0, wC) := by
  unfold p_Y8_word
  rw [y_nw h hv, Option.bind_some]
  simp (disch := decide) only [lt32_o, Int.reduceLT, if_true, if_false]
  rw [strokesWC_o h hv, Option.bind_some]
theorem y_w5 (h : RR k na wC wM) {v : Int} (hv : 0 ≤ v ∧ v < gA wM 51 10) : p_Y8_word v 5 wC = some (max 0 (min (gA wM 51 8 - laF (gA wM 51) v) (wnF (gA wM 51) v)), wC) := by
  unfold p_Y8_word
  rw [y_nw h hv, Option.bind_some]
  simp (disch := decide) only [lt32_o, Int.reduceLT, if_true, if_false]
  rw [carvedC_o h hv, Option.bind_some]
theorem y_let (h : RR k na wC wM) {v j : Int} (hv : 0 ≤ v ∧ v < gA wM 51 10) (hj : 0 ≤ j ∧ j < wnF (gA wM 51) v) : p_Y8_letter v j wC = some (wbF (gA wM 51) v j, wC) := by
  have hwn := h.B.wn hv.1 hv.2
  unfold p_Y8_letter p_Y8_letter_24
  rw [y_nw h hv, Option.bind_some]
  simp (disch := omega) only [lt32_o]
  rw [if_neg (by omega), lenC_o SLo_0 h.B h.S hv, Option.bind_some]
  dsimp only
  simp (disch := omega) only [lt32_o]
  rw [if_pos hj.2, byteC_o SLo_0 h.B h.S hv hj, Option.bind_some]
theorem y_nr (h : RR k na wC wM) {x : Int} (hx : 0 ≤ x ∧ x < gA wM 51 1) : p_Y8_needRow x wC = some wC := by
  have hb := h.B.r
  unfold p_Y8_needRow
  rw [show gF wC 100 1 = gA wM 51 1 from h.S.1.2.1]
  simp (disch := omega) only [lt32_o]
  rw [if_neg (by omega), if_pos hx.2]
theorem y_nc (h : RR k na wC wM) {x y : Int} (hx : 0 ≤ x ∧ x < gA wM 51 0) (hy : 0 ≤ y ∧ y < gA wM 51 1) : p_Y8_needCell x y wC = some wC := by
  have hb := h.B.c
  unfold p_Y8_needCell
  rw [y_nr h hy, Option.bind_some, show gF wC 100 0 = gA wM 51 0 from h.S.1.1]
  simp (disch := omega) only [lt32_o]
  rw [if_neg (by omega), if_pos hx.2]
/-- what stands in a cell -/
def celF (f : Rw) (x y : Int) : Int := if flF f x y = true then -1 else if woF f x y = -1 then 0 else wbF f (woF f x y) (x - cLF f (woF f x y))
theorem y_cell (h : RR k na wC wM) {x y : Int} (hx : 0 ≤ x ∧ x < gA wM 51 0) (hy : 0 ≤ y ∧ y < gA wM 51 1) : p_Y8_cell x y wC = some (celF (gA wM 51) x y, wC) := by
  have hn := nL_rng h.B
  have hc := h.B.c
  have hr := h.B.r
  have rx : rng x := ⟨by omega, by omega⟩
  have ry : rng y := ⟨by omega, by omega⟩
  unfold p_Y8_cell celF
  rw [y_nc h hx hy, Option.bind_some, cflaw_o SLo_0 h.B h.S rx ry, Option.bind_some]
  simp only [eq32_b2]
  by_cases c1 : flF (gA wM 51) x y = true
  · rw [if_neg (by rw [c1]; decide), if_pos c1]
  · rw [if_pos (bfF c1), if_neg c1, wordOn_o h.B h.S h.L rx ry, Option.bind_some]
    dsimp only
    rcases woF_rng h.B x y with ⟨d, _⟩ | ⟨d1, d2, d3, d4, d5⟩
    · rw [d, if_pos (by decide +kernel), if_pos rfl]
    · simp (disch := omega) only [eq32_o]
      rw [if_neg (by omega), if_neg (by omega), at13_o h (by omega), Option.bind_some]
      dsimp only
      rw [if_pos d2, byteC_o SLo_0 h.B h.S (by omega) (by omega), Option.bind_some]
theorem y_wat (h : RR k na wC wM) {x y : Int} (hx : 0 ≤ x ∧ x < gA wM 51 0) (hy : 0 ≤ y ∧ y < gA wM 51 1) : p_Y8_wordAt x y wC = some (woF (gA wM 51) x y, wC) := by
  have hc := h.B.c
  have hr := h.B.r
  unfold p_Y8_wordAt
  rw [y_nc h hx hy, Option.bind_some, wordOn_o h.B h.S h.L ⟨by omega, by omega⟩ ⟨by omega, by omega⟩, Option.bind_some]
theorem y_free (h : RR k na wC wM) {y : Int} (hy : 0 ≤ y ∧ y < gA wM 51 1) : p_Y8_freeIn y wC = some (sm (freF (gA wM 51) y) (gA wM 51 0).toNat, wC) := by
  have hc := h.B.c
  have hr := h.B.r
  have hx : rng y := ⟨by omega, by omega⟩
  have hl : ∀ (m n : Nat) (x s : Int), 0 ≤ x → x + m = gA wM 51 0 → m < n → p_Y8_freeIn_9 n y s x wC = some (s + (sm (freF (gA wM 51) y) (gA wM 51 0).toNat - sm (freF (gA wM 51) y) x.toNat), wC) := by
    intro m
    induction m with
    | zero =>
      intro n x s x0 x1 hn
      obtain ⟨n', rfl⟩ : ∃ n', n = n' + 1 := ⟨n - 1, by omega⟩
      simp (disch := omega) only [p_Y8_freeIn_9, show gF wC 100 0 = gA wM 51 0 from h.S.1.1, lt32_o]
      rw [if_neg (by omega), show x = gA wM 51 0 by omega, show s + (sm (freF (gA wM 51) y) (gA wM 51 0).toNat - sm (freF (gA wM 51) y) (gA wM 51 0).toNat) = s by omega]
    | succ m ih =>
      intro n x s x0 x1 hn
      obtain ⟨n', rfl⟩ : ∃ n', n = n' + 1 := ⟨n - 1, by omega⟩
      have hst := sm_step (g := freF (gA wM 51) y) x0
      simp (disch := omega) only [p_Y8_freeIn_9, p_Y8_freeIn_52, show gF wC 100 0 = gA wM 51 0 from h.S.1.1, lt32_o]
      rw [if_pos (by omega), cflaw_o SLo_0 h.B h.S ⟨by omega, by omega⟩ hx, Option.bind_some]
      simp only [eq32_b2]
      by_cases c1 : flF (gA wM 51) x y = false
      · rw [if_pos c1, wordOn_o h.B h.S h.L ⟨by omega, by omega⟩ hx, Option.bind_some]
        have hwo := woF_rng h.B x y
        have hnl := nL_rng h.B
        simp (disch := omega) only [eq32_o]
        by_cases c2 : woF (gA wM 51) x y = -1
        · have hg : freF (gA wM 51) y x = 1 := if_pos ⟨c1, c2⟩
          rw [if_pos c2, ih n' (x + 1) (s + 1) (by omega) (by omega) (by omega), hst, hg]
          exact congrArg (fun q => some (q, wC)) (by omega)
        · have hg : freF (gA wM 51) y x = 0 := if_neg (fun q => c2 q.2)
          rw [if_neg c2, ih n' (x + 1) s (by omega) (by omega) (by omega), hst, hg]
          exact congrArg (fun q => some (q, wC)) (by omega)
      · have hg : freF (gA wM 51) y x = 0 := if_neg (fun q => c1 q.1)
        rw [if_neg c1, ih n' (x + 1) s (by omega) (by omega) (by omega), hst, hg]
        exact congrArg (fun q => some (q, wC)) (by omega)
  unfold p_Y8_freeIn
  rw [y_nr h hy, Option.bind_some, hl (gA wM 51 0).toNat FU 0 0 (by decide) (by omega) (by have : FU = 1000000 := rfl; omega)]
  exact congrArg (fun q => some (q, wC)) (by show 0 + (_ - 0) = _; omega)
theorem cel_fl {f : Rw} (hV : VB f) (x y : Int) : eq32 (celF f x y) (-1) = flF f x y := by
  unfold celF
  by_cases c1 : flF f x y = true
  · rw [if_pos c1, c1]; decide +kernel
  · rw [if_neg c1, bfF c1]
    by_cases c2 : woF f x y = -1
    · rw [if_pos c2]; decide +kernel
    · rw [if_neg c2]
      rcases woF_rng hV x y with d | ⟨d1, d2, d3, d4, d5⟩
      · exact absurd d.1 c2
      · have hn := nL_rng hV
        have hb := hV.wb (v := woF f x y) (k := x - cLF f (woF f x y)) d1 (by omega) (by omega) (by omega)
        unfold isB at hb
        exact eqf (by omega) (by omega)
theorem y_flaw (h : RR k na wC wM) {x y : Int} (hx : -2 ≤ x ∧ x ≤ 30) (hy : -2 ≤ y ∧ y ≤ 30) : p_L_flaw x y wC = some (b2 (flF (gA wM 51) x y), wC) := by
  have hc := h.B.c
  have hr := h.B.r
  have hno : isCF (gA wM 51) x y = false → flF (gA wM 51) x y = false := fun e => by unfold flF; rw [e]; rfl
  unfold p_L_flaw
  rw [y_p0 h, Option.bind_some]
  dsimp only
  rw [y_p1 h, Option.bind_some]
  simp (disch := omega) only [lt32_o]
  by_cases c1 : x < 0
  · rw [if_pos c1, hno (decide_eq_false (by omega))]; rfl
  · rw [if_neg c1]
    by_cases c2 : y < 0
    · rw [if_pos c2, hno (decide_eq_false (by omega))]; rfl
    · rw [if_neg c2]
      by_cases c3 : x < gA wM 51 0
      · rw [if_pos c3]
        by_cases c4 : y < gA wM 51 1
        · rw [if_pos c4, y_cell h (by omega) (by omega), Option.bind_some]
          dsimp only
          rw [cel_fl h.B]
          cases flF (gA wM 51) x y <;> rfl
        · rw [if_neg c4, hno (decide_eq_false (by omega))]; rfl
      · rw [if_neg c3, hno (decide_eq_false (by omega))]; rfl
theorem y_touch (h : RR k na wC wM) {x y : Int} (hx : -1 ≤ x ∧ x ≤ 29) (hy : -1 ≤ y ∧ y ≤ 29) : p_L_touched x y wC = some (b2 (tchF (gA wM 51) x y), wC) := by
  unfold p_L_touched p_L_touched_44
  rw [y_flaw h (by omega) (by omega), Option.bind_some]
  dsimp only
  rw [y_flaw h (by omega) (by omega), Option.bind_some]
  dsimp only
  rw [y_flaw h (by omega) (by omega), Option.bind_some]
  dsimp only
  rw [y_flaw h (by omega) (by omega), Option.bind_some]
  simp only [eq32_b2]
  unfold tchF
  cases flF (gA wM 51) (x - 1) y <;> cases flF (gA wM 51) (x + 1) y <;> cases flF (gA wM 51) x (y - 1) <;> cases flF (gA wM 51) x (y + 1) <;> rfl
theorem y_plain {x : Int} (hx : isB x) (w : Wd) : p_L_plain x w = some (plainF x, w) := by
  unfold isB at hx
  unfold p_L_plain plainF
  simp (disch := omega) only [lt32_o]
  by_cases c : x < 97
  · rw [if_pos c, if_pos c, rm_o (by omega) (by decide)]
  · rw [if_neg c, if_neg c, rm_o (by omega) (by decide)]
theorem y_first (h : RR k na wC wM) : p_X8_firstMissing wC = some (if nLF (gA wM 51) < gA wM 51 10 then nLF (gA wM 51) else -1, wC) := by
  have hn := nL_rng h.B
  have hw := h.B.w
  unfold p_X8_firstMissing
  rw [show gF wC 10 4 = nLF (gA wM 51) from h.L.1.1, show gF wC 100 7 = gA wM 51 10 from h.S.1.2.2.2.2.1]
  simp (disch := omega) only [lt32_o]
  by_cases c : nLF (gA wM 51) < gA wM 51 10
  · rw [if_pos c, if_pos c]
  · rw [if_neg c, if_neg c]
theorem y_left (h : RR k na wC wM) : p_X8_strokesLeft wC = some (sm (cosF (gA wM 51)) (laF (gA wM 51) (nLF (gA wM 51))).toNat - sm (cosF (gA wM 51)) (gA wM 51 8).toNat, wC) := by
  obtain ⟨vB, v1, v3, v4, v5, v6, v7, v8⟩ := h.V
  unfold p_X8_strokesLeft
  rw [show gF wC 100 11 = gA wM 51 8 from h.S.1.2.2.2.2.2, h.T.1, costsOf_o h ⟨v8.1, v8.2, Int.le_refl _⟩, Option.bind_some]
theorem y_dear (h : RR k na wC wM) : p_X8_dear wC = some (sm (deF (gA wM 51)) (laF (gA wM 51) (nLF (gA wM 51))).toNat, wC) := by
  have h288 := (lF_ok h.B).2.2.2
  have hn := nL_rng h.B
  have hl := sum_loop (lp := fun n x s => p_X8_dear_4 n s x wC) (g := deF (gA wM 51)) (b := laF (gA wM 51) (nLF (gA wM 51))) (w := wC)
    (fun n x s x0 x1 => by
      show p_X8_dear_4 (n + 1) s x wC = p_X8_dear_4 n _ (x + 1) wC
      obtain ⟨q1, q2, q3⟩ := wl_ex h.B ⟨hn.1, hn.2.1⟩ ⟨x0, x1⟩
      have hrc := rc_rng h.B q1
      have hT := h.T.1
      simp (disch := omega) only [p_X8_dear_4, p_X8_dear_61, hT, lt32_o, x1, if_true]
      rw [at_in ⟨x0, by rw [show ln (15 + 1) = 288 from rfl]; omega⟩, Option.bind_some]
      dsimp only
      rw [show gA wC (15 + 1) x = plF (gA wM 51) x from (h.T.2 x x0 x1).1]
      have hpl : plF (gA wM 51) x = 100 * rLF (gA wM 51) (wlF (gA wM 51) x) + (cLF (gA wM 51) (wlF (gA wM 51) x) + (x - laF (gA wM 51) (wlF (gA wM 51) x))) := rfl
      have hdv : dv32 (plF (gA wM 51) x) 100 = rLF (gA wM 51) (wlF (gA wM 51) x) := by
        unfold dv32
        rw [w32_id (by omega) (by omega), w32_id (by decide) (by decide), Int.tdiv_eq_ediv_of_nonneg (by omega)]
        omega
      rw [rm_o (by omega) (by decide), hdv, show plF (gA wM 51) x % 100 = cLF (gA wM 51) (wlF (gA wM 51) x) + (x - laF (gA wM 51) (wlF (gA wM 51) x)) by omega]
      rw [touch_o SLo_0 h.B h.S (by omega) (by omega), Option.bind_some]
      simp only [eq32_b2]
      show (if tchF (gA wM 51) (cLF (gA wM 51) (wlF (gA wM 51) x) + (x - laF (gA wM 51) (wlF (gA wM 51) x))) (rLF (gA wM 51) (wlF (gA wM 51) x)) = false then _ else _) = _
      unfold deF
      cases hq : tchF (gA wM 51) (cLF (gA wM 51) (wlF (gA wM 51) x) + (x - laF (gA wM 51) (wlF (gA wM 51) x))) (rLF (gA wM 51) (wlF (gA wM 51) x)) with
      | false => rw [if_pos rfl, if_neg (by decide), Int.add_zero]
      | true =>
        rw [if_neg (by decide), at17_o h.B h.T ⟨x0, x1⟩, Option.bind_some, if_pos rfl]
        have hcs : cosF (gA wM 51) x = 2 * plainF (wbF (gA wM 51) (wlF (gA wM 51) x) (x - laF (gA wM 51) (wlF (gA wM 51) x))) := by
          unfold cosF strF; rw [hq, if_pos rfl]
        have hpr := plain_rng (x := wbF (gA wM 51) (wlF (gA wM 51) x) (x - laF (gA wM 51) (wlF (gA wM 51) x)))
        dsimp only
        rw [hcs, dv2_o (by omega)]
        exact congrArg (fun q => p_X8_dear_4 n q (x + 1) wC) (by omega))
    (fun n x s x0 => by
      show p_X8_dear_4 (n + 1) s x wC = _
      have hT := h.T.1
      have hge := laF_rng h.B hn.1 hn.2.1
      simp (disch := omega) only [p_X8_dear_4, hT, lt32_o]
      rw [if_neg (by omega)])
    FU 0 0 (by decide) (by have := laF_rng h.B hn.1 hn.2.1; omega) (by have : FU = 1000000 := rfl; omega)
  refine hl.trans (congrArg (fun q => some (q, wC)) ?_)
  show 0 + (_ - 0) = _
  omega
theorem ord_i (a : Int) : compare a a = .eq := by
  show compareOfLessAndEq a a = .eq
  unfold compareOfLessAndEq
  rw [if_neg (Int.lt_irrefl _), if_pos rfl]
theorem ord_self {d : FP.Core.Datum} (h : d ≠ .nan) : FP.Core.order d d = some .eq := by
  cases d with
  | nan => exact absurd rfl h
  | inf s => exact congrArg some (ord_i _)
  | fin s c q => exact congrArg some (ord_i _)
theorem dcm_self {v : UInt64} (h : (v &&& 0x7fffffffffffffff) ≤ 0x7ff0000000000000) : dcm v v = 0 := by
  have h5 : v.toNat % 9223372036854775808 ≤ 9218868437227405312 := by
    rw [UInt64.le_iff_toNat_le, UInt64.toNat_and, show (0x7fffffffffffffff : UInt64).toNat = 2 ^ 63 - 1 by decide +kernel, Nat.and_two_pow_sub_one_eq_mod, show (0x7ff0000000000000 : UInt64).toNat = 9218868437227405312 by decide +kernel] at h
    exact h
  have hD : FP.Core.decode FP.Core.b64 v.toNat ≠ .nan := by
    unfold FP.Core.decode FP.Core.fieldE FP.Core.fieldT
    rw [tl64, ex64]
    by_cases g : v.toNat / 4503599627370496 % 2048 = 2048 - 1
    · rw [if_pos g, if_pos (by omega)]; exact fun h => FP.Core.Datum.noConfusion h
    · rw [if_neg g]
      by_cases g2 : v.toNat / 4503599627370496 % 2048 = 0
      · rw [if_pos g2]; exact fun h => FP.Core.Datum.noConfusion h
      · rw [if_neg g2]; exact fun h => FP.Core.Datum.noConfusion h
  unfold dcm
  rw [show FP.dcmp v v = some .eq from ord_self hD]
  decide +kernel
theorem fcm_self {v : UInt32} (h : (v &&& 0x7fffffff) ≤ 0x7f800000) : fcm v v = 0 := by
  have h5 : v.toNat % 2147483648 ≤ 2139095040 := by
    rw [UInt32.le_iff_toNat_le, UInt32.toNat_and, show (0x7fffffff : UInt32).toNat = 2 ^ 31 - 1 by decide +kernel, Nat.and_two_pow_sub_one_eq_mod, show (0x7f800000 : UInt32).toNat = 2139095040 by decide +kernel] at h
    exact h
  have hD : FP.Core.decode FP.Core.b32 v.toNat ≠ .nan := by
    unfold FP.Core.decode FP.Core.fieldE FP.Core.fieldT
    rw [tl32, ex32]
    by_cases g : v.toNat / 8388608 % 256 = 256 - 1
    · rw [if_pos g, if_pos (by omega)]; exact fun h => FP.Core.Datum.noConfusion h
    · rw [if_neg g]
      by_cases g2 : v.toNat / 8388608 % 256 = 0
      · rw [if_pos g2]; exact fun h => FP.Core.Datum.noConfusion h
      · rw [if_neg g2]; exact fun h => FP.Core.Datum.noConfusion h
  unfold fcm
  rw [show FP.fcmp v v = some .eq from ord_self hD]
  decide +kernel
theorem ddv_self {a b : UInt64} {v : UInt64} (h : ddv a b = some v) : dcm v v = 0 := by
  unfold ddv at h
  split at h
  · rename_i c; cases h; exact dcm_self (of_decide_eq_true c)
  · cases h
theorem fdv_self {a b : UInt32} {v : UInt32} (h : fdv a b = some v) : fcm v v = 0 := by
  unfold fdv at h
  split at h
  · rename_i c; cases h; exact fcm_self (of_decide_eq_true c)
  · cases h
theorem d0_self : dcm FP.dconst0 FP.dconst0 = 0 := dcm_self (by decide +kernel)
theorem f1_self : fcm FP.fconst1 FP.fconst1 = 0 := fcm_self (by decide +kernel)
end YA
