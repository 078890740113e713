/-! ===== sharpenings, a new chisel, the next cell, flaws that touch ===== -/
section OPS4
variable {k na : Nat} {wC wM : Wd} {xs : Nat → Int32} {i : Int}
theorem op18 (h : RR k na wC wM) : ∃ z, p_op_18 xs i na wC wM = some z ∧ RR k z.1 z.2.1 z.2.2 := by
  obtain ⟨vB, v1, v3, v4, v5, v6, v7, v8⟩ := h.V
  have h288 := (lF_ok h.B).2.2.2
  obtain ⟨w', a1, a2, a3, a4⟩ := h.lay (frmM_0 wM 0)
  obtain ⟨e1, e2, e3⟩ := h.ny a2
  obtain ⟨w1, b1, b2', b3⟩ := ch_copy (w := wC) (f := gA wM 51) (p := 111) (q := 30) (by decide) h.S.2.1
  have hfr1 := frm_30 b2'
  have hR1 := h.fr hfr1 (frm_refl wM)
  obtain ⟨w2, d1, d2, d3⟩ := tryL_o h.B v3 v4 (laF (gA wM 51) (nLF (gA wM 51)) - gA wM 51 8).toNat FU (gA wM 51 8) (laF (gA wM 51) (nLF (gA wM 51))) (gA wM 51 5, gA wM 51 7, gA wM 51 6) w1 hR1.T b3 v5 v8.1 (by omega) (by omega) (by have : FU = 1000000 := rfl; omega)
  obtain ⟨w3, g1, g2, g3, g4⟩ := timeFT_o h.B e1 e2 a3 v3 v5 (a := gA wM 51 8) (b := laF (gA wM 51) (nLF (gA wM 51))) (by omega)
  have hsh := (ctI_shift (f := gA wM 51) (sh := gA wM 51 3) (la := gA wM 51 4) (laF (gA wM 51) (nLF (gA wM 51)) - gA wM 51 8).toNat (gA wM 51 8) (gA wM 51 5) (gA wM 51 7) (gA wM 51 6) 0 0).2.2
  refine dok (p8 := p_X8_sharpenings wC) (pM := p_X9_sharpenings wM) (r := (ctI (gA wM 51) (gA wM 51 3) (gA wM 51 4) (laF (gA wM 51) (nLF (gA wM 51)) - gA wM 51 8).toNat (gA wM 51 8) (gA wM 51 5, gA wM 51 7, gA wM 51 6)).2.1 - gA wM 51 7) (wC' := w2) (wM' := w3) ?_ ?_ (h.fr (frm_trans hfr1 (frm_c30 d2)) (frm_trans a2 (frm_910 g2)))
  · unfold p_X8_sharpenings
    rw [b1, Option.bind_some]
    rw [show gF w1 100 11 = gA wM 51 8 from hR1.S.1.2.2.2.2.2, hR1.T.1]
    unfold p_X8_tryLetters
    rw [d1, Option.bind_some, d3.2.2.2.1]
    rw [show gF w2 111 4 = gA wM 51 7 from ((h.fr (frm_trans hfr1 (frm_c30 d2)) (frm_refl wM)).S.2.1.2.2.2.2)]
  · unfold p_X9_sharpenings
    rw [a1, Option.bind_some]
    dsimp only
    rw [if_neg (by decide), e3, letters_o e1 h.B a3.1, Option.bind_some]
    dsimp only
    rw [g1, Option.bind_some]
    dsimp only
    rw [g4]
    exact congrArg (fun q => some (q, w3)) (by omega)
theorem op19 (h : RR k na wC wM) : ∃ z, p_op_19 xs i na wC wM = some z ∧ RR k z.1 z.2.1 z.2.2 := by
  unfold p_op_19 p_L_timeWith
  have hx := sc_rng xs (i + 1)
  generalize sc xs (i + 1) = x at *
  obtain ⟨vB, v1, v3, v4, v5, v6, v7, v8⟩ := h.V
  have h288 := (lF_ok h.B).2.2.2
  have hN := laF_rng h.B (nL_rng h.B).1 (nL_rng h.B).2.1
  have hn := nL_rng h.B
  have hx' := hx
  unfold rng at hx'
  unfold p_X8_timeWith p_X8_timeWith_12 p_X9_timeWith p_X9_isSharp
  simp (disch := omega) only [lt32_o, w32_o, in_o, Option.bind_some, zr_b2, passes_o, eq32_b2]
  by_cases c : 1 ≤ x ∧ x ≤ 999
  · rw [if_neg (by omega), if_neg (by omega), decide_eq_true c, if_neg (by decide)]
    obtain ⟨w', a1, a2, a3, a4⟩ := h.lay (frmM_0 wM (b2 (!true)))
    obtain ⟨e1, e2, e3⟩ := h.ny a2
    have hhone : gF wC 111 1 = gA wM 51 4 := h.S.2.1.2.1
    have hw1 : p_X1_renew 30 x (gF wC 111 1) wC = some (sF (sF (sF wC 30 0 x) 30 1 (gA wM 51 4)) 30 2 x) := by
      unfold p_X1_renew; rw [Option.bind_some, hhone]
    have hfr1 : frm SCf TCf wC (sF (sF (sF (sF wC 30 0 x) 30 1 (gA wM 51 4)) 30 2 x) 30 3 0) := frm_sF (frm_sF (frm_sF (frm_sF (frm_refl wC) (by unfold SCf; omega)) (by unfold SCf; omega)) (by unfold SCf; omega)) (by unfold SCf; omega)
    have hR1 := h.fr hfr1 (frm_refl wM)
    have hC0 : CHs (sF (sF (sF (sF wC 30 0 x) 30 1 (gA wM 51 4)) 30 2 x) 30 3 0) 30 x (gA wM 51 4) (x, gF wC 30 4, 0) := ⟨rfl, rfl, rfl, rfl, rfl⟩
    obtain ⟨w2, d1, d2, d3⟩ := tryL_o h.B c v4 (laF (gA wM 51) (nLF (gA wM 51))).toNat FU 0 (laF (gA wM 51) (nLF (gA wM 51))) (x, gF wC 30 4, 0) _ hR1.T hC0 ⟨by show 0 ≤ x; omega, Int.le_refl _⟩ (by decide) (by omega) (by omega) (by have : FU = 1000000 := rfl; omega)
    have hMl : ∀ (m n : Nat) (a s : Int) (c : Ch) (w : Wd), frm SMf TMf wM w → AR9 w (nLF (gA wM 51)) (rLF (gA wM 51)) (cLF (gA wM 51)) → gF w 50 9 = c.1 → 0 ≤ c.1 ∧ c.1 ≤ x → 0 ≤ a → a + m = laF (gA wM 51) (nLF (gA wM 51)) → s = c.2.2 → m < n →
        ∃ w2, p_X9_timeWith_28 n x s a w = some ((ctI (gA wM 51) x (gA wM 51 4) m a c).2.2, w2) ∧ frm SMf TMf w w2 ∧ gF w2 50 0 = gF w 50 0 := by
      intro m
      induction m with
      | zero =>
        intro n a s c w hw hA h9 hc a0 hab hs hn
        obtain ⟨n', rfl⟩ : ∃ n', n = n' + 1 := ⟨n - 1, by omega⟩
        refine ⟨w, ?_, frm_refl w, rfl⟩
        simp only [p_X9_timeWith_28]
        rw [letters_o (h.ny hw).1 h.B hA.1, Option.bind_some]
        simp (disch := omega) only [lt32_o]
        rw [if_neg (by omega), hs]; rfl
      | succ m ih =>
        intro n a s cc w hw hA h9 hc a0 hab hs hn
        obtain ⟨n', rfl⟩ : ∃ n', n = n' + 1 := ⟨n - 1, by omega⟩
        obtain ⟨f1, f2, f3⟩ := h.ny hw
        have hg := cos_rng (f := gA wM 51) (n := a)
        have hcr := ctF_rng (s := cosF (gA wM 51) a) (la := gA wM 51 4) c.1 hg.1 hc v4.1
        obtain ⟨w2, q1, q2, q3, q4⟩ := timeL_o h.B f1 hA (n := a) (sh := x) (L := cc.1) (N := gF w 50 10) (T := cc.2.2) (by omega) c hc h9 rfl
        have e5 : (ctF x (gA wM 51 4) (cosF (gA wM 51) a) (cc.1, gF w 50 10, cc.2.2)).2.2 = (ctF x (gA wM 51 4) (cosF (gA wM 51) a) cc).2.2 := by
          unfold ctF; split <;> rfl
        have e6 : (ctF x (gA wM 51 4) (cosF (gA wM 51) a) (cc.1, gF w 50 10, cc.2.2)).1 = (ctF x (gA wM 51 4) (cosF (gA wM 51) a) cc).1 := by
          unfold ctF; split <;> rfl
        rw [e5] at q1
        rw [e6] at q3
        simp only [p_X9_timeWith_28]
        rw [letters_o f1 h.B hA.1, Option.bind_some]
        simp (disch := omega) only [lt32_o]
        rw [if_pos (by omega), q1, Option.bind_some]
        dsimp only
        obtain ⟨w3, r1, r2, r3⟩ := ih n' (a + 1) (s + ((ctF x (gA wM 51 4) (cosF (gA wM 51) a) cc).2.2 - cc.2.2)) (ctF x (gA wM 51 4) (cosF (gA wM 51) a) cc) w2 (frm_trans hw (frm_910 q2)) (hA.fr q2 (by unfold S910; omega) id id) q3 hcr.1 (by omega) (by omega) (by omega) (by omega)
        exact ⟨w3, r1, frm_trans (frm_910 q2) r2, r3.trans (q2.1 50 0 (by unfold S910; omega))⟩
    have hfr9 : frm SMf TMf w' (sF w' 50 9 x) := frm_sF (frm_refl w') (by unfold SMf; omega)
    have hA9 : AR9 (sF w' 50 9 x) (nLF (gA wM 51)) (rLF (gA wM 51)) (cLF (gA wM 51)) := a3
    obtain ⟨w3, g1, g2, g3⟩ := hMl (laF (gA wM 51) (nLF (gA wM 51))).toNat FU 0 0 (x, gF wC 30 4, 0) (sF w' 50 9 x) (frm_trans a2 hfr9) hA9 rfl ⟨by show 0 ≤ x; omega, Int.le_refl _⟩ (by decide) (by omega) rfl (by have : FU = 1000000 := rfl; omega)
    refine wok (na' := na) (wC' := w2) (wM' := w3) (r := (ctI (gA wM 51) x (gA wM 51 4) (laF (gA wM 51) (nLF (gA wM 51))).toNat 0 (x, gF wC 30 4, 0)).2.2) ?_ ?_ (g3.trans a4) (h.fr (frm_trans hfr1 (frm_c30 d2)) (frm_trans a2 (frm_trans hfr9 g2)))
    · rw [hw1, Option.bind_some]
      rw [show gF (sF (sF (sF (sF wC 30 0 x) 30 1 (gA wM 51 4)) 30 2 x) 30 3 0) 10 5 = laF (gA wM 51) (nLF (gA wM 51)) from h.T.1]
      unfold p_X8_tryLetters
      rw [d1, Option.bind_some, d3.2.2.2.2]
    · rw [a1, Option.bind_some]
      exact g1
  · rw [decide_eq_false c, if_pos rfl]
    have hp : (if x < 1 then some (Sum.inr 2, na, wC) else if 999 < x then some (Sum.inr 2, na, wC) else (p_X1_renew 30 x (gF wC 111 1) wC).bind fun w1 => (p_X8_tryLetters 0 (gF (sF w1 30 3 0) 10 5) (sF w1 30 3 0)).bind fun w2 => some (Sum.inl (gF w2 30 3), na, w2)) = (some (Sum.inr 2, na, wC) : Option Rz) := by
      by_cases d : x < 1
      · rw [if_pos d]
      · rw [if_neg d, if_pos (by omega)]
    rw [hp]
    exact wex (e := 2) (na' := na) (wC' := wC) rfl rfl rfl (Or.inl rfl) rfl (h.fr (frm_refl _) (frmM_0 _ _))
theorem op20 (h : RR k na wC wM) : ∃ z, p_op_20 xs i na wC wM = some z ∧ RR k z.1 z.2.1 z.2.2 := by
  obtain ⟨vB, v1, v3, v4, v5, v6, v7, v8⟩ := h.V
  have h288 := (lF_ok h.B).2.2.2
  have hn := nL_rng h.B
  obtain ⟨w', a1, a2, a3, a4⟩ := h.lay (frmM_0 wM 0)
  obtain ⟨e1, e2, e3⟩ := h.ny a2
  refine dok (p8 := p_X8_nextCell wC) (pM := p_X9_nextCell wM) (r := if gA wM 51 8 < laF (gA wM 51) (nLF (gA wM 51)) then plF (gA wM 51) (gA wM 51 8) else -1) (wC' := wC) (wM' := w') ?_ ?_ (h.fr (frm_refl _) a2)
  · unfold p_X8_nextCell
    rw [show gF wC 100 11 = gA wM 51 8 from h.S.1.2.2.2.2.2, h.T.1]
    simp (disch := omega) only [lt32_o]
    by_cases c : gA wM 51 8 < laF (gA wM 51) (nLF (gA wM 51))
    · rw [if_pos c, if_pos c, at_in ⟨v8.1, by rw [show ln (15 + 1) = 288 from rfl]; omega⟩, Option.bind_some]
      exact congrArg (fun q => some (q, wC)) (h.T.2 _ v8.1 c).1
    · rw [if_neg c, if_neg c]
  · unfold p_X9_nextCell
    rw [a1, Option.bind_some]
    dsimp only
    rw [if_neg (by decide), e3, letters_o e1 h.B a3.1, Option.bind_some]
    simp (disch := omega) only [eq32_o]
    by_cases c : gA wM 51 8 < laF (gA wM 51) (nLF (gA wM 51))
    · obtain ⟨x1, x2, x3⟩ := wl_ex h.B ⟨hn.1, hn.2.1⟩ ⟨v8.1, c⟩
      rw [if_neg (by omega), if_pos c, wordOfLetter_o e1 h.B ⟨hn.1, hn.2.1⟩ ⟨v8.1, c⟩, Option.bind_some]
      dsimp only
      rw [if_neg (by rw [inb_f (by omega)]; exact id), if_neg (by rw [inb_f (by omega)]; exact id), lettersAhead_o e1 (by omega), Option.bind_some]
      dsimp only
      rw [(a3.2 _ x1.1 x1.2).1, (a3.2 _ x1.1 x1.2).2]
      unfold plF
      exact congrArg (fun q => some (q, w')) (by omega)
    · rw [if_pos (by omega), if_neg c]
theorem wo_out {f : Rw} (hV : VB f) {x y : Int} (hc : isCF f x y = false) : woF f x y = -1 := by
  rcases woF_rng hV x y with ⟨d, _⟩ | ⟨d1, d2, d3, d4, d5⟩
  · exact d
  · have hrc := rc_rng hV ⟨d1, d2⟩
    have := of_decide_eq_false hc
    omega
def tcF (f : Rw) (x y : Int) : Bool := (woF f (x - 1) y != -1) || (woF f (x + 1) y != -1) || (woF f x (y - 1) != -1) || (woF f x (y + 1) != -1)
theorem eqm1 {f : Rw} (hV : VB f) (x y : Int) : (eq32 (woF f x y) (-1) = true) = (woF f x y = -1) := by
  have hwo := woF_rng hV x y
  have hnl := nL_rng hV
  rw [eq32_o (by omega)]
theorem beside_o (h : RR k na wC wM) {x y : Int} (hx : -100 ≤ x ∧ x ≤ 100) (hy : -100 ≤ y ∧ y ≤ 100) : p_X8_letterBeside x y wC = some (b2 (tcF (gA wM 51) x y), wC) := by
  unfold p_X8_letterBeside p_X8_letterBeside_76 tcF
  rw [wordOn_o h.B h.S h.L ⟨by omega, by omega⟩ ⟨by omega, by omega⟩, Option.bind_some]
  dsimp only
  rw [wordOn_o h.B h.S h.L ⟨by omega, by omega⟩ ⟨by omega, by omega⟩, Option.bind_some]
  dsimp only
  rw [wordOn_o h.B h.S h.L ⟨by omega, by omega⟩ ⟨by omega, by omega⟩, Option.bind_some]
  dsimp only
  rw [wordOn_o h.B h.S h.L ⟨by omega, by omega⟩ ⟨by omega, by omega⟩, Option.bind_some]
  simp only [eqm1 h.B]
  by_cases c1 : woF (gA wM 51) (x - 1) y = -1
  · rw [if_pos c1, c1]
    by_cases c2 : woF (gA wM 51) (x + 1) y = -1
    · rw [if_pos c2, c2]
      by_cases c3 : woF (gA wM 51) x (y - 1) = -1
      · rw [if_pos c3, c3]
        by_cases c4 : woF (gA wM 51) x (y + 1) = -1
        · rw [if_pos c4, c4]; rfl
        · rw [if_neg c4, show (woF (gA wM 51) x (y + 1) != -1) = true from bne_iff_ne.mpr c4]; rfl
      · rw [if_neg c3, show (woF (gA wM 51) x (y - 1) != -1) = true from bne_iff_ne.mpr c3]; rfl
    · rw [if_neg c2, show (woF (gA wM 51) (x + 1) y != -1) = true from bne_iff_ne.mpr c2]; rfl
  · rw [if_neg c1, show (woF (gA wM 51) (x - 1) y != -1) = true from bne_iff_ne.mpr c1]; rfl
theorem hasLetter_o {f : Rw} (hV : VB f) {w : Wd} (hf : cR w = f) (hA : AR9 w (nLF f) (rLF f) (cLF f)) {x y : Int} (hx : rng x) (hy : rng y) : p_X9_hasLetter x y w = some (b2 (woF f x y != -1), w) := by
  unfold p_X9_hasLetter
  rw [isCell_o hf hV hx hy, Option.bind_some]
  simp only [eq32_b2]
  by_cases c : isCF f x y = false
  · rw [if_pos c, wo_out hV c]; rfl
  · rw [if_neg c, wordIn_o hV hf hA hx hy, Option.bind_some]
    simp only [eqm1 hV]
    by_cases c2 : woF f x y = -1
    · rw [if_pos c2, c2]; rfl
    · rw [if_neg c2, show (woF f x y != -1) = true from bne_iff_ne.mpr c2]; rfl
theorem touches_o {f : Rw} (hV : VB f) {w : Wd} (hf : cR w = f) (hA : AR9 w (nLF f) (rLF f) (cLF f)) {x y : Int} (hx : -100 ≤ x ∧ x ≤ 100) (hy : -100 ≤ y ∧ y ≤ 100) : p_X9_touches x y w = some (b2 (tcF f x y), w) := by
  unfold p_X9_touches p_X9_touches_44 tcF
  rw [hasLetter_o hV hf hA ⟨by omega, by omega⟩ ⟨by omega, by omega⟩, Option.bind_some]
  simp only [eq32_b2]
  rw [hasLetter_o hV hf hA ⟨by omega, by omega⟩ ⟨by omega, by omega⟩, Option.bind_some]
  simp only [eq32_b2]
  rw [hasLetter_o hV hf hA ⟨by omega, by omega⟩ ⟨by omega, by omega⟩, Option.bind_some]
  simp only [eq32_b2]
  rw [hasLetter_o hV hf hA ⟨by omega, by omega⟩ ⟨by omega, by omega⟩, Option.bind_some]
  simp only [eq32_b2]
  generalize (woF f (x - 1) y != -1) = a
  generalize (woF f (x + 1) y != -1) = b
  generalize (woF f x (y - 1) != -1) = c
  generalize (woF f x (y + 1) != -1) = d
  cases a <;> cases b <;> cases c <;> cases d <;> rfl
def toF (f : Rw) (y x : Int) : Int := if flF f x y = true ∧ tcF f x y = true then 1 else 0
theorem op29 (h : RR k na wC wM) : ∃ z, p_op_29 xs i na wC wM = some z ∧ RR k z.1 z.2.1 z.2.2 := by
  have hc := h.B.c
  have hr := h.B.r
  obtain ⟨w', a1, a2, a3, a4⟩ := h.lay (frmM_0 wM 0)
  obtain ⟨e1, e2, e3⟩ := h.ny a2
  have q0 : gF wC 100 0 = gA wM 51 0 := h.S.1.1
  have q1 : gF wC 100 1 = gA wM 51 1 := h.S.1.2.1
  refine dok (p8 := p_X8_touching wC) (pM := p_X9_touching wM) (r := sm (fun y => sm (toF (gA wM 51) y) (gA wM 51 0).toNat) (gA wM 51 1).toNat) (wC' := wC) (wM' := w') ?_ ?_ (h.fr (frm_refl _) a2)
  · have hin : ∀ (k4 : Int → Int → Wd → Option (Int × Wd)) (y : Int), 0 ≤ y → y < gA wM 51 1 → ∀ (m n : Nat) (x s : Int), 0 ≤ x → x + m = gA wM 51 0 → m < n → p_X8_touching_17 k4 n s y x wC = k4 (s + (sm (toF (gA wM 51) y) (gA wM 51 0).toNat - sm (toF (gA wM 51) y) x.toNat)) (y + 1) wC := by
      intro k4 y y0 y1 m
      induction m with
      | zero =>
        intro n x s x0 x1 hn
        obtain ⟨n', rfl⟩ : ∃ n', n = n' + 1 := ⟨n - 1, by omega⟩
        simp (disch := omega) only [p_X8_touching_17, p_X8_touching_58, q0, lt32_o]
        rw [if_neg (by omega), show x = gA wM 51 0 by omega, show s + (sm (toF (gA wM 51) y) (gA wM 51 0).toNat - sm (toF (gA wM 51) y) (gA wM 51 0).toNat) = s by omega]
      | succ m ih =>
        intro n x s x0 x1 hn
        obtain ⟨n', rfl⟩ : ∃ n', n = n' + 1 := ⟨n - 1, by omega⟩
        have hst := sm_step (g := toF (gA wM 51) y) x0
        simp (disch := omega) only [p_X8_touching_17, p_X8_touching_52, q0, lt32_o]
        rw [if_pos (by omega), cflaw_o SLo_0 h.B h.S ⟨by omega, by omega⟩ ⟨by omega, by omega⟩, Option.bind_some]
        simp only [eq32_b2]
        by_cases c1 : flF (gA wM 51) x y = false
        · have hg : toF (gA wM 51) y x = 0 := if_neg (fun e => by rw [c1] at e; exact absurd e.1 (by decide))
          rw [if_pos c1, ih n' (x + 1) s (by omega) (by omega) (by omega), hst, hg]
          exact congrArg (fun q => k4 q (y + 1) wC) (by omega)
        · rw [if_neg c1, beside_o h (by omega) (by omega), Option.bind_some]
          simp only [eq32_b2]
          have c1' : flF (gA wM 51) x y = true := by cases hq : flF (gA wM 51) x y <;> simp_all
          by_cases c2 : tcF (gA wM 51) x y = false
          · have hg : toF (gA wM 51) y x = 0 := if_neg (fun e => by rw [c2] at e; exact absurd e.2 (by decide))
            rw [if_pos c2, ih n' (x + 1) s (by omega) (by omega) (by omega), hst, hg]
            exact congrArg (fun q => k4 q (y + 1) wC) (by omega)
          · have c2' : tcF (gA wM 51) x y = true := by cases hq : tcF (gA wM 51) x y <;> simp_all
            have hg : toF (gA wM 51) y x = 1 := if_pos ⟨c1', c2'⟩
            rw [if_neg c2, ih n' (x + 1) (s + 1) (by omega) (by omega) (by omega), hst, hg]
            exact congrArg (fun q => k4 q (y + 1) wC) (by omega)
    have hl := sum_loop (lp := fun n x s => p_X8_touching_4 n s x wC) (g := fun y => sm (toF (gA wM 51) y) (gA wM 51 0).toNat) (b := gA wM 51 1) (w := wC)
      (fun n x s x0 x1 => by
        show p_X8_touching_4 (n + 1) s x wC = p_X8_touching_4 n _ (x + 1) wC
        simp (disch := omega) only [p_X8_touching_4, q1, lt32_o, x1, if_true]
        rw [hin _ x x0 x1 (gA wM 51 0).toNat FU 0 s (by decide) (by omega) (by have : FU = 1000000 := rfl; omega)]
        exact congrArg (fun q => p_X8_touching_4 n q (x + 1) wC) (by show s + (_ - 0) = _; omega))
      (fun n x s x0 => by
        show p_X8_touching_4 (n + 1) s x wC = _
        simp (disch := omega) only [p_X8_touching_4, q1, lt32_o]
        rw [if_neg (by omega)])
      FU 0 0 (by decide) (by omega) (by have : FU = 1000000 := rfl; omega)
    refine hl.trans (congrArg (fun q => some (q, wC)) ?_)
    show 0 + (_ - 0) = _
    omega
  · have hin : ∀ (k4 : Int → Int → Wd → Option (Int × Wd)) (y : Int), 0 ≤ y → y < gA wM 51 1 → ∀ (m n : Nat) (x s : Int), 0 ≤ x → x + m = gA wM 51 0 → m < n → p_X9_touching_25 k4 n s y x w' = k4 (s + (sm (toF (gA wM 51) y) (gA wM 51 0).toNat - sm (toF (gA wM 51) y) x.toNat)) (y + 1) w' := by
      intro k4 y y0 y1 m
      induction m with
      | zero =>
        intro n x s x0 x1 hn
        obtain ⟨n', rfl⟩ : ∃ n', n = n' + 1 := ⟨n - 1, by omega⟩
        simp (disch := omega) only [p_X9_touching_25, p_X9_touching_68, wide_o e1, Option.bind_some, lt32_o]
        rw [if_neg (by omega), show x = gA wM 51 0 by omega, show s + (sm (toF (gA wM 51) y) (gA wM 51 0).toNat - sm (toF (gA wM 51) y) (gA wM 51 0).toNat) = s by omega]
      | succ m ih =>
        intro n x s x0 x1 hn
        obtain ⟨n', rfl⟩ : ∃ n', n = n' + 1 := ⟨n - 1, by omega⟩
        have hst := sm_step (g := toF (gA wM 51) y) x0
        simp (disch := omega) only [p_X9_touching_25, p_X9_touching_59, p_X9_touching_60, wide_o e1, Option.bind_some, lt32_o]
        rw [if_pos (by omega), hasFlaw_o e1 h.B ⟨by omega, by omega⟩ ⟨by omega, by omega⟩, Option.bind_some]
        simp only [eq32_b2]
        by_cases c1 : flF (gA wM 51) x y = false
        · have hg : toF (gA wM 51) y x = 0 := if_neg (fun e => by rw [c1] at e; exact absurd e.1 (by decide))
          rw [if_pos c1, ih n' (x + 1) (s + 0) (by omega) (by omega) (by omega), hst, hg]
          exact congrArg (fun q => k4 q (y + 1) w') (by omega)
        · rw [if_neg c1, touches_o h.B e1 a3 (by omega) (by omega), Option.bind_some]
          simp only [eq32_b2]
          have c1' : flF (gA wM 51) x y = true := by cases hq : flF (gA wM 51) x y <;> simp_all
          by_cases c2 : tcF (gA wM 51) x y = false
          · have hg : toF (gA wM 51) y x = 0 := if_neg (fun e => by rw [c2] at e; exact absurd e.2 (by decide))
            rw [if_pos c2, ih n' (x + 1) (s + 0) (by omega) (by omega) (by omega), hst, hg]
            exact congrArg (fun q => k4 q (y + 1) w') (by omega)
          · have c2' : tcF (gA wM 51) x y = true := by cases hq : tcF (gA wM 51) x y <;> simp_all
            have hg : toF (gA wM 51) y x = 1 := if_pos ⟨c1', c2'⟩
            rw [if_neg c2, ih n' (x + 1) (s + 1) (by omega) (by omega) (by omega), hst, hg]
            exact congrArg (fun q => k4 q (y + 1) w') (by omega)
    have hl := sum_loop (lp := fun n x s => p_X9_touching_14 n s x w') (g := fun y => sm (toF (gA wM 51) y) (gA wM 51 0).toNat) (b := gA wM 51 1) (w := w')
      (fun n x s x0 x1 => by
        show p_X9_touching_14 (n + 1) s x w' = p_X9_touching_14 n _ (x + 1) w'
        simp (disch := omega) only [p_X9_touching_14, high_o e1, Option.bind_some, lt32_o, x1, if_true]
        rw [hin _ x x0 x1 (gA wM 51 0).toNat FU 0 s (by decide) (by omega) (by have : FU = 1000000 := rfl; omega)]
        exact congrArg (fun q => p_X9_touching_14 n q (x + 1) w') (by show s + (_ - 0) = _; omega))
      (fun n x s x0 => by
        show p_X9_touching_14 (n + 1) s x w' = _
        simp (disch := omega) only [p_X9_touching_14, high_o e1, Option.bind_some, lt32_o]
        rw [if_neg (by omega)])
      FU 0 0 (by decide) (by omega) (by have : FU = 1000000 := rfl; omega)
    unfold p_X9_touching
    rw [a1, Option.bind_some]
    refine hl.trans (congrArg (fun q => some (q, w')) ?_)
    show 0 + (_ - 0) = _
    omega
end OPS4
