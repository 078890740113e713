/-! ===== strokes and time ===== -/
section OPS3
variable {k na : Nat} {wC wM : Wd} {xs : Nat → Int32} {i : Int}
theorem ch_copy {w : Wd} {f : Rw} {p q : Nat} (hqp : q ≠ p) (hC : gF w p 0 = f 3 ∧ gF w p 1 = f 4 ∧ gF w p 2 = f 5 ∧ gF w p 3 = f 6 ∧ gF w p 4 = f 7) : ∃ w', p_X1_copy q p w = some w' ∧ frm (fun o _ => o = q) T0 w w' ∧ CHs w' q (f 3) (f 4) (f 5, f 7, f 6) := by
  obtain ⟨c0, c1, c2, c3, c4⟩ := hC
  refine ⟨sF (sF (sF (sF (sF w q 0 (f 3)) q 1 (f 4)) q 2 (f 5)) q 3 (f 6)) q 4 (f 7), ?_, frm_sF (frm_sF (frm_sF (frm_sF (frm_sF (frm_refl w) rfl) rfl) rfl) rfl) rfl, ?_⟩
  · unfold p_X1_copy
    rw [Option.bind_some, Option.bind_some, c0]
    rw [show gF (sF w q 0 (f 3)) p 1 = f 4 by rw [gF_sF, if_neg (by omega)]; exact c1]
    rw [show gF (sF (sF w q 0 (f 3)) q 1 (f 4)) p 2 = f 5 by rw [gF_sF, if_neg (by omega), gF_sF, if_neg (by omega)]; exact c2]
    rw [show gF (sF (sF (sF w q 0 (f 3)) q 1 (f 4)) q 2 (f 5)) p 3 = f 6 by rw [gF_sF, if_neg (by omega), gF_sF, if_neg (by omega), gF_sF, if_neg (by omega)]; exact c3]
    rw [show gF (sF (sF (sF (sF w q 0 (f 3)) q 1 (f 4)) q 2 (f 5)) q 3 (f 6)) p 4 = f 7 by rw [gF_sF, if_neg (by omega), gF_sF, if_neg (by omega), gF_sF, if_neg (by omega), gF_sF, if_neg (by omega)]; exact c4]
  · refine ⟨?_, ?_, ?_, ?_, ?_⟩
    · rw [gF_sF, if_neg (by omega), gF_sF, if_neg (by omega), gF_sF, if_neg (by omega), gF_sF, if_neg (by omega), gF_sF, if_pos ⟨rfl, rfl⟩]
    · rw [gF_sF, if_neg (by omega), gF_sF, if_neg (by omega), gF_sF, if_neg (by omega), gF_sF, if_pos ⟨rfl, rfl⟩]
    · rw [gF_sF, if_neg (by omega), gF_sF, if_neg (by omega), gF_sF, if_pos ⟨rfl, rfl⟩]
    · rw [gF_sF, if_pos ⟨rfl, rfl⟩]
    · rw [gF_sF, if_neg (by omega), gF_sF, if_pos ⟨rfl, rfl⟩]
theorem frm_30 {w w' : Wd} (h : frm (fun o _ => o = 30) T0 w w') : frm SCf TCf w w' := frm_mono h (fun o k h => by unfold SCf; omega) (fun o h => absurd h id)
theorem frm_c30 {w w' : Wd} (h : frm (SCH 30) T0 w w') : frm SCf TCf w w' := frm_mono h (fun o k h => by have := h.1; unfold SCf; omega) (fun o h => absurd h id)
theorem costsOf_o (h : RR k na wC wM) {a b : Int} (h0 : 0 ≤ a ∧ a ≤ b ∧ b ≤ laF (gA wM 51) (nLF (gA wM 51))) : p_X2_costsOf 10 a b wC = some (sm (cosF (gA wM 51)) b.toNat - sm (cosF (gA wM 51)) a.toNat, wC) := by
  have h288 := (lF_ok h.B).2.2.2
  have hl := sum_loop (lp := fun n x s => p_X2_costsOf_5 10 n b s x wC) (g := cosF (gA wM 51)) (b := b) (w := wC)
    (fun n x s x0 x1 => by
      show p_X2_costsOf_5 10 (n + 1) b s x wC = p_X2_costsOf_5 10 n b _ (x + 1) wC
      simp (disch := omega) only [p_X2_costsOf_5, lt32_o, x1, if_true]
      rw [at17_o h.B h.T ⟨x0, by omega⟩, Option.bind_some])
    (fun n x s x0 => by
      show p_X2_costsOf_5 10 (n + 1) b s x wC = _
      simp (disch := omega) only [p_X2_costsOf_5, lt32_o]
      rw [if_neg (by omega)])
    FU a 0 h0.1 h0.2.1 (by have : FU = 1000000 := rfl; omega)
  unfold p_X2_costsOf
  refine hl.trans (congrArg (fun q => some (q, wC)) ?_)
  omega
theorem strokesFrom_o {f : Rw} (hV : VB f) {w : Wd} (hf : cR w = f) (hA : AR9 w (nLF f) (rLF f) (cLF f)) {a : Int} (h0 : 0 ≤ a ∧ a ≤ laF f (nLF f)) : p_X9_strokesFrom a w = some (sm (cosF f) (laF f (nLF f)).toNat - sm (cosF f) a.toNat, w) := by
  have h288 := (lF_ok hV).2.2.2
  have hl := sum_loop (lp := fun n x s => p_X9_strokesFrom_4 n s x w) (g := cosF f) (b := laF f (nLF f)) (w := w)
    (fun n x s x0 x1 => by
      show p_X9_strokesFrom_4 (n + 1) s x w = p_X9_strokesFrom_4 n _ (x + 1) w
      simp only [p_X9_strokesFrom_4]
      rw [letters_o hf hV hA.1, Option.bind_some]
      simp (disch := omega) only [lt32_o, x1, if_true]
      rw [strokesOfLetter_o hf hV hA ⟨x0, x1⟩, Option.bind_some])
    (fun n x s x0 => by
      show p_X9_strokesFrom_4 (n + 1) s x w = _
      simp only [p_X9_strokesFrom_4]
      rw [letters_o hf hV hA.1, Option.bind_some]
      simp (disch := omega) only [lt32_o]
      rw [if_neg (by omega)])
    FU a 0 h0.1 h0.2 (by have : FU = 1000000 := rfl; omega)
  unfold p_X9_strokesFrom
  refine hl.trans (congrArg (fun q => some (q, w)) ?_)
  omega
theorem op15 (h : RR k na wC wM) : ∃ z, p_op_15 xs i na wC wM = some z ∧ RR k z.1 z.2.1 z.2.2 := by
  obtain ⟨w', a1, a2, a3, a4⟩ := h.lay (frmM_0 wM 0)
  obtain ⟨e1, e2, e3⟩ := h.ny a2
  obtain ⟨vB, v1, v3, v4, v5, v6, v7, v8⟩ := h.V
  refine dok (p8 := p_X8_strokesLeft wC) (pM := p_X9_strokesLeft wM) (r := sm (cosF (gA wM 51)) (laF (gA wM 51) (nLF (gA wM 51))).toNat - sm (cosF (gA wM 51)) (gA wM 51 8).toNat) (wC' := wC) (wM' := w') ?_ ?_ (h.fr (frm_refl _) a2)
  · unfold p_X8_strokesLeft
    rw [show gF wC 100 11 = gA wM 51 8 from h.S.1.2.2.2.2.2, h.T.1, costsOf_o h ⟨v8.1, v8.2, Int.le_refl _⟩, Option.bind_some]
  · unfold p_X9_strokesLeft
    rw [a1, Option.bind_some]
    dsimp only
    rw [if_neg (by decide), e3, strokesFrom_o h.B e1 a3 v8, Option.bind_some]
theorem endOf_o {f : Rw} (hV : VB f) {w : Wd} (hf : cR w = f) (h51 : gA w 51 = f) (hA : AR9 w (nLF f) (rLF f) (cLF f)) {x : Int} (hx : rng x) (h8 : 0 ≤ f 8 ∧ f 8 ≤ laF f (nLF f)) : p_X9_endOf x w = some (f 8 + min x (laF f (nLF f) - f 8), w) := by
  have h288 := (lF_ok hV).2.2.2
  unfold rng at hx
  unfold p_X9_endOf
  rw [if_neg (by decide), letters_o hf hV hA.1, Option.bind_some]
  dsimp only
  rw [if_neg (by decide), h51, mn32_o (by omega)]
theorem op16 (h : RR k na wC wM) : ∃ z, p_op_16 xs i na wC wM = some z ∧ RR k z.1 z.2.1 z.2.2 := by
  unfold p_op_16 p_L_timeFor
  have hx := sc_rng xs (i + 1)
  generalize sc xs (i + 1) = x at *
  obtain ⟨vB, v1, v3, v4, v5, v6, v7, v8⟩ := h.V
  have h288 := (lF_ok h.B).2.2.2
  have hx' := hx
  unfold rng at hx'
  unfold p_X8_timeFor p_X9_timeFor p_X9_timeFor_10
  simp (disch := omega) only [lt32_o]
  by_cases c : x < 0
  · rw [if_pos c, if_pos c]
    exact wex (e := 2) (na' := na) (wC' := wC) rfl (r := 0) (wM' := sF wM 50 0 1) (by
      show ((p_X9_passes (b2 false) wM).bind _) = _
      rw [passes_o, Option.bind_some]; exact if_pos (show eq32 (b2 false) 0 = true by decide +kernel)) rfl (Or.inl rfl) rfl (h.fr (frm_refl _) (frmM_0 _ _))
  · rw [if_neg c, if_neg c]
    obtain ⟨w', a1, a2, a3, a4⟩ := h.lay (frmM_0 wM 0)
    obtain ⟨e1, e2, e3⟩ := h.ny a2
    obtain ⟨w1, b1, b2', b3⟩ := ch_copy (w := wC) (f := gA wM 51) (p := 111) (q := 30) (by decide) h.S.2.1
    have hfr1 := frm_30 b2'
    have hR1 := h.fr hfr1 (frm_refl wM)
    obtain ⟨w2, d1, d2, d3⟩ := tryL_o h.B v3 v4 (min x (laF (gA wM 51) (nLF (gA wM 51)) - gA wM 51 8)).toNat FU (gA wM 51 8) (gA wM 51 8 + min x (laF (gA wM 51) (nLF (gA wM 51)) - gA wM 51 8)) (gA wM 51 5, gA wM 51 7, gA wM 51 6) w1 hR1.T b3 v5 v8.1 (by omega) (by omega) (by have : FU = 1000000 := rfl; omega)
    obtain ⟨w3, g1, g2, g3, g4⟩ := timeFT_o h.B e1 e2 a3 v3 v5 (a := gA wM 51 8) (b := gA wM 51 8 + min x (laF (gA wM 51) (nLF (gA wM 51)) - gA wM 51 8)) (by omega)
    have hsh := (ctI_shift (f := gA wM 51) (sh := gA wM 51 3) (la := gA wM 51 4) (min x (laF (gA wM 51) (nLF (gA wM 51)) - gA wM 51 8)).toNat (gA wM 51 8) (gA wM 51 5) (gA wM 51 7) (gA wM 51 6) 0 0).1
    refine wok (na' := na) (wC' := w2) (wM' := w3) (r := (ctI (gA wM 51) (gA wM 51 3) (gA wM 51 4) (min x (laF (gA wM 51) (nLF (gA wM 51)) - gA wM 51 8)).toNat (gA wM 51 8) (gA wM 51 5, gA wM 51 7, gA wM 51 6)).2.2 - gA wM 51 6) ?_ ?_ ((g2.1 50 0 (by unfold S910; omega)).trans a4) (h.fr (frm_trans hfr1 (frm_c30 d2)) (frm_trans a2 (frm_910 g2)))
    · rw [b1, Option.bind_some]
      rw [show gF w1 100 11 = gA wM 51 8 from hR1.S.1.2.2.2.2.2, show gF wC 100 11 = gA wM 51 8 from h.S.1.2.2.2.2.2, h.T.1, mn32_o (by omega)]
      unfold p_X8_tryLetters
      rw [d1, Option.bind_some, d3.2.2.2.2]
      rw [show gF w2 111 3 = gA wM 51 6 from ((h.fr (frm_trans hfr1 (frm_c30 d2)) (frm_refl wM)).S.2.1.2.2.2.1)]
    · show ((p_X9_passes (b2 true) wM).bind _) = _
      rw [passes_o, Option.bind_some]
      dsimp only
      rw [if_neg (by decide +kernel)]
      show ((p_X9_lay (sF wM 50 0 0)).bind _) = _
      rw [a1, Option.bind_some]
      dsimp only
      rw [if_neg (by decide), endOf_o h.B e1 e3 a3 hx v8, Option.bind_some]
      dsimp only
      rw [e3, g1, Option.bind_some]
      dsimp only
      rw [show gA wM 51 8 + min x (laF (gA wM 51) (nLF (gA wM 51)) - gA wM 51 8) - gA wM 51 8 = min x (laF (gA wM 51) (nLF (gA wM 51)) - gA wM 51 8) by omega]
      exact congrArg (fun q => some (q, w3)) (by omega)
/-- letters that are carved in a time -/
def liF (f : Rw) (sh la lim : Int) : Nat → Int → Ch → Int
  | 0, _, _ => 0
  | n + 1, a, c => if lim < (ctF sh la (cosF f a) c).2.2 then 0 else 1 + liF f sh la lim n (a + 1) (ctF sh la (cosF f a) c)
theorem op17 (h : RR k na wC wM) : ∃ z, p_op_17 xs i na wC wM = some z ∧ RR k z.1 z.2.1 z.2.2 := by
  unfold p_op_17 p_L_lettersIn
  have hx := sc_rng xs (i + 1)
  generalize sc xs (i + 1) = x at *
  obtain ⟨vB, v1, v3, v4, v5, v6, v7, v8⟩ := h.V
  have h288 := (lF_ok h.B).2.2.2
  have hx' := hx
  unfold rng at hx'
  unfold p_X8_lettersIn p_X9_lettersIn p_X9_lettersIn_10
  simp (disch := omega) only [lt32_o]
  by_cases c : x < 0
  · rw [if_pos c, if_pos c]
    exact wex (e := 2) (na' := na) (wC' := wC) rfl (r := 0) (wM' := sF wM 50 0 1) (by
      show ((p_X9_passes (b2 false) wM).bind _) = _
      rw [passes_o, Option.bind_some]; exact if_pos (show eq32 (b2 false) 0 = true by decide +kernel)) rfl (Or.inl rfl) rfl (h.fr (frm_refl _) (frmM_0 _ _))
  · rw [if_neg c, if_neg c]
    obtain ⟨w', a1, a2, a3, a4⟩ := h.lay (frmM_0 wM 0)
    obtain ⟨e1, e2, e3⟩ := h.ny a2
    obtain ⟨w1, b1, b2', b3⟩ := ch_copy (w := wC) (f := gA wM 51) (p := 111) (q := 30) (by decide) h.S.2.1
    have hfr1 : frm SCf TCf wC (sF w1 30 3 0) := frm_sF (frm_30 b2') (by unfold SCf; omega)
    have hR1 := h.fr hfr1 (frm_refl wM)
    have hCl : ∀ (m n : Nat) (a s : Int) (c : Ch) (w : Wd), RR k na w wM → CHs w 30 (gA wM 51 3) (gA wM 51 4) c → 0 ≤ c.1 ∧ c.1 ≤ gA wM 51 3 → 0 ≤ a → a + m = laF (gA wM 51) (nLF (gA wM 51)) → 0 ≤ c.2.2 ∧ c.2.2 ≤ 109 * a → m < n →
        ∃ w2, p_X8_lettersIn_44 n x s a na w = some (.inl (s + liF (gA wM 51) (gA wM 51 3) (gA wM 51 4) x m a c), na, w2) ∧ frm SCf TCf w w2 := by
      intro m
      induction m with
      | zero =>
        intro n a s c w hR hC hc a0 hab ht hn
        obtain ⟨n', rfl⟩ : ∃ n', n = n' + 1 := ⟨n - 1, by omega⟩
        refine ⟨w, ?_, frm_refl w⟩
        have hT := hR.T.1
        simp (disch := omega) only [p_X8_lettersIn_44, hT, lt32_o]
        rw [if_neg (by omega)]
        exact congrArg (fun q => some (Sum.inl q, na, w)) (show s = s + 0 by omega)
      | succ m ih =>
        intro n a s c w hR hC hc a0 hab ht hn
        obtain ⟨n', rfl⟩ : ∃ n', n = n' + 1 := ⟨n - 1, by omega⟩
        have hg := cos_rng (f := gA wM 51) (n := a)
        have hcr := ctF_rng (s := cosF (gA wM 51) a) (la := gA wM 51 4) v3.1 hg.1 hc v4.1
        obtain ⟨w2, q1, q2, q3⟩ := cut_o hC v3 hc hg
        have hR2 := hR.fr (frm_c30 q2) (frm_refl wM)
        have hT := hR.T.1
        simp (disch := omega) only [p_X8_lettersIn_44, hT, lt32_o]
        rw [if_pos (by omega), at17_o h.B hR.T ⟨a0, by omega⟩, Option.bind_some]
        dsimp only
        rw [q1, Option.bind_some, q3.2.2.2.2]
        unfold liF
        simp (disch := omega) only [lt32_o]
        by_cases d : x < (ctF (gA wM 51 3) (gA wM 51 4) (cosF (gA wM 51) a) c).2.2
        · rw [if_pos d, if_pos d]
          exact ⟨w2, congrArg (fun q => some (Sum.inl q, na, w2)) (show s = s + 0 by omega), frm_c30 q2⟩
        · rw [if_neg d, if_neg d]
          obtain ⟨w3, r1, r2⟩ := ih n' (a + 1) (s + 1) _ w2 hR2 q3 hcr.1 (by omega) (by omega) (by omega) (by omega)
          refine ⟨w3, ?_, frm_trans (frm_c30 q2) r2⟩
          rw [r1]
          exact congrArg (fun q => some (Sum.inl q, na, w3)) (by omega)
    have hMl : ∀ (m n : Nat) (a s : Int) (c : Ch) (w : Wd), frm SMf TMf wM w → AR9 w (nLF (gA wM 51)) (rLF (gA wM 51)) (cLF (gA wM 51)) → gF w 50 9 = c.1 → 0 ≤ c.1 ∧ c.1 ≤ gA wM 51 3 → 0 ≤ a → a + m = laF (gA wM 51) (nLF (gA wM 51)) → s = x - c.2.2 → 0 ≤ c.2.2 ∧ c.2.2 ≤ 109 * a → c.2.2 ≤ x → m < n →
        ∃ w2, p_X9_lettersIn_50 n (laF (gA wM 51) (nLF (gA wM 51))) s a w = some (a + liF (gA wM 51) (gA wM 51 3) (gA wM 51 4) x m a c - gA wM 51 8, w2) ∧ frm SMf TMf w w2 ∧ gF w2 50 0 = gF w 50 0 := by
      intro m
      induction m with
      | zero =>
        intro n a s c w hw hA h9 hc a0 hab hs ht hxt hn
        obtain ⟨n', rfl⟩ : ∃ n', n = n' + 1 := ⟨n - 1, by omega⟩
        refine ⟨w, ?_, frm_refl w, rfl⟩
        simp (disch := omega) only [p_X9_lettersIn_50, p_X9_lettersIn_95, lt32_o]
        rw [if_neg (by omega), if_neg (by decide), (h.ny hw).2.2]
        exact congrArg (fun q => some (q, w)) (show laF (gA wM 51) (nLF (gA wM 51)) - gA wM 51 8 = a + 0 - gA wM 51 8 by omega)
      | succ m ih =>
        intro n a s c w hw hA h9 hc a0 hab hs ht hxt hn
        obtain ⟨n', rfl⟩ : ∃ n', n = n' + 1 := ⟨n - 1, by omega⟩
        obtain ⟨f1, f2, f3⟩ := h.ny hw
        have hg := cos_rng (f := gA wM 51) (n := a)
        have hcr := ctF_rng (s := cosF (gA wM 51) a) (la := gA wM 51 4) v3.1 hg.1 hc v4.1
        obtain ⟨w2, q1, q2, q3, q4⟩ := timeL_o h.B f1 hA (n := a) (sh := gA wM 51 3) (L := c.1) (N := gF w 50 10) (T := c.2.2) (by omega) v3 hc h9 rfl
        have e5 : (ctF (gA wM 51 3) (gA wM 51 4) (cosF (gA wM 51) a) (c.1, gF w 50 10, c.2.2)).2.2 = (ctF (gA wM 51 3) (gA wM 51 4) (cosF (gA wM 51) a) c).2.2 := by
          unfold ctF; split <;> rfl
        have e6 : (ctF (gA wM 51 3) (gA wM 51 4) (cosF (gA wM 51) a) (c.1, gF w 50 10, c.2.2)).1 = (ctF (gA wM 51 3) (gA wM 51 4) (cosF (gA wM 51) a) c).1 := by
          unfold ctF; split <;> rfl
        rw [e5] at q1
        rw [e6] at q3
        simp (disch := omega) only [p_X9_lettersIn_50, p_X9_lettersIn_78, lt32_o]
        rw [if_pos (by omega), if_neg (by decide), f3, q1, Option.bind_some]
        unfold liF
        simp (disch := omega) only [lt32_o]
        by_cases d : x < (ctF (gA wM 51 3) (gA wM 51 4) (cosF (gA wM 51) a) c).2.2
        · rw [if_pos (by omega), if_pos d, if_neg (by decide), (h.ny (frm_trans hw (frm_910 q2))).2.2]
          exact ⟨w2, congrArg (fun q => some (q, w2)) (show a - gA wM 51 8 = a + 0 - gA wM 51 8 by omega), frm_910 q2, q2.1 50 0 (by unfold S910; omega)⟩
        · rw [if_neg (by omega), if_neg d]
          obtain ⟨w3, r1, r2, r3⟩ := ih n' (a + 1) (s - ((ctF (gA wM 51 3) (gA wM 51 4) (cosF (gA wM 51) a) c).2.2 - c.2.2)) (ctF (gA wM 51 3) (gA wM 51 4) (cosF (gA wM 51) a) c) w2 (frm_trans hw (frm_910 q2)) (hA.fr q2 (by unfold S910; omega) id id) q3 hcr.1 (by omega) (by omega) (by omega) (by omega) (by omega) (by omega)
          refine ⟨w3, ?_, frm_trans (frm_910 q2) r2, r3.trans (q2.1 50 0 (by unfold S910; omega))⟩
          rw [r1]
          exact congrArg (fun q => some (q, w3)) (by omega)
    have hC0 : CHs (sF w1 30 3 0) 30 (gA wM 51 3) (gA wM 51 4) (gA wM 51 5, gA wM 51 7, 0) := ⟨b3.1, b3.2.1, b3.2.2.1, b3.2.2.2.1, rfl⟩
    obtain ⟨w2, d1, d2⟩ := hCl (laF (gA wM 51) (nLF (gA wM 51)) - gA wM 51 8).toNat FU (gA wM 51 8) 0 (gA wM 51 5, gA wM 51 7, 0) (sF w1 30 3 0) hR1 hC0 v5 v8.1 (by omega) ⟨Int.le_refl 0, by show 0 ≤ 109 * gA wM 51 8; omega⟩ (by have : FU = 1000000 := rfl; omega)
    have hfr9 : frm SMf TMf w' (sF w' 50 9 (gA wM 51 5)) := frm_sF (frm_refl w') (by unfold SMf; omega)
    have hA9 : AR9 (sF w' 50 9 (gA wM 51 5)) (nLF (gA wM 51)) (rLF (gA wM 51)) (cLF (gA wM 51)) := a3
    obtain ⟨w3, g1, g2, g3⟩ := hMl (laF (gA wM 51) (nLF (gA wM 51)) - gA wM 51 8).toNat FU (gA wM 51 8) x (gA wM 51 5, gA wM 51 7, 0) (sF w' 50 9 (gA wM 51 5)) (frm_trans a2 hfr9) hA9 rfl v5 v8.1 (by omega) (by show x = x - 0; omega) ⟨Int.le_refl 0, by show 0 ≤ 109 * gA wM 51 8; omega⟩ (by show 0 ≤ x; omega) (by have : FU = 1000000 := rfl; omega)
    refine wok (na' := na) (wC' := w2) (wM' := w3) (r := liF (gA wM 51) (gA wM 51 3) (gA wM 51 4) x (laF (gA wM 51) (nLF (gA wM 51)) - gA wM 51 8).toNat (gA wM 51 8) (gA wM 51 5, gA wM 51 7, 0)) ?_ ?_ (g3.trans a4) (h.fr (frm_trans hfr1 d2) (frm_trans a2 (frm_trans hfr9 g2)))
    · rw [b1, Option.bind_some]
      rw [show gF (sF w1 30 3 0) 100 11 = gA wM 51 8 from hR1.S.1.2.2.2.2.2, d1]
      exact congrArg (fun q => some (Sum.inl q, na, w2)) (by omega)
    · show ((p_X9_passes (b2 true) wM).bind _) = _
      rw [passes_o, Option.bind_some]
      dsimp only
      rw [if_neg (by decide +kernel)]
      show ((p_X9_lay (sF wM 50 0 0)).bind _) = _
      rw [a1, Option.bind_some]
      dsimp only
      rw [if_neg (by decide), e3, letters_o ((h.ny (frm_trans a2 hfr9)).1) h.B hA9.1, Option.bind_some]
      dsimp only
      rw [if_neg (by decide), (h.ny (frm_trans a2 hfr9)).2.2, g1]
      exact congrArg (fun q => some (q, w3)) (by omega)
end OPS3
