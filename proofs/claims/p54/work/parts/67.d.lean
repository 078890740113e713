/-! ===== parts left out and moved, on both sides ===== -/
def shS (p q : Int) : Int := if q < p then q else q + 1
def mvS (p t q : Int) : Int := if q = t then p else if q < t then shS p q else shS p (q - 1)
theorem trF_0 {w w1 : Wd} {f g : Rw} {s : Int → Int} (h : RS w 116 f) (hsel : SEL f g s) : RS (sF (sF w 116 4 0) 116 7 0) 116 (trF g 0) := by
  obtain ⟨s1, s2, s3, s4, s5, s6, s7⟩ := h
  have h1 := hsel.1
  have h08 : ∀ i, (0 ≤ i ∧ i ≤ 8) → trF g 0 i = f i := fun i hi => by unfold trF; rw [if_neg (by omega), if_neg (by omega)]; exact h1 i (Or.inl hi)
  have hfc : ∀ c r, 0 ≤ c → c < 24 → 0 ≤ r → r < 12 → fcF (trF g 0) c r = fcF f c r := fun c r c0 c1 r0 r1 => by
    unfold fcF trF; rw [if_neg (by omega), if_neg (by omega)]; exact h1 _ (Or.inr (by omega))
  have e9 : trF g 0 9 = 0 := rfl
  have e10 : trF g 0 10 = 0 := firF_0 g
  refine ⟨⟨?_, ?_, ?_, ?_, ?_, ?_⟩, ⟨?_, ?_, ?_, ?_, ?_⟩, fun r r0 r1 i hi => ?_, fun p p0 p1 => ?_, fun v v0 v1 => ?_, fun v k v0 v1 => ?_, fun c r c0 c1 r0 r1 hh => ?_⟩
  · rw [h08 0 (by omega)]; exact s1.1
  · rw [h08 1 (by omega)]; exact s1.2.1
  · rw [h08 2 (by omega)]; exact s1.2.2.1
  · rfl
  · exact e10.symm
  · rw [h08 8 (by omega)]; exact s1.2.2.2.2.2
  · rw [h08 3 (by omega)]; exact s2.1
  · rw [h08 4 (by omega)]; exact s2.2.1
  · rw [h08 5 (by omega)]; exact s2.2.2.1
  · rw [h08 6 (by omega)]; exact s2.2.2.2.1
  · rw [h08 7 (by omega)]; exact s2.2.2.2.2
  · show bI (gA w (116 + 2) r) i = _
    rw [s3 r r0 r1 i hi]
    by_cases e : i < 24
    · rw [hfc i r (by omega) (by omega) r0 r1]
    · rw [decide_eq_false e]; rfl
  · rw [e9] at p1; exact absurd p1 (by omega)
  · rw [e10] at v1; exact absurd v1 (by omega)
  · rw [e10] at v1; exact absurd v1 (by omega)
  · rw [hfc c r c0 c1 r0 r1] at hh
    unfold isCF
    rw [h08 0 (by omega), h08 1 (by omega)]
    exact s7 c r c0 c1 r0 r1 hh
theorem trF_end {f g : Rw} {s : Int → Int} (hsel : SEL f g s) : trF g (g 9) = g := funext fun i => by
  unfold trF
  by_cases d1 : i = 9
  · rw [if_pos d1, d1]
  · rw [if_neg d1]
    by_cases d2 : i = 10
    · rw [if_pos d2, d2]; exact hsel.2.2.2.1
    · rw [if_neg d2]
theorem frm_TW {w w' : Wd} (h : frm (SWo 116) (TWo 116) w w') : frm SCf TCf w w' := frm_mono h (fun o k h => by have := h.1; unfold SCf; omega) (fun o h => by unfold TWo at h; unfold TCf; omega)
section PT
variable {k na : Nat} {wC wM : Wd}
theorem try0 (h : RR k na wC wM) {g : Rw} {s : Int → Int} (hsel : SEL (gA wM 51) g s) : ∃ w1, ((p_X6_copy 116 100 wC).bind fun w1 => (p_X6_clearParts 116 w1).bind fun w2 => some w2) = some w1 ∧ frm SCf TCf wC w1 ∧ RS w1 116 (trF g 0) := by
  obtain ⟨w1, a1, a2, a3, a4⟩ := h.cp
  refine ⟨sF (sF w1 116 4 0) 116 7 0, ?_, frm_sF (frm_sF a3 (by unfold SCf; omega)) (by unfold SCf; omega), trF_0 (w1 := w1) a4 hsel⟩
  rw [a1]; rfl
theorem without_o (h : RR k na wC wM) {p : Int} (hp : 0 ≤ p ∧ p < gA wM 51 9) {g : Rw} (hsel : SEL (gA wM 51) g (shS p)) (h9 : g 9 = gA wM 51 9 - 1) : ∃ w', p_X8_tryWithout p wC = some w' ∧ frm SCf TCf wC w' ∧ RS w' 116 g := by
  have hp9 := h.B.p
  obtain ⟨w1, a1, a2, a3⟩ := try0 h hsel
  obtain ⟨w2, b1, b2', b3, b4⟩ := loop_up (lp := fun n x w => p_X8_tryWithout_20 n p x w) (fin := some) (b := gA wM 51 9)
    (I := fun x w' => 0 ≤ x ∧ frm SCf TCf wC w' ∧ RS w' 116 (trF g (if x ≤ p then x else x - 1)))
    (fun n x w' hx hI => by
      obtain ⟨i0, i1, i2⟩ := hI
      have hR := h.fr i1 (frm_refl wM)
      have e4 : gF w' 100 4 = gA wM 51 9 := hR.S.1.2.2.2.1
      simp (disch := omega) only [p_X8_tryWithout_20, p_X8_tryWithout_48, e4, lt32_o, hx, if_true, eq32_o]
      by_cases c : x = p
      · rw [if_pos c]
        refine ⟨w', rfl, by omega, i1, ?_⟩
        rw [if_neg (by omega), show x + 1 - 1 = x by omega]
        rw [if_pos (by omega)] at i2; exact i2
      · rw [if_neg c]
        obtain ⟨w3, c1, c2, c3⟩ := takePart_o h.B hsel (q := if x ≤ p then x else x - 1) ⟨by split <;> omega, by split <;> omega⟩ i2 hR.S
        have hs : shS p (if x ≤ p then x else x - 1) = x := by
          unfold shS
          by_cases d : x ≤ p
          · rw [if_pos d, if_pos (by omega)]
          · rw [if_neg d, if_neg (by omega)]; omega
        rw [hs] at c1
        rw [c1, Option.bind_some]
        refine ⟨w3, rfl, by omega, frm_trans i1 (frm_TW c2), ?_⟩
        have e : (if x ≤ p then x else x - 1) + 1 = (if x + 1 ≤ p then x + 1 else x + 1 - 1) := by
          by_cases d : x ≤ p
          · rw [if_pos d, if_pos (by omega)]
          · rw [if_neg d, if_neg (by omega)]; omega
        rw [← e]; exact c3)
    (fun n w' hI => by
      have e4 : gF w' 100 4 = gA wM 51 9 := (h.fr hI.2.1 (frm_refl wM)).S.1.2.2.2.1
      simp (disch := omega) only [p_X8_tryWithout_20, e4, lt32_o, Int.lt_irrefl, if_false])
    FU 0 w1 (by omega) ⟨Int.le_refl _, a2, by rw [if_pos hp.1]; exact a3⟩ (by have : FU = 1000000 := rfl; omega)
  refine ⟨w2, ?_, b3, ?_⟩
  · unfold p_X8_tryWithout
    obtain ⟨w0, c1, c2, c3, c4⟩ := h.cp
    rw [c1, Option.bind_some] at a1 ⊢
    have : p_X6_clearParts 116 w0 = some w1 := by
      unfold p_X6_clearParts at a1 ⊢
      exact a1
    rw [this, Option.bind_some]; exact b1
  · rw [if_neg (by omega), ← h9, trF_end hsel] at b4; exact b4
theorem moved_o (h : RR k na wC wM) {p t : Int} (hp : 0 ≤ p ∧ p < gA wM 51 9) (ht : 0 ≤ t ∧ t < gA wM 51 9) {g : Rw} (hsel : SEL (gA wM 51) g (mvS p t)) (h9 : g 9 = gA wM 51 9) : ∃ w', p_X8_tryMoved p t wC = some w' ∧ frm SCf TCf wC w' ∧ RS w' 116 g := by
  have hp9 := h.B.p
  obtain ⟨w1, a1, a2, a3⟩ := try0 h hsel
  obtain ⟨w2, b1, b2', b3, b4⟩ := loop_up (lp := fun n x w => p_X8_tryMoved_20 n p t x w) (fin := some) (b := gA wM 51 9)
    (I := fun x w' => 0 ≤ x ∧ frm SCf TCf wC w' ∧ RS w' 116 (trF g x))
    (fun n x w' hx hI => by
      obtain ⟨i0, i1, i2⟩ := hI
      have hR := h.fr i1 (frm_refl wM)
      have e4 : gF w' 100 4 = gA wM 51 9 := hR.S.1.2.2.2.1
      have hpl : p_X8_partForPlace x p t w' = some (mvS p t x, w') := by
        unfold p_X8_partForPlace p_X8_partForPlace_19 mvS shS
        simp (disch := omega) only [eq32_o, lt32_o]
        by_cases c1 : x = t
        · rw [if_pos c1, if_pos c1]
        · rw [if_neg c1, if_neg c1]
          by_cases c2 : x < t
          · rw [if_pos c2, if_pos c2]
            by_cases c3 : x < p
            · rw [if_pos c3, if_pos c3]
            · rw [if_neg c3, if_neg c3]
          · rw [if_neg c2, if_neg c2]
            by_cases c3 : x - 1 < p
            · rw [if_pos c3, if_pos c3]
            · rw [if_neg c3, if_neg c3]
      simp (disch := omega) only [p_X8_tryMoved_20, e4, lt32_o, hx, if_true]
      rw [hpl, Option.bind_some]
      dsimp only
      obtain ⟨w3, c1, c2, c3⟩ := takePart_o h.B hsel (q := x) ⟨i0, by omega⟩ i2 hR.S
      rw [c1, Option.bind_some]
      exact ⟨w3, rfl, by omega, frm_trans i1 (frm_TW c2), c3⟩)
    (fun n w' hI => by
      have e4 : gF w' 100 4 = gA wM 51 9 := (h.fr hI.2.1 (frm_refl wM)).S.1.2.2.2.1
      simp (disch := omega) only [p_X8_tryMoved_20, e4, lt32_o, Int.lt_irrefl, if_false])
    FU 0 w1 (by omega) ⟨Int.le_refl _, a2, a3⟩ (by have : FU = 1000000 := rfl; omega)
  refine ⟨w2, ?_, b3, ?_⟩
  · unfold p_X8_tryMoved
    obtain ⟨w0, c1, c2, c3, c4⟩ := h.cp
    rw [c1, Option.bind_some] at a1 ⊢
    have : p_X6_clearParts 116 w0 = some w1 := by
      unfold p_X6_clearParts at a1 ⊢
      exact a1
    rw [this, Option.bind_some]; exact b1
  · rw [← h9, trF_end hsel] at b4; exact b4
end PT
/-! the model's net without a part -/
def tpF (f : Rw) (p : Int) : Rw := fun j =>
  if 319 + 13 * firF f p ≤ j ∧ j + 13 * psF f p < 319 + 13 * f 10 then f (j + 13 * psF f p)
  else if 299 + 2 * p ≤ j ∧ j + 2 < 299 + 2 * f 9 then f (j + 2) else if j = 9 then f 9 - 1 else if j = 10 then f 10 - psF f p else f j
theorem tpF_rest {f : Rw} {p i : Int} (hV : VB f) (hp : 0 ≤ p ∧ p < f 9) (h : (i ≤ 8) ∨ (11 ≤ i ∧ i < 299) ∨ 1099 ≤ i) : tpF f p i = f i := by
  have h1 := hV.w
  have h9 := hV.p
  have hfn := firF_next hV hp.1 hp.2
  have hps := hV.ps hp.1 hp.2
  unfold tpF
  rw [if_neg (by omega), if_neg (by omega), if_neg (by omega), if_neg (by omega)]
theorem fir_tp {f : Rw} {p : Int} (hV : VB f) (hp : 0 ≤ p ∧ p < f 9) : ∀ n : Nat, (n : Int) ≤ f 9 - 1 → firF (tpF f p) n = if (n : Int) ≤ p then firF f n else firF f ((n : Int) + 1) - psF f p := by
  have h9 := hV.p
  have hps0 : ∀ q, 0 ≤ q → q < f 9 - 1 → psF (tpF f p) q = psF f (shS p q) := fun q q0 q1 => by
    have hfn := firF_next hV hp.1 hp.2
    unfold psF tpF shS
    rw [if_neg (by omega)]
    by_cases c : q < p
    · rw [if_neg (by omega), if_neg (by omega), if_neg (by omega), if_pos c]
    · rw [if_pos (by omega), if_neg c]; exact congrArg f (by omega)
  intro n
  induction n with
  | zero => intro _; rw [if_pos (show ((0 : Nat) : Int) ≤ p from hp.1)]; rfl
  | succ n ih =>
    intro hn
    have e : ((n + 1 : Nat) : Int) = (n : Int) + 1 := by omega
    rw [e, firF_step (by omega), ih (by omega), hps0 n (by omega) (by omega)]
    unfold shS
    by_cases c : (n : Int) + 1 ≤ p
    · rw [if_pos (by omega), if_pos c, if_pos (by omega), firF_step (by omega)]
    · by_cases c2 : (n : Int) ≤ p
      · have : (n : Int) = p := by omega
        rw [if_pos c2, if_neg c, if_neg (by omega), firF_step (f := f) (p := (n : Int) + 1) (by omega), firF_step (f := f) (p := (n : Int)) (by omega), this]
        omega
      · rw [if_neg c2, if_neg c, if_neg (by omega), firF_step (f := f) (p := (n : Int) + 1) (by omega)]
        omega
theorem fir_tp' {f : Rw} {p q : Int} (hV : VB f) (hp : 0 ≤ p ∧ p < f 9) (hq : 0 ≤ q ∧ q ≤ f 9 - 1) : firF (tpF f p) q = if q ≤ p then firF f q else firF f (q + 1) - psF f p := by
  have := fir_tp hV hp q.toNat (by omega)
  rw [Int.toNat_of_nonneg hq.1] at this
  exact this
theorem tp_word {f : Rw} {p : Int} (hV : VB f) (hp : 0 ≤ p ∧ p < f 9) {v d : Int} (hv : 0 ≤ v ∧ v < f 10 - psF f p) (hd : 0 ≤ d ∧ d < 13) : tpF f p (319 + 13 * v + d) = f (319 + 13 * (if v < firF f p then v else v + psF f p) + d) := by
  have h9 := hV.p
  have hps := hV.ps hp.1 hp.2
  have hfn := firF_next hV hp.1 hp.2
  unfold tpF
  by_cases c : v < firF f p
  · rw [if_pos c, if_neg (by omega), if_neg (by omega), if_neg (by omega), if_neg (by omega)]
  · rw [if_neg c, if_pos (by omega)]; exact congrArg f (by omega)
theorem tpF_sel {f : Rw} {p : Int} (hV : VB f) (hp : 0 ≤ p ∧ p < f 9) : SEL f (tpF f p) (shS p) := by
  have h9 := hV.p
  have h10 := hV.w
  have hps := hV.ps hp.1 hp.2
  have hfn := firF_next hV hp.1 hp.2
  have e9 : tpF f p 9 = f 9 - 1 := by unfold tpF; rw [if_neg (by omega), if_neg (by omega)]; rfl
  have e10 : tpF f p 10 = f 10 - psF f p := by unfold tpF; rw [if_neg (by omega), if_neg (by omega)]; rfl
  have hlast : firF (tpF f p) (tpF f p 9) = tpF f p 10 := by
    rw [e9, e10, fir_tp' hV hp (by omega)]
    by_cases c : f 9 - 1 ≤ p
    · rw [if_pos c]
      have : f 9 = p + 1 := by omega
      have h2 := hV.fir
      rw [this, firF_step hp.1] at h2
      rw [this, show p + 1 - 1 = p by omega]; omega
    · rw [if_neg c, show f 9 - 1 + 1 = f 9 by omega, hV.fir]
  refine ⟨fun i hi => tpF_rest hV hp (by omega), by rw [e9]; omega, by rw [e10]; omega, hlast, fun q q0 q1 => ?_⟩
  rw [e9] at q1
  have hs : 0 ≤ shS p q ∧ shS p q < f 9 := by unfold shS; split <;> omega
  refine ⟨hs, ?_, ?_, fun u u0 u1 => ?_⟩
  · unfold pkF tpF shS
    rw [if_neg (by omega)]
    by_cases c : q < p
    · rw [if_neg (by omega), if_neg (by omega), if_neg (by omega), if_pos c]
    · rw [if_pos (by omega), if_neg c]; exact congrArg f (by omega)
  · unfold psF tpF shS
    rw [if_neg (by omega)]
    by_cases c : q < p
    · rw [if_neg (by omega), if_neg (by omega), if_neg (by omega), if_pos c]
    · rw [if_pos (by omega), if_neg c]; exact congrArg f (by omega)
  · have hfq := firF_next hV hs.1 hs.2
    have hft := fir_tp' hV hp (q := q) ⟨q0, by omega⟩
    have hv : (if firF (tpF f p) q + u < firF f p then firF (tpF f p) q + u else firF (tpF f p) q + u + psF f p) = firF f (shS p q) + u ∧ 0 ≤ firF (tpF f p) q + u ∧ firF (tpF f p) q + u < f 10 - psF f p := by
      by_cases c : q < p
      · rw [show shS p q = q from if_pos c] at hfq u1 ⊢
        have hft' : firF (tpF f p) q = firF f q := hft.trans (if_pos (by omega))
        rw [hft']
        have hm := firF_mono hV (show q + 1 ≤ p by omega) (by omega)
        rw [firF_step q0] at hm
        rw [if_pos (by omega)]
        exact ⟨rfl, by omega, by omega⟩
      · rw [show shS p q = q + 1 from if_neg c] at hfq u1 ⊢
        by_cases c2 : q = p
        · have hft' : firF (tpF f p) q = firF f q := hft.trans (if_pos (by omega))
          rw [hft', c2, if_neg (by omega)]
          rw [c2] at hfq u1
          rw [firF_step hp.1] at hfq ⊢
          exact ⟨by omega, by omega, by omega⟩
        · have hm := firF_mono hV (show p + 1 ≤ q + 1 by omega) (by omega)
          rw [firF_step hp.1] at hm
          have hft' : firF (tpF f p) q = firF f (q + 1) - psF f p := hft.trans (if_neg (by omega))
          rw [hft', if_neg (by omega)]
          exact ⟨by omega, by omega, by omega⟩
    refine ⟨?_, fun kk k0 k1 => ?_⟩
    · have := tp_word hV hp (v := firF (tpF f p) q + u) (d := 0) hv.2 (by decide)
      rw [hv.1, Int.add_zero, Int.add_zero] at this
      exact this
    · have := tp_word hV hp (v := firF (tpF f p) q + u) (d := 1 + kk) hv.2 (by omega)
      rw [hv.1] at this
      unfold wbF
      exact (congrArg _ (by omega)).trans (this.trans (congrArg f (by omega)))
theorem tpF_Z {f : Rw} {p : Int} (hV : VB f) (hp : 0 ≤ p ∧ p < f 9) (hZ : Z0 f) : Z0 (tpF f p) := fun i hi => by
  rw [tpF_rest hV hp (by omega)]; exact hZ i hi
theorem takePart9 {f : Rw} (hV : VB f) {w : Wd} (hp0 : gP w 50 3 = 51) (h51 : gA w 51 = f) {p : Int} (hp : 0 ≤ p ∧ p < f 9) : ∃ w', p_X9_takePart p w = some w' ∧ frm S0 (fun o => o = 51) w w' ∧ gA w' 51 = tpF f p := by
  have h9 := hV.p
  have h10 := hV.w
  have hps := hV.ps hp.1 hp.2
  have hfn := firF_next hV hp.1 hp.2
  have hcr : cR w = f := by unfold cR; rw [hp0, h51]
  unfold p_X9_takePart
  rw [firstOf_o hcr (by omega), Option.bind_some]
  dsimp only
  rw [manyOf_o hcr (by omega), Option.bind_some]
  dsimp only
  unfold p_X9_takeWords
  obtain ⟨a, ha⟩ : ∃ a, firF f p = a := ⟨_, rfl⟩
  obtain ⟨m, hm⟩ : ∃ m, psF f p = m := ⟨_, rfl⟩
  rw [ha, hm]
  rw [hm] at hps
  rw [ha, hm] at hfn
  obtain ⟨w1, b1, b2', b3⟩ := loop_up (lp := fun n x w => p_X9_takeWords_9 n m x w) (fin := p_X9_takeWords_55 m) (b := 319 + 13 * (f 10 - m))
    (I := fun x w' => 319 + 13 * a ≤ x ∧ w' = setR w 51 (fun j => if 319 + 13 * a ≤ j ∧ j < x then f (j + 13 * m) else f j))
    (fun n x w' hx hI => by
      obtain ⟨i0, rfl⟩ := hI
      have hpp : ∀ F : Int → Int, gP (setR w 51 F) 50 3 = 51 := fun _ => hp0
      have e10 : gA (setR w 51 (fun j => if 319 + 13 * a ≤ j ∧ j < x then f (j + 13 * m) else f j)) 51 10 = f 10 := by rw [gA_setR, if_pos rfl, if_neg (by omega)]
      simp (disch := omega) only [p_X9_takeWords_9, hpp, e10, lt32_o, inb_f, if_false]
      rw [if_pos (by omega)]
      refine ⟨_, rfl, by omega, ?_⟩
      rw [sA_setR, setR_setR]
      refine setR_ext fun j => ?_
      show (if j = x then _ else _) = _
      by_cases d : j = x
      · rw [if_pos d, gA_setR, if_pos rfl, if_neg (by omega), if_pos (by omega), d]
      · rw [if_neg d, gA_setR, if_pos rfl]
        by_cases e : 319 + 13 * a ≤ j ∧ j < x
        · rw [if_pos e, if_pos (by omega)]
        · rw [if_neg e, if_neg (by omega)])
    (fun n w' hI => by
      obtain ⟨i0, rfl⟩ := hI
      have hpp : ∀ F : Int → Int, gP (setR w 51 F) 50 3 = 51 := fun _ => hp0
      have e10 : gA (setR w 51 (fun j => if 319 + 13 * a ≤ j ∧ j < 319 + 13 * (f 10 - m) then f (j + 13 * m) else f j)) 51 10 = f 10 := by rw [gA_setR, if_pos rfl, if_neg (by omega)]
      simp (disch := omega) only [p_X9_takeWords_9, hpp, e10, lt32_o]
      rw [if_neg (show ¬ inb 10 1099 = false by decide), if_neg (by omega)])
    FU (319 + 13 * a) w (by omega) ⟨Int.le_refl _, (setR_self fun j => by rw [if_neg (by omega), h51]).symm⟩ (by have : FU = 1000000 := rfl; omega)
  rw [b1]
  unfold p_X9_takeWords_55
  have hpp1 : gP w1 50 3 = 51 := by rw [b3]; exact hp0
  have e101 : gA w1 51 10 = f 10 := by rw [b3, gA_setR, if_pos rfl, if_neg (by omega)]
  rw [if_neg (show ¬ inb 10 1099 = false by decide), if_neg (show ¬ inb 10 1099 = false by decide), hpp1, e101, Option.bind_some]
  obtain ⟨F1, hF1⟩ : ∃ F1 : Rw, F1 = fun j => if 319 + 13 * a ≤ j ∧ j < 319 + 13 * (f 10 - m) then f (j + 13 * m) else if j = 10 then f 10 - m else f j := ⟨_, rfl⟩
  have hw1 : sA w1 51 10 (f 10 - m) = setR w 51 F1 := by
    rw [b3, sA_setR, setR_setR, hF1]
    refine setR_ext fun j => ?_
    by_cases d : j = 10
    · rw [if_pos d, if_neg (by omega), if_pos d]
    · rw [if_neg d, gA_setR, if_pos rfl, if_neg d]
  rw [hw1]
  have hF9 : F1 9 = f 9 := by rw [hF1]; dsimp only; rw [if_neg (by omega), if_neg (by omega)]
  obtain ⟨w2, c1, c2, c3⟩ := loop_up (lp := fun n x w => p_X9_takePart_22 n x w) (fin := p_X9_takePart_61) (b := 299 + 2 * (f 9 - 1))
    (I := fun x w' => 299 + 2 * p ≤ x ∧ w' = setR w 51 (fun j => if 299 + 2 * p ≤ j ∧ j < x then F1 (j + 2) else F1 j))
    (fun n x w' hx hI => by
      obtain ⟨i0, rfl⟩ := hI
      have hpp : ∀ F : Int → Int, gP (setR w 51 F) 50 3 = 51 := fun _ => hp0
      have e9 : gA (setR w 51 (fun j => if 299 + 2 * p ≤ j ∧ j < x then F1 (j + 2) else F1 j)) 51 9 = f 9 := by rw [gA_setR, if_pos rfl, if_neg (by omega), hF9]
      simp (disch := omega) only [p_X9_takePart_22, hpp, e9, lt32_o, inb_f, if_false]
      rw [if_pos (by omega)]
      refine ⟨_, rfl, by omega, ?_⟩
      rw [sA_setR, setR_setR]
      refine setR_ext fun j => ?_
      show (if j = x then _ else _) = _
      by_cases d : j = x
      · rw [if_pos d, gA_setR, if_pos rfl, if_neg (by omega), if_pos (by omega), d]
      · rw [if_neg d, gA_setR, if_pos rfl]
        by_cases e : 299 + 2 * p ≤ j ∧ j < x
        · rw [if_pos e, if_pos (by omega)]
        · rw [if_neg e, if_neg (by omega)])
    (fun n w' hI => by
      obtain ⟨i0, rfl⟩ := hI
      have hpp : ∀ F : Int → Int, gP (setR w 51 F) 50 3 = 51 := fun _ => hp0
      have e9 : gA (setR w 51 (fun j => if 299 + 2 * p ≤ j ∧ j < 299 + 2 * (f 9 - 1) then F1 (j + 2) else F1 j)) 51 9 = f 9 := by rw [gA_setR, if_pos rfl, if_neg (by omega), hF9]
      simp (disch := omega) only [p_X9_takePart_22, hpp, e9, lt32_o]
      rw [if_neg (show ¬ inb 9 1099 = false by decide), if_neg (by omega)])
    FU (299 + 2 * p) (setR w 51 F1) (by omega) ⟨Int.le_refl _, setR_ext fun j => (if_neg (by omega)).symm⟩ (by have : FU = 1000000 := rfl; omega)
  rw [c1]
  unfold p_X9_takePart_61
  have hpp2 : gP w2 50 3 = 51 := by rw [c3]; exact hp0
  have e92 : gA w2 51 9 = f 9 := by rw [c3, gA_setR, if_pos rfl, if_neg (by omega), hF9]
  rw [if_neg (show ¬ inb 9 1099 = false by decide), if_neg (show ¬ inb 9 1099 = false by decide), hpp2, e92]
  refine ⟨_, rfl, by rw [c3]; exact frm_sA (frm_setR (frm_refl w) rfl) rfl, ?_⟩
  rw [gA_upd, c3]
  funext j
  unfold upd1 tpF
  rw [ha, hm]
  by_cases d : j = 9
  · rw [if_pos d, if_neg (by omega), if_neg (by omega), if_pos d]
  · rw [if_neg d, gA_setR, if_pos rfl]
    by_cases e : 299 + 2 * p ≤ j ∧ j < 299 + 2 * (f 9 - 1)
    · rw [if_pos e, if_neg (by omega), if_pos (by omega), hF1]
      dsimp only
      rw [if_neg (by omega), if_neg (by omega)]
    · rw [if_neg e, hF1]
      dsimp only
      by_cases g : 319 + 13 * a ≤ j ∧ j < 319 + 13 * (f 10 - m)
      · rw [if_pos g, if_pos (by omega)]
      · rw [if_neg g, if_neg (show ¬ (319 + 13 * a ≤ j ∧ j + 13 * m < 319 + 13 * f 10) by omega), if_neg (show ¬ (299 + 2 * p ≤ j ∧ j + 2 < 299 + 2 * f 9) by omega), if_neg d]
