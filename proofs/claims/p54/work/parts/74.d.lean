/-! ===== a part written ===== -/
def OWr (wC wM w m : Wd) (c : Int) : Prop := frm SCo TCo wC w ∧ frm SMo TMo wM m ∧ OUr w m ∧ gF m 50 33 = c ∧ gF m 50 0 = 0
theorem OWr.add {wC wM w m : Wd} {c : Int} (h : OWr wC wM w m c) (hc : c < 900) {b : Int} (hb : 0 ≤ b ∧ b ≤ 127) : ∃ w' m', p_X0_add 5 b w = some w' ∧ p_X9_write b m = some m' ∧ OWr wC wM w' m' (c + 1) := by
  obtain ⟨h1, h2, h3, h4, h5⟩ := h
  obtain ⟨w1, m1, a1, a2, a3, a4, a5, a6, a7, a8, a9, a10⟩ := wr1 h3 (by omega) hb
  exact ⟨w1, m1, a1, a2, frm_trans h1 a3, frm_trans h2 a4, a5, by omega, a7.trans h5⟩
section WP
variable {k na : Nat} {wC wM : Wd} {xs : Nat → Int32} {i : Int}
theorem wordB (h : RR k na wC wM) {v : Int} (hv : 0 ≤ v ∧ v < gA wM 51 10) : ∀ (j n1 n2 : Nat) (x : Int) (w m : Wd) (c : Int), 0 ≤ x → x + j = wnF (gA wM 51) v → j < n1 → j < n2 → OWr wC wM w m c → c + j ≤ 900 →
    ∃ w' m', (∀ s, p_X8_writeWord_32 n1 v s x w = p_X8_writeWord_69 s w') ∧ p_X9_writeWord_2 n2 v x m = some m' ∧ OWr wC wM w' m' (c + j) := by
  have hw60 := h.B.w
  have hwn := h.B.wn hv.1 hv.2
  intro j
  induction j with
  | zero =>
    intro n1 n2 x w m c x0 x1 hn1 hn2 hO hc
    obtain ⟨n1', rfl⟩ : ∃ n', n1 = n' + 1 := ⟨n1 - 1, by omega⟩
    obtain ⟨n2', rfl⟩ : ∃ n', n2 = n' + 1 := ⟨n2 - 1, by omega⟩
    have hR := h.out hO.1 hO.2.1 hO.2.2.1
    have e51 : gA m 51 = gA wM 51 := funext fun q => hO.2.1.2.1 51 (by unfold TMo TMf; omega) q
    refine ⟨w, m, fun s => ?_, ?_, by rw [show c + ((0 : Nat) : Int) = c by omega]; exact hO⟩
    · simp only [p_X8_writeWord_32]
      rw [lenC_o SLo_0 hR.B hR.S (by rw [e51]; exact hv), Option.bind_some, e51]
      dsimp only
      rw [if_neg (show ¬ lt32 x (wnF (gA wM 51) v) = true by rw [lt32_o (by omega)]; omega)]
    · simp only [p_X9_writeWord_2]
      rw [bytesOf_o hR.f (by omega), Option.bind_some, e51]
      dsimp only
      rw [if_neg (show ¬ lt32 x (wnF (gA wM 51) v) = true by rw [lt32_o (by omega)]; omega)]
  | succ j ih =>
    intro n1 n2 x w m c x0 x1 hn1 hn2 hO hc
    obtain ⟨n1', rfl⟩ : ∃ n', n1 = n' + 1 := ⟨n1 - 1, by omega⟩
    obtain ⟨n2', rfl⟩ : ∃ n', n2 = n' + 1 := ⟨n2 - 1, by omega⟩
    have hR := h.out hO.1 hO.2.1 hO.2.2.1
    have e51 : gA m 51 = gA wM 51 := funext fun q => hO.2.1.2.1 51 (by unfold TMo TMf; omega) q
    have hb := h.B.wb hv.1 hv.2 x0 (show x < wnF (gA wM 51) v by omega)
    unfold isB at hb
    obtain ⟨w1, m1, a1, a2, a3⟩ := hO.add (b := wbF (gA wM 51) v x) (by omega) (by omega)
    obtain ⟨w', m', b1, b2', b3⟩ := ih n1' n2' (x + 1) w1 m1 (c + 1) (by omega) (by omega) (by omega) (by omega) a3 (by omega)
    refine ⟨w', m', fun s => ?_, ?_, by rw [show c + ((j + 1 : Nat) : Int) = c + 1 + j by omega]; exact b3⟩
    · simp only [p_X8_writeWord_32]
      rw [lenC_o SLo_0 hR.B hR.S (by rw [e51]; exact hv), Option.bind_some, e51]
      dsimp only
      rw [if_pos (show lt32 x (wnF (gA wM 51) v) = true by rw [lt32_o (by omega)]; omega)]
      rw [byteC_o SLo_0 hR.B hR.S (by rw [e51]; exact hv) (by rw [e51]; omega), Option.bind_some, e51]
      dsimp only
      rw [a1, Option.bind_some]
      exact b1 s
    · simp only [p_X9_writeWord_2]
      rw [bytesOf_o hR.f (by omega), Option.bind_some, e51]
      dsimp only
      rw [if_pos (show lt32 x (wnF (gA wM 51) v) = true by rw [lt32_o (by omega)]; omega)]
      rw [byteOf_o hR.f (by omega) (by omega), Option.bind_some, e51]
      dsimp only
      rw [a2, Option.bind_some]
      exact b2'
theorem word57 (h : RR k na wC wM) {v : Int} (hv : 0 ≤ v ∧ v < gA wM 51 10) {w m : Wd} {c : Int} (hO : OWr wC wM w m c) (hc : 0 ≤ c ∧ c + 14 ≤ 900) :
    ∃ w' m' c', p_X8_writeWord v w = some w' ∧ (∀ k33 x1 x3, p_X9_writePart_57 k33 x1 (nLF (gA wM 51)) x3 v m = k33 x1 (nLF (gA wM 51)) x3 (v + 1) m') ∧ OWr wC wM w' m' c' ∧ c ≤ c' ∧ c' ≤ c + 14 := by
  have hn := nL_rng h.B
  have hw60 := h.B.w
  have hwn := h.B.wn hv.1 hv.2
  have hFU : FU = 1000000 := rfl
  have hR := h.out hO.1 hO.2.1 hO.2.2.1
  have e51 : gA m 51 = gA wM 51 := funext fun q => hO.2.1.2.1 51 (by unfold TMo TMf; omega) q
  have e4 : gF w 10 4 = nLF (gA wM 51) := by rw [← e51]; exact hR.L.1.1
  unfold p_X8_writeWord p_X9_writePart_57 p_X8_writeWord_16 p_X8_writeWord_30 p_X9_writePart_90 p_X9_writeWord
  rw [e4]
  simp (disch := omega) only [lt32_o]
  by_cases g : v < nLF (gA wM 51)
  · obtain ⟨w1, m1, a1, a2, a3⟩ := wordB h hv (wnF (gA wM 51) v).toNat FU FU 0 w m c (Int.le_refl _) (by omega) (by omega) (by omega) hO (by omega)
    refine ⟨w1, m1, c + (wnF (gA wM 51) v).toNat, ?_, fun k33 x1 x3 => ?_, a3, by omega, by omega⟩
    · rw [if_pos g, if_pos (show eq32 0 0 = true from e00), a1]
      unfold p_X8_writeWord_69
      rw [if_pos (show eq32 0 0 = true from e00)]
    · rw [if_pos g, a2, Option.bind_some]
  · obtain ⟨w0, m0, b1, b2', b3⟩ := hO.add (b := 91) (by omega) (by decide)
    obtain ⟨w1, m1, a1, a2, a3⟩ := wordB h hv (wnF (gA wM 51) v).toNat FU FU 0 w0 m0 (c + 1) (Int.le_refl _) (by omega) (by omega) (by omega) b3 (by omega)
    obtain ⟨w2, m2, d1, d2, d3⟩ := a3.add (b := 93) (by omega) (by decide)
    refine ⟨w2, m2, c + 1 + (wnF (gA wM 51) v).toNat + 1, ?_, fun k33 x1 x3 => ?_, d3, by omega, by omega⟩
    · rw [if_neg g, if_neg (show ¬ eq32 1 0 = true by decide +kernel), b1, Option.bind_some, a1]
      unfold p_X8_writeWord_69
      rw [if_neg (show ¬ eq32 1 0 = true by decide +kernel), d1, Option.bind_some]
    · rw [if_neg g, b2', Option.bind_some, a2, Option.bind_some, d2, Option.bind_some]
theorem op49 (h : RR k na wC wM) : ∃ z, p_op_49 xs i na wC wM = some z ∧ RR k z.1 z.2.1 z.2.2 := by
  unfold p_op_49 p_L_writePart
  have hx := sc_rng xs (i + 1)
  generalize sc xs (i + 1) = x at *
  have hFU : FU = 1000000 := rfl
  have hw60 := h.B.w
  have h9 := h.B.p
  have key : ∀ (hp : 0 ≤ x ∧ x < gA wM 51 9) (j n1 n2 : Nat) (v : Int) (w m : Wd) (c : Int), firF (gA wM 51) x ≤ v → v + j = firF (gA wM 51) x + psF (gA wM 51) x → j < n1 → j < n2 → OWr wC wM w m c → 0 ≤ c ∧ c ≤ 15 * (v - firF (gA wM 51) x) →
      ∃ r w' m', p_X8_writePart_39 n1 (firF (gA wM 51) x) (firF (gA wM 51) x + psF (gA wM 51) x) v na w = some (.inl r, na, w') ∧ p_X9_writePart_33 n2 x (nLF (gA wM 51)) (firF (gA wM 51) x) v m = some (r, m') ∧ RR k na w' m' ∧ gF m' 50 0 = 0 := by
    intro hp j
    have hfn := firF_next h.B hp.1 hp.2
    have hps := h.B.ps hp.1 hp.2
    induction j with
    | zero =>
      intro n1 n2 v w m c v0 v1 hn1 hn2 hO hc
      obtain ⟨n1', rfl⟩ : ∃ n', n1 = n' + 1 := ⟨n1 - 1, by omega⟩
      obtain ⟨n2', rfl⟩ : ∃ n', n2 = n' + 1 := ⟨n2 - 1, by omega⟩
      have hR := h.out hO.1 hO.2.1 hO.2.2.1
      have e51 : gA m 51 = gA wM 51 := funext fun q => hO.2.1.2.1 51 (by unfold TMo TMf; omega) q
      refine ⟨c, w, m, ?_, ?_, hR, hO.2.2.2.2⟩
      · simp (disch := omega) only [p_X8_writePart_39, lt32_o]
        rw [if_neg (by omega), hO.2.2.1.1, hO.2.2.2.1]
      · simp only [p_X9_writePart_33]
        rw [manyOf_o hR.f (by omega), Option.bind_some, e51]
        dsimp only
        rw [if_neg (show ¬ lt32 v (firF (gA wM 51) x + psF (gA wM 51) x) = true by rw [lt32_o (by omega)]; omega), hO.2.2.2.1]
    | succ j ih =>
      intro n1 n2 v w m c v0 v1 hn1 hn2 hO hc
      obtain ⟨n1', rfl⟩ : ∃ n', n1 = n' + 1 := ⟨n1 - 1, by omega⟩
      obtain ⟨n2', rfl⟩ : ∃ n', n2 = n' + 1 := ⟨n2 - 1, by omega⟩
      have hR := h.out hO.1 hO.2.1 hO.2.2.1
      have e51 : gA m 51 = gA wM 51 := funext fun q => hO.2.1.2.1 51 (by unfold TMo TMf; omega) q
      have hv : 0 ≤ v ∧ v < gA wM 51 10 := ⟨by omega, by omega⟩
      by_cases g : firF (gA wM 51) x < v
      · obtain ⟨w1, m1, a1, a2, a3⟩ := hO.add (b := 32) (by omega) (by decide)
        obtain ⟨w2, m2, c2, b1, b2', b3, b4, b5⟩ := word57 h hv a3 ⟨by omega, by omega⟩
        obtain ⟨r, w', m', d1, d2, d3, d4⟩ := ih n1' n2' (v + 1) w2 m2 c2 (by omega) (by omega) (by omega) (by omega) b3 (by omega)
        refine ⟨r, w', m', ?_, ?_, d3, d4⟩
        · simp (disch := omega) only [p_X8_writePart_39, lt32_o]
          rw [if_pos (by omega), if_pos g, a1, Option.bind_some]
          unfold p_X8_writePart_60
          rw [b1, Option.bind_some]; exact d1
        · simp only [p_X9_writePart_33]
          rw [manyOf_o hR.f (by omega), Option.bind_some, e51]
          dsimp only
          rw [if_pos (show lt32 v (firF (gA wM 51) x + psF (gA wM 51) x) = true by rw [lt32_o (by omega)]; omega), if_pos (show lt32 (firF (gA wM 51) x) v = true by rw [lt32_o (by omega)]; exact g), a2, Option.bind_some, b2']
          exact d2
      · obtain ⟨w2, m2, c2, b1, b2', b3, b4, b5⟩ := word57 h hv hO ⟨by omega, by omega⟩
        obtain ⟨r, w', m', d1, d2, d3, d4⟩ := ih n1' n2' (v + 1) w2 m2 c2 (by omega) (by omega) (by omega) (by omega) b3 (by omega)
        refine ⟨r, w', m', ?_, ?_, d3, d4⟩
        · simp (disch := omega) only [p_X8_writePart_39, lt32_o]
          rw [if_pos (by omega), if_neg g]
          unfold p_X8_writePart_60
          rw [b1, Option.bind_some]; exact d1
        · simp only [p_X9_writePart_33]
          rw [manyOf_o hR.f (by omega), Option.bind_some, e51]
          dsimp only
          rw [if_pos (show lt32 v (firF (gA wM 51) x + psF (gA wM 51) x) = true by rw [lt32_o (by omega)]; omega), if_neg (show ¬ lt32 (firF (gA wM 51) x) v = true by rw [lt32_o (by omega)]; exact g), b2']
          exact d2
  unfold p_X8_writePart p_X9_writePart
  rw [needPart_o h hx, isPart_o h.f h.B hx, Option.bind_some]
  dsimp only
  rw [passes_o, Option.bind_some]
  simp only [eq32_b2]
  by_cases c : 0 ≤ x ∧ x < gA wM 51 9
  · rw [if_pos c, decide_eq_true c, if_neg (show ¬ true = false by decide), bindG_l]
    have hfn := firF_next h.B c.1 c.2
    have hps := h.B.ps c.1 c.2
    obtain ⟨m1, c1, c2, c3, c4⟩ := h.lay (frmM_0 wM (b2 (!true)))
    have hM2 : frm SMo TMo wM (sF m1 50 33 0) := frm_sF (frm_mono c2 (fun o k h => by unfold SMf at h; unfold SMo; omega) (fun o h => Or.inl h)) (by unfold SMo; omega)
    have hf2 : cR (sF m1 50 33 0) = gA wM 51 := (h.ny c2).1
    obtain ⟨r, w', m', q1, q2, q3, q4⟩ := key c (psF (gA wM 51) x).toNat FU FU (firF (gA wM 51) x) (sF wC 5 1 0) (sF m1 50 33 0) 0 (Int.le_refl _) (by omega) (by omega) (by omega)
      ⟨frm_sF (frm_refl _) (Or.inr ⟨rfl, rfl⟩), hM2, ⟨by rw [gF_sF, if_pos ⟨rfl, rfl⟩, gF_sF, if_pos ⟨rfl, rfl⟩], by rw [gF_sF, if_pos ⟨rfl, rfl⟩]; decide, fun i i0 i1 => by rw [gF_sF, if_pos ⟨rfl, rfl⟩] at i1; omega⟩, by rw [gF_sF, if_pos ⟨rfl, rfl⟩], by rw [gF_sF, if_neg (by decide)]; exact c4⟩ ⟨Int.le_refl _, by omega⟩
    refine wok (r := r) (na' := na) (wC' := w') (wM' := m') ?_ ?_ q4 q3
    · rw [firstC_o SLo_0 h.B h.S ⟨c.1, by omega⟩, Option.bind_some]
      dsimp only
      rw [sizeC_o SLo_0 h.B h.S c, Option.bind_some]
      exact q1
    · rw [c1, Option.bind_some]
      dsimp only
      rw [firstOf_o hf2 ⟨c.1, by omega⟩, Option.bind_some]
      exact q2
  · rw [if_neg c, decide_eq_false c, if_pos rfl, bindG_r]
    exact wex (h := hnd1 3) (f := fun r w => sA w 34 0 (w32 r)) (e := 3) (na' := na) (wC' := wC) rfl rfl rfl (Or.inl rfl) rfl (h.fr (frm_refl _) (frmM_0 _ _))
end WP
