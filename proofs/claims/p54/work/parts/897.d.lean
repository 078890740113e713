/-! ===== addPart ===== -/
section AO
variable {k na : Nat} {wC wM : Wd} {xs : Nat → Int32} {i : Int}
theorem a183_o {m : Wd} {x x3 x4 x5 x6 : Int} {r g : Bool} (hg : p_X9_good m = some (b2 g, m)) : p_X9_addPart_183 x (b2 r) x3 x4 x5 x6 m = p_X9_addPart_223 x x5 x6 (b2 (r && g)) (sF (sF (sP m 50 3 51) 50 24 x3) 50 25 x4) := by
  unfold p_X9_addPart_183 p_X9_addPart_222
  rw [hg, Option.bind_some]
  dsimp only
  rw [Option.bind_some]
  simp only [eq32_b2]
  cases r with
  | false => rw [if_pos rfl, Bool.false_and]; rfl
  | true =>
    rw [if_neg (show ¬ true = false by decide), Bool.true_and]
    cases g with
    | false => rw [if_pos rfl]; rfl
    | true => rw [if_neg (show ¬ true = false by decide)]; rfl
theorem a255_f {m : Wd} {x x5 : Int} {p q : Bool} (h : (p && q) = false) : p_X9_addPart_255 x x5 (b2 q) (b2 p) m = some (0, sF m 50 0 (if p then (if q then 0 else 2) else 1)) := by
  unfold p_X9_addPart_255
  rw [passes2_o, Option.bind_some]
  dsimp only
  rw [h, if_pos (show eq32 (b2 false) 0 = true by decide +kernel)]
theorem a223_o {m : Wd} {x x5 x6 P W s0 : Int} (h9 : gA m 51 9 = P) (h10 : gA m 51 10 = W) : ∃ q : Bool, p_X9_addPart_223 x x5 x6 s0 m = p_X9_addPart_255 x x5 (b2 q) s0 m ∧ (0 ≤ P → P ≤ 10 → 0 ≤ W → W ≤ 60 → 0 ≤ x6 → x6 ≤ 500 → q = decide (P < 10 ∧ W + x6 ≤ 60)) := by
  unfold p_X9_addPart_223 p_X9_addPart_254
  rw [if_neg (show ¬ (inb 9 1099 = false) by decide), if_neg (show ¬ (inb 10 1099 = false) by decide), h9, h10]
  by_cases c : lt32 P 10 = true
  · rw [if_pos c]
    by_cases d : lt32 60 (W + x6) = true
    · rw [if_pos d]
      refine ⟨false, rfl, fun p0 p1 w0 w1 q0 q1 => ?_⟩
      rw [lt32_o (by omega)] at c d
      rw [decide_eq_false (by omega)]
    · rw [if_neg d]
      refine ⟨true, rfl, fun p0 p1 w0 w1 q0 q1 => ?_⟩
      rw [lt32_o (by omega)] at c d
      rw [decide_eq_true (by omega)]
  · rw [if_neg c]
    refine ⟨false, rfl, fun p0 p1 w0 w1 q0 q1 => ?_⟩
    rw [lt32_o (by omega)] at c
    rw [decide_eq_false (by omega)]
theorem a24_o {w : Wd} {x1 x2 x3 x4 : Int} : p_X9_addPart_24 FU x1 x2 x3 x4 0 w = p_X9_addPart_52 x1 x2 x3 x4 (setR w 52 (fun j => if 0 ≤ j ∧ j < 1099 then gA w 51 j else gA w 52 j)) := by
  have hx := cp_loop (lp := fun n x w => p_X9_addPart_24 n x1 x2 x3 x4 x w) (fin := p_X9_addPart_52 x1 x2 x3 x4) (dst := 52) (src := 51) (od := 0) (os := 0) (b := 1099) (w := w) (by decide)
    (fun n x f x0 x1 => by
      simp (disch := omega) only [p_X9_addPart_24, lt32_o, x1, if_true, inb_f, if_false]
      rw [Int.zero_add])
    (fun n f => by simp (disch := omega) only [p_X9_addPart_24, lt32_o, Int.lt_irrefl, if_false])
    FU (by decide) (by have : FU = 1000000 := rfl; omega)
  refine hx.trans (congrArg _ (setR_ext fun j => ?_))
  by_cases c : 0 ≤ j ∧ j < 1099
  · rw [if_pos c, if_pos (by omega)]; exact congrArg (gA w 51) (by omega)
  · rw [if_neg c, if_neg (by omega)]
/-- the model's world behind the start of the words, against the one before -/
def LDa (wM m : Wd) : Prop := (∀ o k, ¬ (o = 50 ∧ 18 ≤ k ∧ k ≤ 27) → gF m o k = gF wM o k) ∧ (∀ o, o ≠ 52 → ∀ i, gA m o i = gA wM o i) ∧ (∀ o i, gP m o i = if o = 50 ∧ i = 3 then 52 else gP wM o i) ∧ gF m 50 18 = 0
theorem LDa.fr {wM m m' : Wd} (h : LDa wM m) (hf : frm SPm TPm m m') : LDa wM m' := by
  obtain ⟨h1, h2, h3, h5⟩ := h
  exact ⟨fun o k hk => (hf.1 o k (by unfold SPm; omega)).trans (h1 o k hk), fun o ho i => (hf.2.1 o ho i).trans (h2 o ho i), fun o i => (hf.2.2 o i).trans (h3 o i), (hf.1 50 18 (by unfold SPm; omega)).trans h5⟩
/-- the words of the text, both sides -/
theorem add_go (h : RR k na wC wM) {x : Int} (hx : rng x) : ∃ w1 w' m', p_X6_copy 116 100 wC = some w1 ∧ frm SPa TPc wC w' ∧ LDa wM m' ∧
    ((∃ c, 1 ≤ c ∧ c ≤ 500 ∧ p_X8_takeInputWords x w1 = some (c, w') ∧ p_X9_addPart x wM = p_X9_addPart_183 x (b2 (decide (0 ≤ x ∧ x ≤ 2))) (gF wM 50 24) (gF wM 50 25) (gA wM 51 10) c m' ∧ ∃ B N, AL (gA wM 51) x c w' m' B N) ∨
      (∃ x6, p_X8_takeInputWords x w1 = some (0, w') ∧ p_X9_addPart x wM = p_X9_addPart_183 x (b2 (decide (0 ≤ x ∧ x ≤ 2))) (gF wM 50 24) (gF wM 50 25) (gA wM 51 10) x6 m' ∧ IDL m')) := by
  have hFU : FU = 1000000 := rfl
  obtain ⟨n, hn⟩ : ∃ q, FU = q + 1 := ⟨999999, rfl⟩
  obtain ⟨hI1, hI2, hI3⟩ := h.2.2.2.2.2.1
  have hV := h.B
  have hp9 := hV.p
  have hw10 := hV.w
  unfold rng at hx
  obtain ⟨w1, a1, a2, a3, a4⟩ := h.cp
  have hop : ∃ w2, p_X6_openPart 116 x w1 = some w2 ∧ frm (SWo 116) (TWo 116) w1 w2 ∧ gF w2 116 7 = gA wM 51 10 ∧ (0 ≤ gF w2 116 4 ∧ gF w2 116 4 ≤ 10) ∧ (gA wM 51 9 < 10 → RS w2 116 (opW (gA wM 51) x 0)) := by
    have g4 : gF w1 116 4 = gA wM 51 9 := a4.1.2.2.2.1
    have g7 : gF w1 116 7 = gA wM 51 10 := a4.1.2.2.2.2.1
    by_cases c : gA wM 51 9 < 10
    · obtain ⟨w2, o1, o2, o3⟩ := openPart_o SLo_1 a4 (opW_OPN (kind := x) ⟨hp9.1, c⟩) ⟨hp9.1, c⟩
      have e4 : gF w2 116 4 = gA wM 51 9 + 1 := o3.1.2.2.2.1.trans opW_9
      exact ⟨w2, o1, o2, o3.1.2.2.2.2.1.trans (opW_n (by omega)), by omega, fun _ => o3⟩
    · refine ⟨w1, ?_, frm_refl w1, g7, by omega, fun q => absurd q c⟩
      unfold p_X6_openPart
      rw [g4, if_neg (show ¬ lt32 (gA wM 51 9) 10 = true by rw [lt32_o (by omega)]; omega)]
  obtain ⟨w2, o1, o2, o3, o4, o5⟩ := hop
  have fR : frm T8 T0 w2 (sF (sF w2 8 2 0) 8 3 0) := frm_sF (frm_sF (frm_refl w2) rfl) rfl
  have fA : frm SPa TPc wC (sF (sF w2 8 2 0) 8 3 0) := frm_trans (frm_mono a2 (fun o k q => by unfold SQ at q; unfold SPa; omega) (fun o q => by unfold TQ at q; unfold TPc; omega)) (frm_trans (fwo o2) (f8a fR))
  have a8 : gF (sF (sF w2 8 2 0) 8 3 0) 8 2 + gF (sF (sF w2 8 2 0) 8 3 0) 8 3 = 0 := rfl
  have hcl : p_X8_takeInputWords x w1 = (p_X7_step (sF (sF w2 8 2 0) 8 3 0)).bind fun z => p_X8_takeInputWords_19 FU 0 0 z := by
    unfold p_X8_takeInputWords p_X7_restart
    rw [o1, Option.bind_some, Option.bind_some]
    cases p_X7_step (sF (sF w2 8 2 0) 8 3 0) <;> rfl
  generalize sF (sF w2 8 2 0) 8 3 0 = wa at *
  obtain ⟨mb, b0, b1, ⟨b2', b3, b4, b5, b6⟩, b7, b8⟩ := beginT (setR wM 52 (fun j => if 0 ≤ j ∧ j < 1099 then gA wM 51 j else gA wM 52 j))
  have bp : gP mb 50 3 = 52 := (b8 50 3).trans (if_pos ⟨rfl, rfl⟩)
  have e52 : ∀ j, 0 ≤ j → j < 1099 → gA mb 52 j = gA wM 51 j := fun j j0 j1 => by rw [b7, gA_setR, if_pos rfl, if_pos ⟨j0, j1⟩]
  have hLb : LDa wM mb := by
    refine ⟨fun o k hk => (b1 o k (by omega)).trans rfl, fun o ho i => ?_, fun o i => b8 o i, b3⟩
    rw [b7, gA_setR, if_neg ho]
  have b19 : gF mb 50 19 = gF wM 50 18 := b2'
  have hmo : p_X9_addPart x wM = (p_X9_scan mb).bind fun z => if eq32 (gF z 50 22) 0 = true then p_X9_addPart_85 x (b2 (decide (0 ≤ x ∧ x ≤ 2))) (gF wM 50 24) (gF wM 50 25) (gA wM 51 10) 0 1 z else p_X9_addPart_85 x (b2 (decide (0 ≤ x ∧ x ≤ 2))) (gF wM 50 24) (gF wM 50 25) (gA wM 51 10) 0 0 z := by
    unfold p_X9_addPart
    rw [w32_o hx, in_o (by omega), Option.bind_some]
    dsimp only
    rw [a24_o]
    unfold p_X9_addPart_52
    rw [b0, Option.bind_some, if_neg (show ¬ (inb 10 1099 = false) by decide), bp, e52 10 (by decide) (by decide)]
  have hC : TXC wa (gA wC 4) (gF wM 50 18) := by
    refine ⟨(fA.1 2 1 (by unfold SPa; omega)).trans hI1, hI2, fun i i0 i1 => ⟨fA.2.1 4 (by unfold TPc; omega) i, (hI3 i i0 i1).1⟩⟩
  have hM : TXM mb (gA wC 4) (gF wM 50 18) := by
    refine ⟨b19, hI2, fun i i0 i1 => ⟨?_, (hI3 i i0 i1).1⟩⟩
    rw [hLb.2.1 60 (by decide)]; exact (hI3 i i0 i1).2
  obtain ⟨w3, m3, c1, c2, c3, c4, c5⟩ := next_o hC hM (p := 0) ⟨Int.le_refl _, hI2.1⟩ a8 b4
  have h24 : gF m3 50 24 = 0 := (c4.1 50 24 (by unfold Ssc; omega)).trans b5
  have hP : PT w3 m3 (gA wC 4) (gF wM 50 18) := ⟨hC.fr c3 (by decide) id, hM.fr c4 (by unfold Ssc; omega) id, h24, _, _, _, c5⟩
  have hL3 := hLb.fr (fsc c4)
  have f3 : frm SPa TPc wC w3 := frm_trans fA (f8a c3)
  have f23 : frm T8 T0 w2 w3 := frm_trans fR c3
  have m52 : ∀ j, 0 ≤ j → j < 1099 → gA m3 52 j = gA wM 51 j := fun j j0 j1 => (c4.2.1 52 id j).trans (e52 j j0 j1)
  have m9 : gA m3 52 9 = gA wM 51 9 := m52 9 (by decide) (by decide)
  have m10 : gA m3 52 10 = gA wM 51 10 := m52 10 (by decide) (by decide)
  have hAL : AL (gA wM 51) x 0 w3 m3 (gA wC 4) (gF wM 50 18) := by
    refine ⟨hP, (hL3.2.2.1 50 3).trans (if_pos ⟨rfl, rfl⟩), by rw [m10]; exact hw10, m52 0 (by decide) (by decide), ?_, ?_, ?_, fun q _ => ⟨?_, by rw [m10, Int.add_zero], ?_, fun j j0 j1 j2 => m52 j j0 (by omega)⟩⟩
    · rw [f23.1 116 7 (by unfold T8; decide), o3]; exact hw10
    · rw [f23.1 116 4 (by unfold T8; decide)]; exact o4
    · exact (f3.1 100 0 (by unfold SPa; omega)).trans h.S.1.1
    · have hw : ∀ v, 0 ≤ v → v < gA wM 51 10 → wnF (opW (gA wM 51) x 0) v ≤ 12 := fun v v0 v1 => by
        rw [show wnF (opW (gA wM 51) x 0) v = wnF (gA wM 51) v from opW_n (by omega)]
        exact (hV.wn v0 v1).2
      have e10 : opW (gA wM 51) x 0 10 = gA wM 51 10 := opW_n (by omega)
      refine (RS_agr (f := opW (gA wM 51) x 0) (fun j j0 j1 => ?_) (by rw [opW_9]; omega) (by rw [e10]; omega) (by rw [e10]; exact hw) (o5 q)).fr f23 (fun d k _ q => by unfold T8 at q; omega) (fun d _ q => q)
      unfold opW
      rw [m9]
      by_cases d9 : j = 9
      · rw [if_pos d9, if_pos d9]
      · rw [if_neg d9, if_neg d9]
        by_cases d0 : j = 299 + 2 * gA wM 51 9
        · rw [if_pos d0, if_pos d0]
        · rw [if_neg d0, if_neg d0]
          by_cases d1 : j = 299 + 2 * gA wM 51 9 + 1
          · rw [if_pos d1, if_pos d1]
          · rw [if_neg d1, if_neg d1]; exact m52 j j0 j1
    · have := (VB_agr m52 hV).pv (by rw [m9]; exact q)
      rw [m10] at this
      exact this
  rw [c1, Option.bind_some] at hcl
  rw [c2, Option.bind_some, c5.2.2.1.2.2] at hmo
  have hKr := kk_rng c5
  generalize tkK (gA wC 4) (gF wM 50 18) 0 = K at *
  by_cases hK : K = 0
  · obtain ⟨wz, m4, f1, f2, f3', f4, f5⟩ := bad2 hP (c := 1) (by decide)
    refine ⟨w1, w3, m4, a1, f3, hL3.fr (fse f5), Or.inr ⟨0, ?_, ?_, f3'.2.2⟩⟩
    · rw [hcl, hn]
      simp only [p_X8_takeInputWords_19]
      rw [c5.2.1.2.2, if_pos (show eq32 K 0 = true by rw [hK]; exact e00), ite_self]
    · rw [hmo, if_pos (show eq32 K 0 = true by rw [hK]; exact e00)]
      unfold p_X9_addPart_85
      rw [errsIf_1 h24, f2, Option.bind_some, hn, a89_x f3'.2.2]
  · obtain ⟨w', m', g1, g2, g3⟩ := add_lp (x := x) (x2 := b2 (decide (0 ≤ x ∧ x ≤ 2))) (x3 := gF wM 50 24) (x4 := gF wM 50 25) (x5 := gA wM 51 10) hV 500 FU FU 0 _ _ K w3 m3 hAL c5 (by have := c5.1; omega) (Int.le_refl _) c5.1.1 (by omega) (by omega)
    rw [if_neg (show ¬ eq32 K 0 = true by rw [eq32_o (by omega)]; exact hK)] at hmo
    unfold p_X9_addPart_85 at hmo
    rw [errsIf_0 h24, Option.bind_some] at hmo
    refine ⟨w1, w', m', a1, frm_trans f3 g1, hL3.fr g2, ?_⟩
    rcases g3 with ⟨c, q1, q2, q3, q4, q5, q6⟩ | ⟨x6, q1, q2, q3⟩
    · exact Or.inl ⟨c, by have := q3 hK; omega, q2, hcl.trans q4, hmo.trans q5, _, _, q6⟩
    · exact Or.inr ⟨x6, hcl.trans q1, hmo.trans q2, q3⟩
end AO
