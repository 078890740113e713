/-! ===== load ===== -/
theorem nrm_i {f : Rw} {i : Int} (h : 0 ≤ i ∧ i < 1099) : nrm f i = f i := if_pos h
theorem VB_agr {f g : Rw} (h : ∀ i, 0 ≤ i → i < 1099 → g i = f i) (hV : VB f) : VB g := by
  obtain ⟨a1, a2, a3, a4, a5, a6, a7, a8, a9, a10⟩ := hV
  have n9 : g 9 = f 9 := h 9 (by decide) (by decide)
  have n10 : g 10 = f 10 := h 10 (by decide) (by decide)
  refine ⟨by rw [h 0 (by decide) (by decide)]; exact a1, by rw [h 1 (by decide) (by decide)]; exact a2, by rw [h 2 (by decide) (by decide)]; exact a3, by rw [n9]; exact a4, by rw [n10]; exact a5, fun p p0 p1 => ?_, ?_, fun v v0 v1 => ?_, fun v k v0 v1 k0 k1 => ?_, fun c r c0 c1 r0 r1 => ?_⟩
  · rw [n9] at p1
    rw [show pkF g p = pkF f p from h _ (by omega) (by omega), show psF g p = psF f p from h _ (by omega) (by omega)]
    exact a6 p p0 p1
  · rw [n9, n10, ← a7]
    exact sm_congr _ fun i i0 i1 => h _ (by omega) (by omega)
  · rw [n10] at v1
    rw [show wnF g v = wnF f v from h _ (by omega) (by omega)]; exact a8 v v0 v1
  · rw [n10] at v1
    rw [show wnF g v = wnF f v from h _ (by omega) (by omega)] at k1
    have := a8 v v0 v1
    rw [show wbF g v k = wbF f v k from h _ (by omega) (by omega)]; exact a9 v k v0 v1 k0 k1
  · rw [show fcF g c r = fcF f c r from h _ (by omega) (by omega)]; exact a10 c r c0 c1 r0 r1
theorem RS_agr {w : Wd} {o : Nat} {f g : Rw} (h : ∀ i, 0 ≤ i → i < 1099 → g i = f i) (h9 : f 9 ≤ 10) (h10 : f 10 ≤ 60) (hw : ∀ v, 0 ≤ v → v < f 10 → wnF f v ≤ 12) (hS : RS w o f) : RS w o g := by
  obtain ⟨⟨b1, b2', b3, b4, b5, b6⟩, ⟨c1, c2, c3, c4, c5⟩, s3, s4, s5, s6, s7⟩ := hS
  have n9 : g 9 = f 9 := h 9 (by decide) (by decide)
  have n10 : g 10 = f 10 := h 10 (by decide) (by decide)
  refine ⟨⟨by rw [h 0 (by decide) (by decide)]; exact b1, by rw [h 1 (by decide) (by decide)]; exact b2', by rw [h 2 (by decide) (by decide)]; exact b3, by rw [n9]; exact b4, by rw [n10]; exact b5, by rw [h 8 (by decide) (by decide)]; exact b6⟩, ⟨by rw [h 3 (by decide) (by decide)]; exact c1, by rw [h 4 (by decide) (by decide)]; exact c2, by rw [h 5 (by decide) (by decide)]; exact c3, by rw [h 6 (by decide) (by decide)]; exact c4, by rw [h 7 (by decide) (by decide)]; exact c5⟩, fun r r0 r1 i hi => ?_, fun p p0 p1 => ?_, fun v v0 v1 => ?_, fun v k v0 v1 k0 k1 => ?_, fun c r c0 c1 r0 r1 q => ?_⟩
  · rw [show fcF g i r = fcF f i r from h _ (by omega) (by omega)]; exact s3 r r0 r1 i hi
  · rw [n9] at p1
    rw [show pkF g p = pkF f p from h _ (by omega) (by omega), show psF g p = psF f p from h _ (by omega) (by omega)]; exact s4 p p0 p1
  · rw [n10] at v1
    rw [show wnF g v = wnF f v from h _ (by omega) (by omega)]; exact s5 v v0 v1
  · rw [n10] at v1
    rw [show wnF g v = wnF f v from h _ (by omega) (by omega)] at k1
    have := hw v v0 v1
    rw [show wbF g v k = wbF f v k from h _ (by omega) (by omega)]; exact s6 v k v0 v1 k0 k1
  · rw [show fcF g c r = fcF f c r from h _ (by omega) (by omega)] at q
    unfold isCF
    rw [h 0 (by decide) (by decide), h 1 (by decide) (by decide)]
    exact s7 c r c0 c1 r0 r1 q
theorem VB_nrm {f : Rw} (hV : VB f) : VB (nrm f) := VB_agr (fun i i0 i1 => nrm_i ⟨i0, i1⟩) hV
theorem RS_nrm {w : Wd} {o : Nat} {f : Rw} (hV : VB f) (h : RS w o f) : RS w o (nrm f) := RS_agr (fun i i0 i1 => nrm_i ⟨i0, i1⟩) hV.p.2 hV.w.2 (fun v v0 v1 => (hV.wn v0 v1).2) h
/-- the text is taken; an error may be told -/
def SCe (o k : Nat) : Prop := SCf o k ∨ (o = 2 ∧ k = 1) ∨ o = 9
def SMe (o k : Nat) : Prop := o = 50 ∧ k ≠ 31 ∧ k ≠ 33
theorem RR.er {k na : Nat} {wC wM wC' wM' : Wd} (h : RR k na wC wM) (hC : frm SCe TCf wC wC') (hM : frm SMe TMf wM wM') (hI : INr wC' wM') (hE : ERr wC' wM') : RR k na wC' wM' := by
  obtain ⟨a1, a2, a3, a4, a5, a6, a7, a8, ⟨b1, b2', b3⟩, c, d⟩ := h
  have hSC : ∀ a k, SCe a k → a < 132 ∧ ¬ (100 ≤ a ∧ a ≤ 111) := fun a k h => by unfold SCe SCf at h; omega
  have hTC : ∀ a, TCf a → a < 132 ∧ ¬ (100 ≤ a ∧ a ≤ 111) := fun a h => by unfold TCf at h; omega
  have n51 : gA wM' 51 = gA wM 51 := funext fun i => hM.2.1 51 (by unfold TMf; omega) i
  have nP : ∀ j, prM wM' j = prM wM j := fun j => congrArg nrm (funext fun i => hM.2.1 63 (by unfold TMf; omega) _)
  have nK : ∀ j, krM wM' j = krM wM j := fun j => congrArg nrm (funext fun i => hM.2.1 61 (by unfold TMf; omega) _)
  have m31 : gF wM' 50 31 = gF wM 50 31 := hM.1 50 31 (by unfold SMe; omega)
  have m33 : gF wM' 50 33 = gF wM 50 33 := hM.1 50 33 (by unfold SMe; omega)
  have cP : ∀ o i, gP wC' o i = gP wC o i := hC.2.2
  refine ⟨(hM.2.2 _ _).trans a1, by rw [n51]; exact a2, by rw [n51]; exact a3.far hC hSC hTC (Or.inl rfl), by rw [n51]; exact a4.fr hC (by unfold SCe SCf; omega) (by unfold TCf; omega) (by unfold TCf; omega), by rw [n51]; exact a5.fr hC (by unfold SCe SCf; omega) (by unfold TCf; omega) (by unfold TCf; omega), hI, ?_, hE, ⟨?_, ?_, fun j j0 j1 => ?_⟩, fun s s0 s1 => ?_, d.1.keep cP, by rw [n51]; exact d.2⟩
  · refine ⟨by rw [m33, hC.1 5 1 (by unfold SCe SCf; omega)]; exact a7.1, by rw [m33]; exact a7.2.1, fun i i0 i1 => ?_⟩
    rw [m33] at i1
    rw [hC.2.1 7 (by unfold TCf; omega), hM.2.1 64 (by unfold TMf; omega)]
    exact a7.2.2 i i0 i1
  · rw [m31, hC.1 31 1 (by unfold SCe SCf; omega)]; exact b1
  · rw [m31]; exact b2'
  · rw [m31] at j1
    obtain ⟨x1, x2, x3⟩ := b3 j j0 j1
    rw [cP, nP]
    exact ⟨x1, x2.far hC hSC hTC (Or.inr (d.1.p ⟨j0, by omega⟩ x1)), x3⟩
  · rw [cP, nK, hM.2.1 62 (by unfold TMf; omega)]
    rcases c s s0 s1 with h | h
    · exact Or.inl h
    · exact Or.inr ⟨h.1, h.2.1, h.2.2.1.far hC hSC hTC (Or.inr (d.1.s ⟨s0, s1⟩ h.1)), h.2.2.2⟩
theorem takeDraft_o (m : Wd) : p_X9_takeDraft m = some (setR m 51 (fun j => if 0 ≤ j ∧ j < 1099 then gA m 52 j else gA m 51 j)) := by
  have hx := cp_loop (lp := fun n x w => p_X9_takeDraft_2 n x w) (fin := some) (dst := 51) (src := 52) (od := 0) (os := 0) (b := 1099) (w := m) (by decide)
    (fun n x f x0 x1 => by
      simp (disch := omega) only [p_X9_takeDraft_2, lt32_o, x1, if_true, inb_f, if_false]
      rw [Int.zero_add])
    (fun n f => by simp (disch := omega) only [p_X9_takeDraft_2, lt32_o, Int.lt_irrefl, if_false])
    FU (by decide) (by have : FU = 1000000 := rfl; omega)
  unfold p_X9_takeDraft
  refine hx.trans (congrArg some (setR_ext fun j => ?_))
  by_cases c : 0 ≤ j ∧ j < 1099
  · rw [if_pos c, if_pos (by omega)]; exact congrArg (gA m 52) (by omega)
  · rw [if_neg c, if_neg (by omega)]
theorem beginT (w : Wd) : ∃ m, p_X9_beginText w = some m ∧ (∀ o k, ¬ (o = 50 ∧ 18 ≤ k ∧ k ≤ 25) → gF m o k = gF w o k) ∧ (gF m 50 19 = gF w 50 18 ∧ gF m 50 18 = 0 ∧ gF m 50 20 = 0 ∧ gF m 50 24 = 0 ∧ gF m 50 25 = -1) ∧ (∀ o i, gA m o i = gA w o i) ∧ (∀ o i, gP m o i = if o = 50 ∧ i = 3 then 52 else gP w o i) := by
  refine ⟨_, rfl, fun o k hk => ?_, ⟨rfl, rfl, rfl, rfl, rfl⟩, fun _ _ => rfl, fun _ _ => rfl⟩
  simp only [gF_sP, gF_sF]
  rw [if_neg (by omega), if_neg (by omega), if_neg (by omega), if_neg (by omega), if_neg (by omega)]
/-- the model's world behind the start of the text, against the one before -/
def LDm (wM m : Wd) : Prop := (∀ o k, ¬ (o = 50 ∧ (k = 0 ∨ (18 ≤ k ∧ k ≤ 27))) → gF m o k = gF wM o k) ∧ (∀ o, o ≠ 52 → ∀ i, gA m o i = gA wM o i) ∧ (∀ o i, gP m o i = if o = 50 ∧ i = 3 then 52 else gP wM o i) ∧ gF m 50 0 = 0 ∧ gF m 50 18 = 0
theorem LDm.fr {wM m m' : Wd} (h : LDm wM m) (hf : frm SPm TPm m m') : LDm wM m' := by
  obtain ⟨h1, h2, h3, h4, h5⟩ := h
  exact ⟨fun o k hk => (hf.1 o k (by unfold SPm; omega)).trans (h1 o k hk), fun o ho i => (hf.2.1 o ho i).trans (h2 o ho i), fun o i => (hf.2.2 o i).trans (h3 o i), (hf.1 50 0 (by unfold SPm; omega)).trans h4, (hf.1 50 18 (by unfold SPm; omega)).trans h5⟩
section LD
variable {k na : Nat} {wC wM : Wd} {xs : Nat → Int32} {i : Int}
theorem load_go (h : RR k na wC wM) : ∃ r w' m', p_X3_read 116 wC = some (b2 r, w') ∧ p_X9_load wM = p_X9_load_52 m' ∧ frm SPc TPc wC w' ∧ LDm wM m' ∧ ((r = true ∧ ∃ B N f', PG w' m' B N f') ∨ (r = false ∧ BAD w' m')) := by
  have hFU : FU = 1000000 := rfl
  have iF : eq32 (b2 false) 0 = true := by decide +kernel
  obtain ⟨n, hn⟩ : ∃ q, FU = q + 1 := ⟨999999, rfl⟩
  obtain ⟨hI1, hI2, hI3⟩ := h.2.2.2.2.2.1
  unfold p_X3_read p_X9_load p_X7_restart
  simp only [Option.bind_some]
  have fA : frm SPc TPc wC (sF (sF (sF (sF (sF (sF (sF wC 9 1 0) 9 2 (-1)) 9 4 0) 9 5 0) 9 6 0) 8 2 0) 8 3 0) := frm_sF (frm_sF (frm_sF (frm_sF (frm_sF (frm_sF (frm_sF (frm_refl wC) (Or.inr (Or.inl ⟨rfl, by decide⟩))) (Or.inr (Or.inl ⟨rfl, by decide⟩))) (Or.inr (Or.inl ⟨rfl, by decide⟩))) (Or.inr (Or.inl ⟨rfl, by decide⟩))) (Or.inr (Or.inl ⟨rfl, by decide⟩))) (Or.inl rfl)) (Or.inl rfl)
  have a1 : gF (sF (sF (sF (sF (sF (sF (sF wC 9 1 0) 9 2 (-1)) 9 4 0) 9 5 0) 9 6 0) 8 2 0) 8 3 0) 9 1 = 0 := rfl
  have a2 : gF (sF (sF (sF (sF (sF (sF (sF wC 9 1 0) 9 2 (-1)) 9 4 0) 9 5 0) 9 6 0) 8 2 0) 8 3 0) 9 2 = -1 := rfl
  have a4 : gF (sF (sF (sF (sF (sF (sF (sF wC 9 1 0) 9 2 (-1)) 9 4 0) 9 5 0) 9 6 0) 8 2 0) 8 3 0) 9 4 = 0 := rfl
  have a5 : gF (sF (sF (sF (sF (sF (sF (sF wC 9 1 0) 9 2 (-1)) 9 4 0) 9 5 0) 9 6 0) 8 2 0) 8 3 0) 9 5 = 0 := rfl
  have a6 : gF (sF (sF (sF (sF (sF (sF (sF wC 9 1 0) 9 2 (-1)) 9 4 0) 9 5 0) 9 6 0) 8 2 0) 8 3 0) 9 6 = 0 := rfl
  have a8 : gF (sF (sF (sF (sF (sF (sF (sF wC 9 1 0) 9 2 (-1)) 9 4 0) 9 5 0) 9 6 0) 8 2 0) 8 3 0) 8 2 + gF (sF (sF (sF (sF (sF (sF (sF wC 9 1 0) 9 2 (-1)) 9 4 0) 9 5 0) 9 6 0) 8 2 0) 8 3 0) 8 3 = 0 := rfl
  generalize sF (sF (sF (sF (sF (sF (sF wC 9 1 0) 9 2 (-1)) 9 4 0) 9 5 0) 9 6 0) 8 2 0) 8 3 0 = wa at *
  obtain ⟨mb, b0, b1, ⟨b2', b3, b4, b5, b6⟩, b7, b8⟩ := beginT (sF (sF (sF wM 50 0 0) 50 26 0) 50 27 0)
  have bp : gP mb 50 3 = 52 := (b8 50 3).trans (if_pos ⟨rfl, rfl⟩)
  have hLb : LDm wM mb := by
    refine ⟨fun o k hk => ?_, fun o _ i => b7 o i, fun o i => b8 o i, (b1 50 0 (by omega)).trans rfl, b3⟩
    rw [b1 o k (by omega)]
    simp only [gF_sF]
    rw [if_neg (by omega), if_neg (by omega), if_neg (by omega)]
  have b19 : gF mb 50 19 = gF wM 50 18 := b2'
  have b26 : gF mb 50 26 = 0 := (b1 50 26 (by omega)).trans rfl
  have b27 : gF mb 50 27 = 0 := (b1 50 27 (by omega)).trans rfl
  rw [b0, Option.bind_some, layPlain_eq, Option.bind_some, bp]
  have fM : frm SPm TPm mb (setR mb 52 (plainR (gA mb 52))) := frm_setR (frm_refl mb) rfl
  have e52 : ∀ i, gA (setR mb 52 (plainR (gA mb 52))) 52 i = plainR (gA mb 52) i := fun i => by rw [gA_setR, if_pos rfl]
  have eF : ∀ k, gF (setR mb 52 (plainR (gA mb 52))) 50 k = gF mb 50 k := fun k => rfl
  generalize plainR (gA mb 52) = pl, hpl : plainR (gA mb 52) = pl at *
  generalize setR mb 52 pl = m2 at *
  have hLm2 := hLb.fr fM
  have hC : TXC wa (gA wC 4) (gF wM 50 18) := by
    refine ⟨(fA.1 2 1 (by unfold SPc; omega)).trans hI1, hI2, fun i i0 i1 => ⟨fA.2.1 4 (by unfold TPc; omega) i, (hI3 i i0 i1).1⟩⟩
  have hM : TXM m2 (gA wC 4) (gF wM 50 18) := by
    refine ⟨(eF 19).trans b19, hI2, fun i i0 i1 => ⟨?_, (hI3 i i0 i1).1⟩⟩
    rw [hLm2.2.1 60 (by decide)]; exact (hI3 i i0 i1).2
  obtain ⟨w1, m3, c1, c2, c3, c4, c5⟩ := next_o hC hM (p := 0) ⟨Int.le_refl _, hI2.1⟩ a8 ((eF 20).trans b4)
  have hP : PT w1 m3 (gA wC 4) (gF wM 50 18) := ⟨hC.fr c3 (by decide) id, hM.fr c4 (by unfold Ssc; omega) id, (c4.1 50 24 (by unfold Ssc; omega)).trans ((eF 24).trans b5), _, _, _, c5⟩
  have hLm3 := hLm2.fr (fsc c4)
  obtain ⟨r, w2, m4, d1, d2, d3, d4, d5⟩ := slab_o hP ((hLm3.2.2.1 50 3).trans (if_pos ⟨rfl, rfl⟩)) (fun i i0 i1 => by
      rw [c4.2.1 52 id i, e52, ← hpl]
      unfold plainR
      by_cases q0 : i = 0
      · rw [if_pos q0, if_pos q0]
      · rw [if_neg q0, if_neg q0]
        by_cases q1 : i = 1
        · rw [if_pos q1, if_pos q1]
        · rw [if_neg q1, if_neg q1]
          by_cases q3 : i = 3
          · rw [if_pos q3, if_pos q3]
          · rw [if_neg q3, if_neg q3]
            by_cases q4 : i = 4
            · rw [if_pos q4, if_pos q4]
            · rw [if_neg q4, if_neg q4]
              by_cases q5 : i = 5
              · rw [if_pos q5, if_pos q5]
              · rw [if_neg q5, if_neg q5, if_pos ⟨i0, i1⟩])
    ⟨(c3.1 9 1 (by decide)).trans a1, (c3.1 9 2 (by decide)).trans a2, (c4.1 50 25 (by unfold Ssc; omega)).trans ((eF 25).trans b6)⟩
    ⟨(c3.1 9 5 (by decide)).trans a5, (c4.1 50 26 (by unfold Ssc; omega)).trans ((eF 26).trans b26), (c3.1 9 6 (by decide)).trans a6, (c4.1 50 27 (by unfold Ssc; omega)).trans ((eF 27).trans b27), (c3.1 9 4 (by decide)).trans a4⟩
  have hfw : frm SPc TPc wC w2 := frm_trans fA (frm_trans (ftc (ft8 c3)) d3)
  rw [c1, Option.bind_some, Option.bind_some, d1, Option.bind_some, c2, Option.bind_some, d2, Option.bind_some]
  dsimp only
  rcases d5 with ⟨rfl, f', e1⟩ | ⟨rfl, e1⟩
  · have hmr := mu_rng e1
    obtain ⟨r, w3, m5, g1, g2, g3, g4, g5⟩ := read_lp 60 FU FU 0 w2 m4 f' e1 (frm_refl w2) (frm_refl m4) (by omega) (by decide) (by omega) (by omega) (by omega)
    refine ⟨r, w3, m5, g1, g2, frm_trans hfw g3, (hLm3.fr d4).fr g4, ?_⟩
    rcases g5 with ⟨q, f2, q2⟩ | q
    · exact Or.inl ⟨q, _, _, f2, q2⟩
    · exact Or.inr q
  · rw [hn]
    have hz : zr (b2 false) w2 = some (b2 false, w2) := zr_b2 false w2
    simp only [p_X3_read_40, p_X9_load_31]
    rw [if_pos iF, hz, ite_self, good_x e1.2.2, Option.bind_some]
    dsimp only
    rw [if_pos e00]
    exact ⟨false, w2, m4, rfl, rfl, hfw, hLm3.fr d4, Or.inr ⟨rfl, e1⟩⟩
theorem op2 (h : RR k na wC wM) : ∃ z, p_op_2 xs i na wC wM = some z ∧ RR (k + 1) z.1 z.2.1 z.2.2 := by
  obtain ⟨r, w1, m1, a1, a2, a3, a4, a5⟩ := load_go h
  unfold p_op_2
  have fW : frm SCe TCf wC (sF w1 2 1 0) := frm_sF (frm_mono a3 (fun o k q => by unfold SPc at q; unfold SCe SCf; omega) (fun o q => by unfold TPc at q; unfold TCf; omega)) (Or.inr (Or.inl ⟨rfl, rfl⟩))
  have p1 : gP m1 50 3 = 52 := (a4.2.2.1 50 3).trans (if_pos ⟨rfl, rfl⟩)
  have hM3 : ∀ v : Int, frm SMe TMf wM (sP (sA m1 52 5 v) 50 3 51) := fun v => by
    refine ⟨fun o k hk => a4.1 o k (by unfold SMe at hk; omega), fun o ho i => ?_, fun o i => ?_⟩
    · rw [gA_sP, gA_sA, if_neg (fun q => ho (by rw [q.1]; unfold TMf; omega))]
      exact a4.2.1 o (fun q => ho (by rw [q]; unfold TMf; omega)) i
    · rw [gP_sP]
      by_cases q : o = 50 ∧ i = 3
      · rw [if_pos q, q.1, q.2]; exact h.pp.symm
      · rw [if_neg q, gP_sA, a4.2.2.1, if_neg q]
  have hI : ∀ v : Int, INr (sF w1 2 1 0) (sP (sA m1 52 5 v) 50 3 51) := fun v => by
    have e : gF (sP (sA m1 52 5 v) 50 3 51) 50 18 = 0 := a4.2.2.2.2
    refine ⟨by rw [e]; rfl, by rw [e]; decide, fun i i0 i1 => ?_⟩
    rw [e] at i1
    exact absurd i1 (by omega)
  have h52 : p_X9_load wM = (p_X9_good (sP (sA m1 52 5 (gA m1 52 3)) 50 3 51)).bind fun z => if eq32 z.1 0 then some (-4, z.2) else (p_X9_remember z.2).bind fun w6 => (p_X9_takeDraft w6).bind fun w7 => (p_X9_lay w7).bind fun z2 => some (z2.1, z2.2) := by
    rw [a2]
    unfold p_X9_load_52
    rw [if_neg (show ¬ (inb 3 1099 = false) by decide), if_neg (show ¬ (inb 5 1099 = false) by decide), p1, Option.bind_some]
  rcases a5 with ⟨rfl, B, N, f, hG⟩ | ⟨rfl, hB⟩
  · obtain ⟨hP, ⟨-, e52⟩, hS, hVD, hF⟩ := hG
    have e3 : gA m1 52 3 = f 3 := congrFun e52 3
    rw [e3] at h52
    have he := h.er ((frm_sF (frm_sF (frm_sF (frm_refl wC) (Or.inr (Or.inl ⟨rfl, rfl⟩))) (Or.inr (Or.inr rfl))) (Or.inr (Or.inr rfl)) : frm SCe TCf wC (sF (sF (sF wC 2 1 0) 9 1 0) 9 2 (-1))))
      (frm_sF (frm_sF (frm_sF (frm_refl wM) ⟨rfl, by decide, by decide⟩) ⟨rfl, by decide, by decide⟩) ⟨rfl, by decide, by decide⟩ : frm SMe TMf wM (sF (sF (sF wM 50 18 0) 50 24 0) 50 25 (-1)))
      ⟨rfl, ⟨Int.le_refl 0, show (0 : Int) ≤ 500 by decide⟩, fun i i0 i1 => absurd i1 (by show ¬ i < 0; omega)⟩ ⟨rfl, rfl⟩
    have g24 : gF m1 50 24 = 0 := hP.2.2.1
    have hfM : frm SMf TMf (sF (sF (sF wM 50 18 0) 50 24 0) 50 25 (-1)) (sP (sA m1 52 5 (f 3)) 50 3 51) := by
      refine ⟨fun o k hk => ?_, fun o ho i => (hM3 (f 3)).2.1 o ho i, fun o i => (hM3 (f 3)).2.2 o i⟩
      simp only [gF_sF, gF_sP, gF_sA]
      by_cases q25 : o = 50 ∧ k = 25
      · rw [if_pos q25, q25.1, q25.2]; exact hF.1.2.2
      · rw [if_neg q25]
        by_cases q24 : o = 50 ∧ k = 24
        · rw [if_pos q24, q24.1, q24.2]; exact g24
        · rw [if_neg q24]
          by_cases q18 : o = 50 ∧ k = 18
          · rw [if_pos q18, q18.1, q18.2]; exact a4.2.2.2.2
          · rw [if_neg q18]; exact a4.1 o k (by unfold SMf at hk; omega)
    have hfC : frm SCf TCf (sF (sF (sF wC 2 1 0) 9 1 0) 9 2 (-1)) (sF w1 2 1 0) := by
      refine ⟨fun o k hk => ?_, fun o ho i => fW.2.1 o ho i, fun o i => fW.2.2 o i⟩
      simp only [gF_sF]
      by_cases q2 : o = 9 ∧ k = 2
      · rw [if_pos q2, q2.1, q2.2, if_neg (by decide)]; exact hF.1.2.1
      · rw [if_neg q2]
        by_cases q1 : o = 9 ∧ k = 1
        · rw [if_pos q1, q1.1, q1.2, if_neg (by decide)]; exact hF.1.1
        · rw [if_neg q1]
          by_cases q0 : o = 2 ∧ k = 1
          · rw [if_pos q0, if_pos q0]
          · rw [if_neg q0, if_neg q0]
            exact a3.1 o k (by unfold SCf at hk; unfold SPc; omega)
    obtain ⟨m4, b1, b2', b3⟩ := he.rem hfM
    have hS' : RS (sF w1 2 1 0) 116 (nrm (fx f)) := (RS_nrm (fx_SAM.VB hVD.1) hS).fr (frm_sF (frm_refl w1) ⟨rfl, rfl⟩ : frm (fun o k => o = 2 ∧ k = 1) T0 w1 (sF w1 2 1 0)) (fun d k _ q => by omega) (fun d _ q => q)
    have hVB : VB (nrm (fx f)) := VB_nrm (fx_SAM.VB hVD.1)
    have hVF : VF (k + 1) (nrm (fx f)) := by
      obtain ⟨v1, v2, v3, v4, ⟨v6, v7, v8⟩, v9⟩ := hVD
      have hx5 : nrm (fx f) 5 = f 3 := (nrm_i (by decide)).trans (upd1_s _ _ _)
      have hxi : ∀ j, 0 ≤ j → j < 1099 → j ≠ 5 → nrm (fx f) j = f j := fun j j0 j1 j2 => (nrm_i ⟨j0, j1⟩).trans (fx_n j2)
      have hn := nL_rng hVB
      have hla := laF_rng hVB (p := nLF (nrm (fx f))) (by omega) (by omega)
      refine ⟨hVB, ?_, ?_, ?_, ?_, ?_, ?_, ?_⟩
      · rw [hxi 1 (by decide) (by decide) (by decide)]; exact v2
      · rw [hxi 3 (by decide) (by decide) (by decide)]; exact v3
      · rw [hxi 4 (by decide) (by decide) (by decide)]; exact v4
      · rw [hx5, hxi 3 (by decide) (by decide) (by decide)]; omega
      · rw [hxi 6 (by decide) (by decide) (by decide), v6]; omega
      · rw [hxi 7 (by decide) (by decide) (by decide), v7]; omega
      · rw [hxi 8 (by decide) (by decide) (by decide), v8]; omega
    have e52' : gA m4 52 = upd1 f 5 (f 3) := by
      rw [show gA m4 52 = gA (sA m1 52 5 (f 3)) 52 from funext fun j => b2'.2.1 52 (by decide) j, gA_upd, e52]
    have e51 : gA (setR m4 51 (fun j => if 0 ≤ j ∧ j < 1099 then gA m4 52 j else gA m4 51 j)) 51 = nrm (fx f) := funext fun j => by
      rw [gA_setR, if_pos rfl]
      unfold nrm fx
      by_cases q : 0 ≤ j ∧ j < 1099
      · rw [if_pos q, if_pos q, e52']
      · rw [if_neg q, if_neg q, b3.2.1]; exact he.z j q
    have hM4 := b3.up (w' := setR m4 51 (fun j => if 0 ≤ j ∧ j < 1099 then gA m4 52 j else gA m4 51 j)) (frm_setR (frm_refl m4) (Or.inr rfl)) e51
    have hp4 : gP (setR m4 51 (fun j => if 0 ≤ j ∧ j < 1099 then gA m4 52 j else gA m4 51 j)) 50 3 = 51 := hM4.1
    obtain ⟨m6, d1, d2, d3⟩ := lay9 hVB (w := setR m4 51 (fun j => if 0 ≤ j ∧ j < 1099 then gA m4 52 j else gA m4 51 j)) (by unfold cR; rw [hp4]; exact e51) hp4
    have hM6 := hM4.up (frm_5 (frm_L9 d1)) ((funext fun j => d1.2.1 51 (by unfold TL9; omega) j).trans e51)
    obtain ⟨na', wC', s1, s2⟩ := he.settle hfC hS' hVF (nrm_Z _) hM6
    refine iok (p8 := p_X8_load na wC) (r := nLF (nrm (fx f))) (na' := na') (wC' := wC') (wM' := m6) ?_ ?_ s2
    · unfold p_X8_load
      rw [a1, Option.bind_some]
      dsimp only
      rw [if_neg (show ¬ eq32 (b2 true) 0 = true by decide +kernel), s1, bindG_l, show gF wC' 10 4 = nLF (nrm (fx f)) by rw [← hM6.2.1]; exact s2.L.1.1]
    · rw [h52, good_o (show gF (sP (sA m1 52 5 (f 3)) 50 3 51) 50 24 = 0 from g24), Option.bind_some]
      dsimp only
      rw [if_neg e10', b1, Option.bind_some, takeDraft_o, Option.bind_some, d2, Option.bind_some]
  · have hx : IDL (sP (sA m1 52 5 (gA m1 52 3)) 50 3 51) := hB.2.2
    refine iok (p8 := p_X8_load na wC) (r := -4) (na' := na) (wC' := sF w1 2 1 0) (wM' := sP (sA m1 52 5 (gA m1 52 3)) 50 3 51) ?_ ?_ ((h.er fW (hM3 _) (hI _) ⟨hB.1, hB.2.1⟩).mono (Nat.le_succ k))
    · unfold p_X8_load
      rw [a1, Option.bind_some]
      dsimp only
      rw [if_pos (show eq32 (b2 false) 0 = true by decide +kernel)]
    · rw [h52, good_x hx, Option.bind_some]
      dsimp only
      rw [if_pos e00]
end LD
