/-! ===== laidBut, bestPlace, dropPart, movePart ===== -/
section WO
variable {k na : Nat} {wC wM : Wd} {xs : Nat → Int32} {i : Int}
theorem op27 (h : RR k na wC wM) : ∃ z, p_op_27 xs i na wC wM = some z ∧ RR k z.1 z.2.1 z.2.2 := by
  unfold p_op_27 p_L_laidBut
  have hx := sc_rng xs (i + 1)
  generalize sc xs (i + 1) = x at *
  unfold p_X8_laidBut p_X9_laidBut
  rw [needPart_o h hx, isPart_o h.f h.B hx, Option.bind_some]
  dsimp only
  rw [passes_o, Option.bind_some]
  simp only [eq32_b2]
  by_cases c : 0 ≤ x ∧ x < gA wM 51 9
  · rw [if_pos c, decide_eq_true c, if_neg (show ¬ true = false by decide), bindG_l]
    have hsel := tpF_sel h.B c
    have hV' := hsel.VB h.B
    obtain ⟨w1, a1, a2, a3⟩ := without_o h c hsel (tpF_9 h.B c).1
    obtain ⟨w2, b1, b2'⟩ := lot_o hV' a3
    obtain ⟨m1, c1, c2, c3, c4⟩ := as9 h (frmM_0 wM (b2 (!true)))
    obtain ⟨e1, e2, e3⟩ := h.ny c2
    obtain ⟨m2, d1, d2, d3⟩ := takePart9 h.B e2 e3 c
    obtain ⟨m3, m4, y1, y2, y3, y4⟩ := wi9 h (frm_trans (frm_5 c2) (frm_mono d2 (fun _ _ h => absurd h id) (fun o h => Or.inr h))) (fun i i0 i1 => (d2.2.1 55 (by decide) i).trans (c3 i i0 i1)) d3 hV' (tpF_Z h.B c h.z)
    refine wok (r := nLF (tpF (gA wM 51) x)) (na' := na) (wC' := w2) (wM' := m4) ?_ ?_ (y4.trans ((d2.1 50 0 id).trans c4)) (h.fr (frm_trans a2 (frm_L20 b2')) y3)
    · rw [a1, Option.bind_some, b1, Option.bind_some]
    · rw [c1, Option.bind_some, d1, Option.bind_some, y1, Option.bind_some]
      dsimp only
      rw [y2, Option.bind_some]
  · rw [if_neg c, decide_eq_false c, if_pos rfl, bindG_r]
    exact wex (h := hnd1 3) (f := fun r w => sA w 34 0 (w32 r)) (e := 3) (na' := na) (wC' := wC) rfl rfl rfl (Or.inl rfl) rfl (h.fr (frm_refl _) (frmM_0 _ _))
theorem op28 (h : RR k na wC wM) : ∃ z, p_op_28 xs i na wC wM = some z ∧ RR k z.1 z.2.1 z.2.2 := by
  unfold p_op_28 p_L_bestPlace
  have hx := sc_rng xs (i + 1)
  generalize sc xs (i + 1) = x at *
  have h9 := h.B.p
  have key : ∀ (c : 0 ≤ x ∧ x < gA wM 51 9) (m : Nat) (n : Nat) (t bc bm mo : Int) (w w9 : Wd), 0 ≤ t → t + m = gA wM 51 9 → m < n → (bc = bm ∨ (mo = -1 ∧ 1 ≤ m)) → -1 ≤ mo → mo ≤ 60 → frm SCf TCf wC w → frm SMf TMf wM w9 → gF w9 50 0 = 0 →
      ∃ r w' w9', p_X8_bestPlace_12 n x bc mo t na w = some (.inl r, na, w') ∧ p_X9_bestPlace_21 n x bm mo t w9 = some (r, w9') ∧ frm SCf TCf wC w' ∧ frm SMf TMf wM w9' ∧ gF w9' 50 0 = 0 := by
    intro c m
    induction m with
    | zero =>
      intro n t bc bm mo w w9 t0 t1 hn hb hm0 hm1 hC hM hz
      obtain ⟨n', rfl⟩ : ∃ n', n = n' + 1 := ⟨n - 1, by omega⟩
      have e4 : gF w 100 4 = gA wM 51 9 := (h.fr hC (frm_refl wM)).S.1.2.2.2.1
      have e9 := (h.ny hM).2.2
      have hbb : bc = bm := by rcases hb with hb | hb; exact hb; exact absurd hb.2 (by omega)
      refine ⟨bc, w, w9, ?_, ?_, hC, hM, hz⟩
      · simp (disch := omega) only [p_X8_bestPlace_12, e4, lt32_o]
        rw [if_neg (by omega)]
      · simp (disch := omega) only [p_X9_bestPlace_21, e9, lt32_o]
        rw [if_neg (show ¬ inb 9 1099 = false by decide), if_neg (by omega), hbb]
    | succ m ih =>
      intro n t bc bm mo w w9 t0 t1 hn hb hm0 hm1 hC hM hz
      obtain ⟨n', rfl⟩ : ∃ n', n = n' + 1 := ⟨n - 1, by omega⟩
      have hR := h.fr hC hM
      have e4 : gF w 100 4 = gA wM 51 9 := (h.fr hC (frm_refl wM)).S.1.2.2.2.1
      have e9 := (h.ny hM).2.2
      have ct : 0 ≤ t ∧ t < gA wM 51 9 := ⟨t0, by omega⟩
      obtain ⟨hsel, hs9⟩ := mvF_sel h.B c ct
      have hV' := hsel.VB h.B
      have hnl := nL_rng hV'
      have hw10 := hV'.w
      obtain ⟨w1, a1, a2, a3⟩ := moved_o hR (p := x) (t := t) (by rw [e9]; exact c) (by rw [e9]; exact ct) (g := mvF (gA wM 51) x t) (by rw [e9]; exact hsel) (by rw [e9]; exact hs9)
      obtain ⟨w2, b1, b2'⟩ := lot_o hV' a3
      obtain ⟨m1, c1, c2, c3, c4⟩ := as9 h hM
      obtain ⟨e1, e2, e3⟩ := h.ny c2
      obtain ⟨m2, d1, d2, d3⟩ := moveNow9 h.B e2 e3 c ct
      obtain ⟨m3, m4, y1, y2, y3, y4⟩ := wi9 h (frm_trans (frm_5 c2) (frm_mono d2 (fun _ _ h => absurd h id) (fun o h => by unfold TM5 TMf; omega))) (fun i i0 i1 => (d2.2.1 55 (by decide) i).trans (c3 i i0 i1)) d3 hV' (mvF_Z h.B c ct h.z)
      have hC2 := frm_trans hC (frm_trans a2 (frm_L20 b2'))
      have hz2 : gF m4 50 0 = 0 := y4.trans ((d2.1 50 0 id).trans (c4.trans hz))
      by_cases g : mo < nLF (mvF (gA wM 51) x t)
      · obtain ⟨r, w', w9', f1, f2, f3, f4, f5⟩ := ih n' (t + 1) t t (nLF (mvF (gA wM 51) x t)) w2 m4 (by omega) (by omega) (by omega) (Or.inl rfl) (by omega) (by omega) hC2 y3 hz2
        refine ⟨r, w', w9', ?_, ?_, f3, f4, f5⟩
        · simp (disch := omega) only [p_X8_bestPlace_12, e4, lt32_o]
          rw [if_pos ct.2, a1, Option.bind_some, b1, Option.bind_some]
          dsimp only
          rw [if_pos (show lt32 mo (nLF (mvF (gA wM 51) x t)) = true by rw [lt32_o (by omega)]; exact g)]
          exact f1
        · simp (disch := omega) only [p_X9_bestPlace_21, e9, lt32_o]
          rw [if_neg (show ¬ inb 9 1099 = false by decide), if_pos ct.2, c1, Option.bind_some, d1, Option.bind_some, y1, Option.bind_some]
          dsimp only
          rw [y2, Option.bind_some]
          dsimp only
          rw [if_pos (show lt32 mo (nLF (mvF (gA wM 51) x t)) = true by rw [lt32_o (by omega)]; exact g)]
          unfold p_X9_bestPlace_66
          rw [mx32_o (by omega), show max mo (nLF (mvF (gA wM 51) x t)) = nLF (mvF (gA wM 51) x t) by omega]
          exact f2
      · have hbb : bc = bm := by rcases hb with hb | hb; exact hb; exact absurd hb.1 (by omega)
        obtain ⟨r, w', w9', f1, f2, f3, f4, f5⟩ := ih n' (t + 1) bc bm mo w2 m4 (by omega) (by omega) (by omega) (Or.inl hbb) hm0 hm1 hC2 y3 hz2
        refine ⟨r, w', w9', ?_, ?_, f3, f4, f5⟩
        · simp (disch := omega) only [p_X8_bestPlace_12, e4, lt32_o]
          rw [if_pos ct.2, a1, Option.bind_some, b1, Option.bind_some]
          dsimp only
          rw [if_neg (show ¬ lt32 mo (nLF (mvF (gA wM 51) x t)) = true by rw [lt32_o (by omega)]; exact g)]
          exact f1
        · simp (disch := omega) only [p_X9_bestPlace_21, e9, lt32_o]
          rw [if_neg (show ¬ inb 9 1099 = false by decide), if_pos ct.2, c1, Option.bind_some, d1, Option.bind_some, y1, Option.bind_some]
          dsimp only
          rw [y2, Option.bind_some]
          dsimp only
          rw [if_neg (show ¬ lt32 mo (nLF (mvF (gA wM 51) x t)) = true by rw [lt32_o (by omega)]; exact g)]
          unfold p_X9_bestPlace_66
          rw [mx32_o (by omega), show max mo (nLF (mvF (gA wM 51) x t)) = mo by omega]
          exact f2
  unfold p_X8_bestPlace p_X9_bestPlace
  rw [needPart_o h hx, isPart_o h.f h.B hx, Option.bind_some]
  dsimp only
  rw [passes_o, Option.bind_some]
  simp only [eq32_b2]
  by_cases c : 0 ≤ x ∧ x < gA wM 51 9
  · rw [if_pos c, decide_eq_true c, if_neg (show ¬ true = false by decide), bindG_l]
    obtain ⟨r, w', w9', f1, f2, f3, f4, f5⟩ := key c (gA wM 51 9).toNat FU 0 x (-1) (-1) wC (sF wM 50 0 (b2 (!true))) (Int.le_refl _) (by omega) (by have : FU = 1000000 := rfl; omega) (Or.inr ⟨rfl, by omega⟩) (by decide) (by decide) (frm_refl _) (frmM_0 _ _) rfl
    exact wok (r := r) (na' := na) (wC' := w') (wM' := w9') f1 f2 f5 (h.fr f3 f4)
  · rw [if_neg c, decide_eq_false c, if_pos rfl, bindG_r]
    exact wex (h := hnd1 3) (f := fun r w => sA w 34 0 (w32 r)) (e := 3) (na' := na) (wC' := wC) rfl rfl rfl (Or.inl rfl) rfl (h.fr (frm_refl _) (frmM_0 _ _))
theorem stay_end (h : RR k na wC wM) {wC1 wM1 : Wd} {f' : Rw} (hC : frm SCf TCf wC wC1) (hS : RS wC1 116 f') (hM : frm SMf TM5 wM wM1) (hK : KEP wM1 (gA wM 51)) (hA : ASI wM1 (gA wM 51)) (h51 : gA wM1 51 = f') (hV : VB f') (hZ : Z0 f') (h2 : 2 ≤ f' 1) (h38 : ∀ i, 3 ≤ i → i ≤ 8 → f' i = gA wM 51 i) (ht1 : gF wM1 50 0 = 0) {hh : Nat → Option Int} (h1 : hh 1 = some 2) {p8 : Option Rz} {pM : Option (Int × Wd)}
    (h8 : p8 = (bindG (p_X8_needCarvedStay na wC1) fun _ n8 w9 => bindG (p_X8_settle n8 w9) fun _ n13 w14 => some (Sum.inl (gF w14 10 4), n13, w14)))
    (h9 : pM = (p_X9_stays wM1).bind fun a => (p_X9_passes2 1 a.1 a.2).bind fun b => if eq32 b.1 0 then some (0, b.2) else some (gF b.2 50 6, b.2)) :
    ∃ z, ((p8.bind (wrL hh (fun r w => sA w 34 0 (w32 r)))).bind fun z1 => pM.bind fun m3 => (p_X9_thrown m3.2).bind fun m4 => if eq32 m4.1 z1.1 = true then (if eq32 z1.1 0 = true then (if eq32 (lcm64 (gA z1.2.2 34 0) (w32 m3.1)) 0 = true then (some (z1.2.1, z1.2.2, m4.2)) else (none)) else (some (z1.2.1, z1.2.2, m4.2))) else (none)) = some z ∧ RR (k + 1) z.1 z.2.1 z.2.2 := by
  have hst := op_stay h hC hS hM hK hA h51 hV hZ h2 h38 (fun n13 w14 => some (Sum.inl (gF w14 10 4), n13, w14))
  rcases hst with ⟨na', wC', wM', s1, s2, s3, s4, s5, s6⟩ | ⟨wC', wM', s1, s2, s3⟩
  · have hp2 := passes2_l (q := true) (w := wM')
    have e9 : pM = some (nLF f', sF wM' 50 0 0) := by
      rw [h9, s2, Option.bind_some]
      dsimp only
      rw [show (1 : Int) = b2 true from rfl] at hp2 ⊢
      rw [hp2, Option.bind_some]
      dsimp only
      rw [if_neg (show ¬ eq32 (b2 true) 0 = true by decide +kernel), ← s5]; rfl
    have e8 : p8 = some (.inl (nLF f'), na', wC') := by
      rw [h8, s1, show gF wC' 10 4 = nLF f' by rw [← s4]; exact s3.L.1.1]
    exact wok e8 e9 rfl (s3.fr (frm_refl _) (frmM_0 _ _))
  · have hp2 := passes2_l (q := false) (w := wM')
    have e9 : pM = some (0, sF wM' 50 0 2) := by
      rw [h9, s2, Option.bind_some]
      dsimp only
      rw [show (0 : Int) = b2 false from rfl] at hp2 ⊢
      rw [hp2, Option.bind_some]
      rfl
    exact wex (h8.trans s1) e9 h1 (Or.inr rfl) rfl ((s3.fr (frm_refl _) (frmM_0 _ _)).mono (Nat.le_succ k))
theorem op35 (h : RR k na wC wM) : ∃ z, p_op_35 xs i na wC wM = some z ∧ RR (k + 1) z.1 z.2.1 z.2.2 := by
  unfold p_op_35 p_L_dropPart
  have hx := sc_rng xs (i + 1)
  generalize sc xs (i + 1) = x at *
  unfold p_X8_dropPart p_X9_dropPart
  rw [needPart_o h hx, isPart_o h.f h.B hx, Option.bind_some]
  dsimp only
  rw [passes2_r, Option.bind_some]
  simp only [eq32_b2]
  by_cases c : 0 ≤ x ∧ x < gA wM 51 9
  · rw [if_pos c, decide_eq_true c, if_neg (show ¬ true = false by decide), bindG_l]
    obtain ⟨vB, v1, v3, v4, v5, v6, v7, v8⟩ := h.V
    have hsel := tpF_sel h.B c
    have hV' := hsel.VB h.B
    obtain ⟨w1, a1, a2, a3⟩ := without_o h c hsel (tpF_9 h.B c).1
    obtain ⟨m1, c1, c2, c3, c3', c4⟩ := begin_o h (frmM_0 wM (b2 (!true)))
    obtain ⟨e1, e2, e3⟩ := h.ny c2
    obtain ⟨m2, d1, d2, d3⟩ := takePart9 h.B e2 e3 c
    rw [a1, Option.bind_some, c1, Option.bind_some, d1, Option.bind_some]
    exact stay_end h (wC1 := w1) (wM1 := m2) (f' := tpF (gA wM 51) x) a2 a3 (frm_trans (frm_5 c2) (frm_mono d2 (fun _ _ h => absurd h id) (fun o h => Or.inr h)))
      ⟨(d2.1 50 16 id).trans c3.1, fun u u0 u1 => ⟨(d2.2.1 57 (by decide) u).trans (c3.2 u u0 u1).1, (d2.2.1 58 (by decide) u).trans (c3.2 u u0 u1).2.1, fun j j0 j1 => (d2.2.1 59 (by decide) _).trans ((c3.2 u u0 u1).2.2 j j0 j1)⟩⟩
      (fun i i0 i1 => (d2.2.1 55 (by decide) i).trans (c3' i i0 i1)) d3 hV' (tpF_Z h.B c h.z) (by rw [hsel.1 1 (by omega)]; exact v1) (fun i i0 i1 => hsel.1 i (by omega)) ((d2.1 50 0 id).trans c4) rfl rfl rfl
  · rw [if_neg c, decide_eq_false c, if_pos rfl, bindG_r]
    exact wex (h := hnd2 3 1) (f := fun r w => sA w 34 0 (w32 r)) (e := 3) (na' := na) (wC' := wC) rfl rfl rfl (Or.inl rfl) rfl ((h.fr (frm_refl _) (frmM_0 _ _)).mono (Nat.le_succ k))
theorem op36 (h : RR k na wC wM) : ∃ z, p_op_36 xs i na wC wM = some z ∧ RR (k + 1) z.1 z.2.1 z.2.2 := by
  unfold p_op_36 p_L_movePart
  have hx := sc_rng xs (i + 1)
  have hy := sc_rng xs (i + 2)
  generalize sc xs (i + 1) = x at *
  generalize sc xs (i + 2) = y at *
  have hbad : p_X9_movePart_22 x y 0 wM = some (0, sF wM 50 0 1) := by
    unfold p_X9_movePart_22
    have hp2 := passes2_r (p := false) (w := wM)
    rw [show p_X9_passes2 0 1 wM = some (0, sF wM 50 0 1) from hp2, Option.bind_some]
    rfl
  unfold p_X8_movePart p_X9_movePart p_X9_movePart_21
  rw [needPart_o h hx, isPart_o h.f h.B hx, Option.bind_some]
  dsimp only
  rw [hbad]
  simp only [eq32_b2]
  by_cases c : 0 ≤ x ∧ x < gA wM 51 9
  · rw [if_pos c, decide_eq_true c, if_neg (show ¬ true = false by decide), bindG_l, needPart_o h hy, isPart_o h.f h.B hy, Option.bind_some]
    dsimp only
    simp only [eq32_b2]
    by_cases ct : 0 ≤ y ∧ y < gA wM 51 9
    · rw [if_pos ct, decide_eq_true ct, if_neg (show ¬ true = false by decide), bindG_l]
      obtain ⟨vB, v1, v3, v4, v5, v6, v7, v8⟩ := h.V
      obtain ⟨hsel, hs9⟩ := mvF_sel h.B c ct
      have hV' := hsel.VB h.B
      obtain ⟨w1, a1, a2, a3⟩ := moved_o h c ct hsel hs9
      obtain ⟨m1, c1, c2, c3, c3', c4⟩ := begin_o h (frmM_0 wM 0)
      obtain ⟨e1, e2, e3⟩ := h.ny c2
      obtain ⟨m2, d1, d2, d3⟩ := moveNow9 h.B e2 e3 c ct
      have hM : p_X9_movePart_22 x y 1 wM = (p_X9_stays m2).bind fun a => (p_X9_passes2 1 a.1 a.2).bind fun b => if eq32 b.1 0 then some (0, b.2) else some (gF b.2 50 6, b.2) := by
        unfold p_X9_movePart_22
        have hp2 := passes2_r (p := true) (w := wM)
        rw [show p_X9_passes2 1 1 wM = some (1, sF wM 50 0 0) from hp2, Option.bind_some]
        dsimp only
        rw [if_neg (show ¬ eq32 1 0 = true by decide +kernel), c1, Option.bind_some, d1, Option.bind_some]
      rw [a1, Option.bind_some, hM]
      exact stay_end h (wC1 := w1) (wM1 := m2) (f' := mvF (gA wM 51) x y) a2 a3 (frm_trans (frm_5 c2) (frm_mono d2 (fun _ _ h => absurd h id) (fun o h => by unfold TM5 TMf; omega)))
        ⟨(d2.1 50 16 id).trans c3.1, fun u u0 u1 => ⟨(d2.2.1 57 (by decide) u).trans (c3.2 u u0 u1).1, (d2.2.1 58 (by decide) u).trans (c3.2 u u0 u1).2.1, fun j j0 j1 => (d2.2.1 59 (by decide) _).trans ((c3.2 u u0 u1).2.2 j j0 j1)⟩⟩
        (fun i i0 i1 => (d2.2.1 55 (by decide) i).trans (c3' i i0 i1)) d3 hV' (mvF_Z h.B c ct h.z) (by rw [hsel.1 1 (by omega)]; exact v1) (fun i i0 i1 => hsel.1 i (by omega)) ((d2.1 50 0 id).trans c4) rfl rfl rfl
    · rw [if_neg ct, decide_eq_false ct, if_pos rfl, bindG_r]
      exact wex (h := hnd2 3 1) (f := fun r w => sA w 34 0 (w32 r)) (e := 3) (na' := na) (wC' := wC) rfl rfl rfl (Or.inl rfl) rfl ((h.fr (frm_refl _) (frmM_0 _ _)).mono (Nat.le_succ k))
  · rw [if_neg c, decide_eq_false c, if_pos rfl, bindG_r]
    exact wex (h := hnd2 3 1) (f := fun r w => sA w 34 0 (w32 r)) (e := 3) (na' := na) (wC' := wC) rfl rfl rfl (Or.inl rfl) rfl ((h.fr (frm_refl _) (frmM_0 _ _)).mono (Nat.le_succ k))
end WO
