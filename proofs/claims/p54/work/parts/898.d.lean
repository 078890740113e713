section AQ
variable {k na : Nat} {wC wM : Wd} {xs : Nat → Int32} {i : Int}
theorem add_ext {f g : Rw} {x c : Int} (hV : VB f) (h9 : f 9 < 10) (hg : AGF f g) (hVg : VB (nrm (opW g x c))) (h10 : g 10 = f 10 + c) (hc : 0 ≤ c) : laF f (nLF f) ≤ laF (nrm (opW g x c)) (nLF (nrm (opW g x c))) := by
  have hp := hV.p
  have hw := hV.w
  have hcc := hV.c
  have hrr := hV.r
  have g9 : g 9 = f 9 := hg 9 (by decide) (by decide) (by omega)
  have e : ∀ j, 0 ≤ j → j ≠ 9 → j ≠ 10 → (j < 299 + 2 * f 9 ∨ 319 ≤ j) → j < 319 + 13 * f 10 → nrm (opW g x c) j = f j := fun j j0 j9 j10 j1 j2 => by
    rw [nrm_i ⟨j0, by omega⟩, opW_n (by rw [g9]; omega)]; exact hg j j0 j10 j2
  have n9 : nrm (opW g x c) 9 = f 9 + 1 := (nrm_i (by decide)).trans (opW_9.trans (by rw [g9]))
  have n10 : nrm (opW g x c) 10 = f 10 + c := (nrm_i (by decide)).trans ((opW_n (by rw [g9]; omega)).trans h10)
  have hE : EXT f (nrm (opW g x c)) (f 9) (f 10) := by
    refine ⟨⟨(e 0 (by decide) (by decide) (by decide) (by omega) (by omega)).symm, (e 1 (by decide) (by decide) (by decide) (by omega) (by omega)).symm, (e 2 (by decide) (by decide) (by decide) (by omega) (by omega)).symm⟩, fun a b => ?_, fun p p0 p1 => ⟨?_, ?_⟩, fun v v0 v1 => ?_⟩
    · unfold flF isCF
      rw [e 0 (by decide) (by decide) (by decide) (by omega) (by omega), e 1 (by decide) (by decide) (by decide) (by omega) (by omega)]
      by_cases q : 0 ≤ a ∧ a < f 0 ∧ 0 ≤ b ∧ b < f 1
      · rw [show fcF (nrm (opW g x c)) a b = fcF f a b from e _ (by omega) (by omega) (by omega) (by omega) (by omega)]
      · rw [decide_eq_false q]; rfl
    · exact (e _ (by omega) (by omega) (by omega) (by omega) (by omega)).symm
    · exact (e _ (by omega) (by omega) (by omega) (by omega) (by omega)).symm
    · exact (e _ (by omega) (by omega) (by omega) (by omega) (by omega)).symm
  have h1 := lyF_ext hE hV (Int.le_refl _) (Int.le_refl _) (f 9).toNat 0 L0 (Int.le_refl _) (by omega) (by rw [Int.zero_add, Int.toNat_of_nonneg hp.1, hV.fir]; exact Int.le_refl _) VS_0
  have h2 := lyF_more (f := nrm (opW g x c)) (f 9).toNat 0 L0
  rw [← h1] at h2
  have h3 : nLF f ≤ nLF (nrm (opW g x c)) := by
    unfold nLF lF
    rw [n9, show (f 9 + 1).toNat = (f 9).toNat + 1 by omega]
    exact h2
  have r1 := nL_rng hV
  have r2 := nL_rng hVg
  have h4 := laF_mono hVg h3 (by omega)
  have h5 : laF (nrm (opW g x c)) (nLF f) = laF f (nLF f) := sm_congr _ fun j j0 j1 => e _ (by omega) (by omega) (by omega) (by omega) (by omega)
  omega
theorem op34 (h : RR k na wC wM) : ∃ z, p_op_34 xs i na wC wM = some z ∧ RR (k + 1) z.1 z.2.1 z.2.2 := by
  unfold p_op_34 p_L_addPart
  have hx := sc_rng xs (i + 1)
  generalize sc xs (i + 1) = x at *
  have hx' := hx
  unfold rng at hx'
  have hV := h.B
  have hp9 := hV.p
  have hw10 := hV.w
  obtain ⟨w1, w2, m2, a1, a2, a3, a4⟩ := add_go h hx
  obtain ⟨m3, hm3⟩ : ∃ m3, m3 = sF (sF (sP m2 50 3 51) 50 24 (gF wM 50 24)) 50 25 (gF wM 50 25) := ⟨_, rfl⟩
  have p3 : ∀ o j, gP m3 o j = gP wM o j := fun o j => by
    rw [hm3, gP_sF, gP_sF, gP_sP]
    by_cases q : o = 50 ∧ j = 3
    · rw [if_pos q, q.1, q.2]; exact h.pp.symm
    · rw [if_neg q, a3.2.2.1, if_neg q]
  have e24 : gF m3 50 24 = gF wM 50 24 := by rw [hm3, gF_sF, if_neg (by decide), gF_sF, if_pos ⟨rfl, rfl⟩]
  have e25 : gF m3 50 25 = gF wM 50 25 := by rw [hm3, gF_sF, if_pos ⟨rfl, rfl⟩]
  have eX : ∀ o l, ¬ (o = 50 ∧ 18 ≤ l ∧ l ≤ 27) → gF m3 o l = gF wM o l := fun o l hl => by
    rw [hm3, gF_sF, if_neg (by omega), gF_sF, if_neg (by omega), gF_sP]; exact a3.1 o l hl
  have e18 : gF m3 50 18 = 0 := by rw [hm3, gF_sF, if_neg (by decide), gF_sF, if_neg (by decide), gF_sP]; exact a3.2.2.2
  have eA : ∀ o j, gA m3 o j = gA m2 o j := fun o j => by rw [hm3]; rfl
  have fW : frm SCe TCf wC (sF w2 2 1 0) := frm_sF (frm_mono a2 (fun o l q => by unfold SPa at q; unfold SCe SCf; omega) (fun o q => by unfold TPc at q; unfold TCf; omega)) (Or.inr (Or.inl ⟨rfl, rfl⟩))
  have fM : ∀ v : Int, frm SMe TMf wM (sF m3 50 0 v) := fun v => by
    refine ⟨fun o l hl => ?_, fun o ho j => ?_, fun o j => p3 o j⟩
    · rw [gF_sF, if_neg (by unfold SMe at hl; omega)]; exact eX o l (by unfold SMe at hl; omega)
    · rw [gA_sF, eA]; exact a3.2.1 o (fun q => ho (by rw [q]; unfold TMf; omega)) j
  have hI : ∀ v : Int, INr (sF w2 2 1 0) (sF m3 50 0 v) := fun v => by
    have e : gF (sF m3 50 0 v) 50 18 = 0 := e18
    refine ⟨by rw [e]; rfl, by rw [e]; decide, fun j j0 j1 => ?_⟩
    rw [e] at j1
    exact absurd j1 (by omega)
  have w91 : gF w2 9 1 = gF wC 9 1 := a2.1 9 1 (by unfold SPa; omega)
  have w92 : gF w2 9 2 = gF wC 9 2 := a2.1 9 2 (by unfold SPa; omega)
  have hEr : ∀ v : Int, ERr (sF w2 2 1 0) (sF m3 50 0 v) := fun v => by
    have hq := h.2.2.2.2.2.2.2.1
    exact ⟨w91.trans (hq.1.trans e24.symm), w92.trans (hq.2.trans e25.symm)⟩
  have hRR : ∀ v : Int, RR (k + 1) na (sF w2 2 1 0) (sF m3 50 0 v) := fun v => (h.er fW (fM v) (hI v) (hEr v)).mono (Nat.le_succ k)
  have g4 : gF (sF w2 2 1 0) 100 4 = gA wM 51 9 := (a2.1 100 4 (by unfold SPa; omega)).trans h.S.1.2.2.2.1
  have g7 : gF (sF w2 2 1 0) 100 7 = gA wM 51 10 := (a2.1 100 7 (by unfold SPa; omega)).trans h.S.1.2.2.2.2.1
  have n9 : gA m3 51 9 = gA wM 51 9 := (eA 51 9).trans (a3.2.1 51 (by decide) 9)
  have n10 : gA m3 51 10 = gA wM 51 10 := (eA 51 10).trans (a3.2.1 51 (by decide) 10)
  have hcl : ∀ c, p_X8_takeInputWords x w1 = some (c, w2) → p_X8_addPart x na wC = if eq32 c 0 = true then some (.inr 2, na, sF w2 2 1 0) else if lt32 x 0 = true then some (.inr 2, na, sF w2 2 1 0) else if lt32 2 x = true then some (.inr 2, na, sF w2 2 1 0) else
      if lt32 (gA wM 51 9) 10 = true then (if lt32 60 (gA wM 51 10 + c) = true then some (.inr 1, na, sF w2 2 1 0) else bindG (p_X8_settle na (sF w2 2 1 0)) fun _ n5 w6 => some (Sum.inl ((gF w6 100 4) - 1), n5, w6)) else some (.inr 1, na, sF w2 2 1 0) := fun c hc => by
    unfold p_X8_addPart p_X8_addPart_38 p_X8_addPart_72
    rw [a1, Option.bind_some, hc, Option.bind_some]
    dsimp only
    rw [g4, g7]
  rcases a4 with ⟨c, c0, c1, d1, d2, B, N, hAL⟩ | ⟨x6, d1, d2, hx6⟩
  · obtain ⟨hP, hp52, -, -, -, -, -, hq⟩ := hAL
    have hgd : p_X9_good m2 = some (b2 true, m2) := good_o hP.2.2.1
    obtain ⟨q, f1, f2⟩ := a223_o (x := x) (x5 := gA wM 51 10) (x6 := c) (s0 := b2 (decide (0 ≤ x ∧ x ≤ 2) && true)) n9 n10
    have f2' := f2 hp9.1 hp9.2 hw10.1 hw10.2 (by omega) c1
    rw [a183_o hgd, ← hm3, f1] at d2
    have hcl' := hcl c d1
    rw [if_neg (show ¬ eq32 c 0 = true by rw [eq32_o (by omega)]; omega)] at hcl'
    by_cases e1 : 0 ≤ x ∧ x ≤ 2
    · rw [if_neg (show ¬ lt32 x 0 = true by rw [lt32_o (by omega)]; omega), if_neg (show ¬ lt32 2 x = true by rw [lt32_o (by omega)]; omega)] at hcl'
      rw [decide_eq_true e1] at d2
      by_cases e2 : gA wM 51 9 < 10 ∧ gA wM 51 10 + c ≤ 60
      · rw [if_pos (show lt32 (gA wM 51 9) 10 = true by rw [lt32_o (by omega)]; omega), if_neg (show ¬ lt32 60 (gA wM 51 10 + c) = true by rw [lt32_o (by omega)]; omega)] at hcl'
        rw [f2', decide_eq_true e2] at d2
        obtain ⟨r1, r2, r3, r4⟩ := hq e2.1 e2.2
        have h9g : gA m2 52 9 = gA wM 51 9 := r4 9 (by decide) (by decide) (by omega)
        have he := h.er ((frm_sF (frm_refl wC) (Or.inr (Or.inl ⟨rfl, rfl⟩))) : frm SCe TCf wC (sF wC 2 1 0)) (frm_sF (frm_refl wM) ⟨rfl, by decide, by decide⟩ : frm SMe TMf wM (sF wM 50 18 0))
          ⟨rfl, ⟨Int.le_refl 0, show (0 : Int) ≤ 500 by decide⟩, fun j j0 j1 => absurd j1 (by show ¬ j < 0; omega)⟩ h.2.2.2.2.2.2.2.1
        have hfM : frm SMf TMf (sF wM 50 18 0) (sF m3 50 0 0) := by
          refine ⟨fun o l hl => ?_, fun o ho j => (fM 0).2.1 o ho j, fun o j => (fM 0).2.2 o j⟩
          rw [gF_sF, gF_sF]
          by_cases q18 : o = 50 ∧ l = 18
          · rw [if_pos q18, q18.1, q18.2, if_neg (by decide)]; exact e18
          · rw [if_neg q18, if_neg (by unfold SMf at hl; omega)]
            by_cases q24 : o = 50 ∧ l = 24
            · rw [q24.1, q24.2]; exact e24
            · by_cases q25 : o = 50 ∧ l = 25
              · rw [q25.1, q25.2]; exact e25
              · exact eX o l (by unfold SMf at hl; omega)
        have hfC : frm SCf TCf (sF wC 2 1 0) (sF w2 2 1 0) := by
          refine ⟨fun o l hl => ?_, fun o ho j => fW.2.1 o ho j, fun o j => fW.2.2 o j⟩
          rw [gF_sF, gF_sF]
          by_cases q0 : o = 2 ∧ l = 1
          · rw [if_pos q0, if_pos q0]
          · rw [if_neg q0, if_neg q0]; exact a2.1 o l (by unfold SCf at hl; unfold SPa; omega)
        obtain ⟨m4, b1, b2', b3⟩ := he.rem hfM
        have n52 : gA m4 52 = gA m2 52 := funext fun j => (b2'.2.1 52 (by decide) j).trans (eA 52 j)
        have h9' : gA m2 52 9 < 10 := by omega
        have h9'' : 0 ≤ gA m2 52 9 := by omega
        obtain ⟨m5, l1, l2, l3⟩ := addPartOf_o (m := sP m4 50 3 52) (f := gA m2 52) (kind := x) (W0 := gA wM 51 10) (by rw [gP_sP, if_pos ⟨rfl, rfl⟩]) (by rw [← n52]; rfl) ⟨h9'', h9'⟩
        rw [show gA m2 52 10 - gA wM 51 10 = c by omega] at l3
        have hVo : VB (opW (gA m2 52) x c) := by
          have := r3.close e1 (by omega)
          rw [show gA m2 52 10 - gA wM 51 10 = c by omega] at this
          exact this
        have hVB := VB_nrm hVo
        have hS' : RS (sF w2 2 1 0) 116 (nrm (opW (gA m2 52) x c)) := (RS_nrm hVo r1).fr (frm_sF (frm_refl w2) ⟨rfl, rfl⟩ : frm (fun o l => o = 2 ∧ l = 1) T0 w2 (sF w2 2 1 0)) (fun d l _ q => by omega) (fun d _ q => q)
        have hxi : ∀ j, 0 ≤ j → j < 9 → nrm (opW (gA m2 52) x c) j = gA wM 51 j := fun j j0 j1 => (nrm_i ⟨j0, by omega⟩).trans ((opW_n (by omega)).trans (r4 j j0 (by omega) (by omega)))
        have hVF : VF (k + 1) (nrm (opW (gA m2 52) x c)) := by
          obtain ⟨vB, v1, v3, v4, v5, v6, v7, v8⟩ := h.V
          have hl := add_ext hV e2.1 r4 hVB r2 (by omega)
          refine ⟨hVB, ?_, ?_, ?_, ?_, ?_, ?_, ?_⟩
          · rw [hxi 1 (by decide) (by decide)]; exact v1
          · rw [hxi 3 (by decide) (by decide)]; exact v3
          · rw [hxi 4 (by decide) (by decide)]; exact v4
          · rw [hxi 5 (by decide) (by decide), hxi 3 (by decide) (by decide)]; exact v5
          · rw [hxi 6 (by decide) (by decide)]; omega
          · rw [hxi 7 (by decide) (by decide)]; omega
          · rw [hxi 8 (by decide) (by decide)]; omega
        have e52' : gA (sP m5 50 3 51) 52 = opW (gA m2 52) x c := l3
        have p5 : ∀ o j, gP (sP m5 50 3 51) o j = gP m4 o j := fun o j => by
          rw [gP_sP]
          by_cases q : o = 50 ∧ j = 3
          · rw [if_pos q, q.1, q.2]; exact b3.1.symm
          · rw [if_neg q, l2.2.2, gP_sP, if_neg q]
        have A51 : ∀ j, gA (sP m5 50 3 51) 51 j = gA m4 51 j := fun j => l2.2.1 51 (by decide) j
        have e51 : gA (setR (sP m5 50 3 51) 51 (fun j => if 0 ≤ j ∧ j < 1099 then gA (sP m5 50 3 51) 52 j else gA (sP m5 50 3 51) 51 j)) 51 = nrm (opW (gA m2 52) x c) := funext fun j => by
          rw [gA_setR, if_pos rfl]
          unfold nrm
          by_cases q : 0 ≤ j ∧ j < 1099
          · rw [if_pos q, if_pos q, e52']
          · rw [if_neg q, if_neg q, A51, b3.2.1]; exact he.z j q
        have hfr : frm SMf TM5 m4 (setR (sP m5 50 3 51) 51 (fun j => if 0 ≤ j ∧ j < 1099 then gA (sP m5 50 3 51) 52 j else gA (sP m5 50 3 51) 51 j)) := by
          refine ⟨fun o l _ => l2.1 o l id, fun o ho j => ?_, fun o j => p5 o j⟩
          rw [gA_setR, if_neg (fun q => ho (Or.inr q))]
          exact l2.2.1 o (fun q => ho (Or.inl (by rw [q]; unfold TMf; omega))) j
        have hM4 := b3.up hfr e51
        obtain ⟨na', wC', s1, s2⟩ := he.settle hfC hS' hVF (nrm_Z _) hM4
        have hn9 : nrm (opW (gA m2 52) x c) 9 = gA wM 51 9 + 1 := (nrm_i (by decide)).trans (opW_9.trans (by rw [h9g]))
        have c4 : gF wC' 100 4 = gA wM 51 9 + 1 := s2.S.1.2.2.2.1.trans ((congrFun e51 9).trans hn9)
        have ht : gF (setR (sP m5 50 3 51) 51 (fun j => if 0 ≤ j ∧ j < 1099 then gA (sP m5 50 3 51) 52 j else gA (sP m5 50 3 51) 51 j)) 50 0 = 0 := by
          have t1 : gF m5 50 0 = gF m4 50 0 := l2.1 50 0 id
          have t2 : gF m4 50 0 = 0 := (b2'.1 50 0 (by decide)).trans (by rw [gF_sF, if_pos ⟨rfl, rfl⟩])
          exact t1.trans t2
        refine wok (p8 := p_X8_addPart x na wC) (r := gA wM 51 9 + 1 - 1) (na' := na') (wC' := wC') (wM' := setR (sP m5 50 3 51) 51 (fun j => if 0 ≤ j ∧ j < 1099 then gA (sP m5 50 3 51) 52 j else gA (sP m5 50 3 51) 51 j)) ?_ ?_ ht s2
        · rw [hcl', s1, bindG_l, c4]
        · rw [d2]
          unfold p_X9_addPart_255
          rw [passes2_o, Option.bind_some]
          dsimp only
          rw [if_neg (show ¬ eq32 (b2 ((true && true) && true)) 0 = true by decide +kernel), show (if (true && true : Bool) = true then (if (true : Bool) = true then (0 : Int) else 2) else 1) = 0 from rfl, b1, Option.bind_some, l1, Option.bind_some, takeDraft_o, Option.bind_some, if_neg (show ¬ (inb 9 1099 = false) by decide), congrFun e51 9, hn9]
      · rw [f2', decide_eq_false e2, a255_f (by rfl)] at d2
        refine wex (p8 := p_X8_addPart x na wC) (h := hnd2 2 1) (f := fun r w => sA w 34 0 (w32 r)) (e := 1) (c := 2) (na' := na) (wC' := sF w2 2 1 0) ?_ d2 rfl (Or.inr rfl) rfl (hRR 2)
        rw [hcl']
        by_cases e3 : lt32 (gA wM 51 9) 10 = true
        · rw [if_pos e3]
          rw [lt32_o (by omega)] at e3
          rw [if_pos (show lt32 60 (gA wM 51 10 + c) = true by rw [lt32_o (by omega)]; omega)]
        · rw [if_neg e3]
    · rw [decide_eq_false e1, a255_f (by rfl)] at d2
      refine wex (p8 := p_X8_addPart x na wC) (h := hnd2 2 1) (f := fun r w => sA w 34 0 (w32 r)) (e := 2) (c := 1) (na' := na) (wC' := sF w2 2 1 0) ?_ d2 rfl (Or.inl rfl) rfl (hRR 1)
      rw [hcl']
      by_cases e3 : lt32 x 0 = true
      · rw [if_pos e3]
      · rw [if_neg e3]
        rw [lt32_o (by omega)] at e3
        rw [if_pos (show lt32 2 x = true by rw [lt32_o (by omega)]; omega)]
  · have hgd : p_X9_good m2 = some (b2 false, m2) := good_x hx6
    obtain ⟨q, f1, f2⟩ := a223_o (x := x) (x5 := gA wM 51 10) (x6 := x6) (s0 := b2 (decide (0 ≤ x ∧ x ≤ 2) && false)) n9 n10
    rw [a183_o hgd, ← hm3, f1, Bool.and_false, a255_f (by rfl)] at d2
    refine wex (p8 := p_X8_addPart x na wC) (h := hnd2 2 1) (f := fun r w => sA w 34 0 (w32 r)) (e := 2) (c := 1) (na' := na) (wC' := sF w2 2 1 0) ?_ d2 rfl (Or.inl rfl) rfl (hRR 1)
    rw [hcl 0 d1, if_pos e00]
end AQ
