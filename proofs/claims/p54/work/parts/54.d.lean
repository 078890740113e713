/-! ===== changes of the chisel ===== -/
def TM5 (o : Nat) : Prop := TMf o ∨ o = 51
def shO (c : Int) : Int := if c < 6 then 0 else 1
theorem iok {k : Nat} {p8 : Option Rz} {pM : Option (Int × Wd)} {na' : Nat} {wC' wM' : Wd} {r : Int} (h8 : p8 = some (.inl r, na', wC')) (hM : pM = some (r, wM')) (hR : RR k na' wC' wM') :
    ∃ z, (p8.bind fun z1 => inlO z1 fun rz1 => pM.bind fun m3 => if eq32 rz1 m3.1 = true then (some (z1.2.1, z1.2.2, m3.2)) else (none)) = some z ∧ RR k z.1 z.2.1 z.2.2 := by
  refine ⟨(na', wC', wM'), ?_, hR⟩
  rw [h8, Option.bind_some, hM]
  show (if eq32 r r = true then _ else _) = _
  rw [if_pos (eq32_self r)]
section CHX
variable {k na : Nat} {wC wM : Wd} {xs : Nat → Int32} {i : Int}
theorem RR.pa (h : RR k na wC wM) : gF wC 31 1 = gF wM 50 31 ∧ (0 ≤ gF wM 50 31 ∧ gF wM 50 31 ≤ 6) := ⟨h.2.2.2.2.2.2.2.2.1.1, h.2.2.2.2.2.2.2.2.1.2.1⟩
theorem RR.pt (h : RR k na wC wM) : PTr na wC := h.2.2.2.2.2.2.2.2.2.2.1
theorem RR.z (h : RR k na wC wM) : Z0 (gA wM 51) := h.2.2.2.2.2.2.2.2.2.2.2
theorem RR.cp (h : RR k na wC wM) : ∃ w1, p_X6_copy 116 100 wC = some w1 ∧ frm (SQ 116) (TQ 116) wC w1 ∧ frm SCf TCf wC w1 ∧ RS w1 116 (gA wM 51) := by
  obtain ⟨w1, a1, a2, a3⟩ := slab_cp (i := 1) (j := 0) (by decide) wC
  exact ⟨w1, a1, a2, frm_mono a2 (fun o k h => by unfold SQ sl at h; unfold SCf; omega) (fun o h => by unfold TQ sl at h; unfold TCf; omega), a3 _ h.B h.S⟩
theorem RR.settle (h : RR k na wC wM) {wC1 wM' : Wd} {f' : Rw} (hC1 : frm SCf TCf wC wC1) (hS' : RS wC1 116 f') (hV' : VF (k + 1) f') (hZ : Z0 f') (hM : CHM wM wM' (gF wM 50 31) (shO (gF wM 50 31)) (gA wM 51) f') :
    ∃ na' wC', p_X8_settle na wC1 = some (.inl 0, na', wC') ∧ RR (k + 1) na' wC' wM' := by
  have h1 := h.fr hC1 (frm_refl wM)
  obtain ⟨na', wC', a1, a2⟩ := settleC h1.pa.1 h1.pa.2 h1.B h1.S h1.pt hV'.1 hS'
  exact ⟨na', wC', a1, change h1 (Nat.le_succ k) rfl rfl a2 hM hV' hZ⟩
theorem RR.rem (h : RR k na wC wM) {w : Wd} (hw : frm SMf TMf wM w) : ∃ w', p_X9_remember w = some w' ∧ frm (fun a k => a = 50 ∧ k = 31) (fun a => a = 63) w w' ∧ CHM wM w' (gF wM 50 31) (shO (gF wM 50 31)) (gA wM 51) (gA wM 51) := by
  have e31 : gF w 50 31 = gF wM 50 31 := hw.1 50 31 (by unfold SMf; omega)
  obtain ⟨w', a1, a2, a3, a4, a5⟩ := rem9 (o := 51) (Or.inl rfl) e31 h.pa.2
  unfold p_X9_remember
  rw [a1, Option.bind_some]
  have n51 : gA w 51 = gA wM 51 := (h.ny hw).2.2
  have nP : ∀ j, prM w j = prM wM j := fun j => congrArg nrm (funext fun i => hw.2.1 63 (by unfold TMf; omega) _)
  refine ⟨w', rfl, a2, (a2.2.2 _ _).trans (h.ny hw).2.1, (funext fun i => a2.2.1 51 (by decide) i).trans n51, a3, fun j j0 j1 => (a4 j j0 j1).trans (nP _), ?_, ⟨?_, ?_, ?_, ?_⟩, fun i => ?_, fun i => ?_, fun i => ?_, fun i => ?_⟩
  · rw [n51, nrm_id h.z] at a5; exact a5
  · exact (a2.1 50 18 (by decide)).trans (hw.1 50 18 (by unfold SMf; omega))
  · exact (a2.1 50 24 (by decide)).trans (hw.1 50 24 (by unfold SMf; omega))
  · exact (a2.1 50 25 (by decide)).trans (hw.1 50 25 (by unfold SMf; omega))
  · exact (a2.1 50 33 (by decide)).trans (hw.1 50 33 (by unfold SMf; omega))
  · exact (a2.2.1 60 (by decide) i).trans (hw.2.1 60 (by unfold TMf; omega) i)
  · exact (a2.2.1 61 (by decide) i).trans (hw.2.1 61 (by unfold TMf; omega) i)
  · exact (a2.2.1 62 (by decide) i).trans (hw.2.1 62 (by unfold TMf; omega) i)
  · exact (a2.2.1 64 (by decide) i).trans (hw.2.1 64 (by unfold TMf; omega) i)
theorem CHM.up {w0 w w' : Wd} {c sh : Int} {f g g' : Rw} (h : CHM w0 w c sh f g) (hw : frm SMf TM5 w w') (hg : gA w' 51 = g') : CHM w0 w' c sh f g' := by
  obtain ⟨m1, m2, m3, m4, m5, ⟨m6, m7, m8, m9⟩, n1, n2, n3, n4⟩ := h
  have nP : ∀ j, prM w' j = prM w j := fun j => congrArg nrm (funext fun i => hw.2.1 63 (by unfold TM5 TMf; omega) _)
  refine ⟨(hw.2.2 _ _).trans m1, hg, (hw.1 50 31 (by unfold SMf; omega)).trans m3, fun j j0 j1 => (nP j).trans (m4 j j0 j1), (nP _).trans m5, ⟨?_, ?_, ?_, ?_⟩, fun i => ?_, fun i => ?_, fun i => ?_, fun i => ?_⟩
  · exact (hw.1 50 18 (by unfold SMf; omega)).trans m6
  · exact (hw.1 50 24 (by unfold SMf; omega)).trans m7
  · exact (hw.1 50 25 (by unfold SMf; omega)).trans m8
  · exact (hw.1 50 33 (by unfold SMf; omega)).trans m9
  · exact (hw.2.1 60 (by unfold TM5 TMf; omega) i).trans (n1 i)
  · exact (hw.2.1 61 (by unfold TM5 TMf; omega) i).trans (n2 i)
  · exact (hw.2.1 62 (by unfold TM5 TMf; omega) i).trans (n3 i)
  · exact (hw.2.1 64 (by unfold TM5 TMf; omega) i).trans (n4 i)
theorem frm_5 {w w' : Wd} (h : frm SMf TMf w w') : frm SMf TM5 w w' := frm_mono h (fun _ _ h => h) (fun _ h => Or.inl h)
theorem op42 (h : RR k na wC wM) : ∃ z, p_op_42 xs i na wC wM = some z ∧ RR (k + 1) z.1 z.2.1 z.2.2 := by
  obtain ⟨vB, v1, v3, v4, v5, v6, v7, v8⟩ := h.V
  obtain ⟨w1, a1, a2, a3, a4⟩ := h.cp
  obtain ⟨m1, b1, b2', b3⟩ := h.rem (frmM_0 wM 0)
  have hsam : SAM (gA wM 51) (upd1 (upd1 (upd1 (gA wM 51) 5 (gA wM 51 3)) 6 (gA wM 51 6 + gA wM 51 4)) 7 (gA wM 51 7 + 1)) := upd1_SAM (upd1_SAM (upd1_SAM (fun _ _ => rfl) (by decide)) (by decide)) (by decide)
  have hZ : Z0 (upd1 (upd1 (upd1 (gA wM 51) 5 (gA wM 51 3)) 6 (gA wM 51 6 + gA wM 51 4)) 7 (gA wM 51 7 + 1)) := upd1_Z (upd1_Z (upd1_Z h.z (by decide)) (by decide)) (by decide)
  have hC : CHs w1 127 (gA wM 51 3) (gA wM 51 4) (gA wM 51 5, gA wM 51 7, gA wM 51 6) := ⟨a4.2.1.1, a4.2.1.2.1, a4.2.1.2.2.1, a4.2.1.2.2.2.2, a4.2.1.2.2.2.1⟩
  obtain ⟨c0, c1, c2, c4, c3⟩ := hC
  have hh : p_X1_hone 127 w1 = some (sF (sF (sF w1 127 2 (gA wM 51 3)) 127 3 (gA wM 51 6 + gA wM 51 4)) 127 4 (gA wM 51 7 + 1)) := by
    unfold p_X1_hone
    rw [Option.bind_some, c0]
    rw [show gF (sF w1 127 2 (gA wM 51 3)) 127 3 = gA wM 51 6 from c3, show gF (sF w1 127 2 (gA wM 51 3)) 127 1 = gA wM 51 4 from c1]
    rw [show gF (sF (sF w1 127 2 (gA wM 51 3)) 127 3 (gA wM 51 6 + gA wM 51 4)) 127 4 = gA wM 51 7 from c4]
  have hfr : frm SCf TCf wC (sF (sF (sF w1 127 2 (gA wM 51 3)) 127 3 (gA wM 51 6 + gA wM 51 4)) 127 4 (gA wM 51 7 + 1)) := frm_sF (frm_sF (frm_sF a3 (by unfold SCf; omega)) (by unfold SCf; omega)) (by unfold SCf; omega)
  have hS' : RS (sF (sF (sF w1 127 2 (gA wM 51 3)) 127 3 (gA wM 51 6 + gA wM 51 4)) 127 4 (gA wM 51 7 + 1)) 116 (upd1 (upd1 (upd1 (gA wM 51) 5 (gA wM 51 3)) 6 (gA wM 51 6 + gA wM 51 4)) 7 (gA wM 51 7 + 1)) :=
    a4.sam hsam (fun k _ => rfl) a4.1.2.2.2.2.2 ⟨c0, c1, rfl, rfl, rfl⟩ (fun _ _ _ => rfl)
  have hV' : VF (k + 1) (upd1 (upd1 (upd1 (gA wM 51) 5 (gA wM 51 3)) 6 (gA wM 51 6 + gA wM 51 4)) 7 (gA wM 51 7 + 1)) := by
    refine ⟨hsam.VB vB, v1, v3, v4, ⟨by show 0 ≤ gA wM 51 3; omega, Int.le_refl (gA wM 51 3)⟩, ⟨by show 0 ≤ gA wM 51 6 + gA wM 51 4; omega, by show gA wM 51 6 + gA wM 51 4 ≤ _; omega⟩, ⟨by show 0 ≤ gA wM 51 7 + 1; omega, by show gA wM 51 7 + 1 ≤ _; omega⟩, ?_⟩
    rw [hsam.nL vB]; exact v8
  have e51 : gA m1 51 = gA wM 51 := b3.2.1
  have hM' : p_X9_sharpen wM = some (gA wM 51 5, sA (sA (sA m1 51 5 (gA wM 51 3)) 51 6 (gA wM 51 6 + gA wM 51 4)) 51 7 (gA wM 51 7 + 1)) := by
    unfold p_X9_sharpen
    rw [b1, Option.bind_some]
    simp only [show (inb 5 1099 = false) = False from by decide, show (inb 3 1099 = false) = False from by decide, show (inb 6 1099 = false) = False from by decide, show (inb 4 1099 = false) = False from by decide, show (inb 7 1099 = false) = False from by decide, if_false, Option.bind_some, e51]
    rw [show gA (sA m1 51 5 (gA wM 51 3)) 51 6 = gA wM 51 6 by rw [gA_sA, if_neg (by decide), e51], show gA (sA m1 51 5 (gA wM 51 3)) 51 4 = gA wM 51 4 by rw [gA_sA, if_neg (by decide), e51]]
    rw [show gA (sA (sA m1 51 5 (gA wM 51 3)) 51 6 (gA wM 51 6 + gA wM 51 4)) 51 7 = gA wM 51 7 by rw [gA_sA, if_neg (by decide), gA_sA, if_neg (by decide), e51]]
  have hM := b3.up (w' := sA (sA (sA m1 51 5 (gA wM 51 3)) 51 6 (gA wM 51 6 + gA wM 51 4)) 51 7 (gA wM 51 7 + 1)) (frm_sA (frm_sA (frm_sA (frm_refl m1) (Or.inr rfl)) (Or.inr rfl)) (Or.inr rfl)) (by rw [gA_upd, gA_upd, gA_upd, e51])
  obtain ⟨na', wC', s1, s2⟩ := h.settle hfr hS' hV' hZ hM
  refine iok (p8 := p_X8_sharpen na wC) (r := gA wM 51 5) (na' := na') (wC' := wC') ?_ hM' s2
  unfold p_X8_sharpen
  rw [a1, Option.bind_some, hh, Option.bind_some, s1, bindG_l, show gF wC 111 2 = gA wM 51 5 from h.S.2.1.2.2.1]
theorem op43 (h : RR k na wC wM) : ∃ z, p_op_43 xs i na wC wM = some z ∧ RR (k + 1) z.1 z.2.1 z.2.2 := by
  unfold p_op_43 p_L_setChisel
  have hx := sc_rng xs (i + 1)
  have hy := sc_rng xs (i + 2)
  generalize sc xs (i + 1) = x at *
  generalize sc xs (i + 2) = y at *
  have hx' := hx
  have hy' := hy
  unfold rng at hx' hy'
  obtain ⟨vB, v1, v3, v4, v5, v6, v7, v8⟩ := h.V
  have hM0 : p_X9_setChisel x y wM = p_X9_setChisel_25 x y (b2 (decide (1 ≤ x ∧ x ≤ 999) && decide (0 ≤ y ∧ y ≤ 99))) wM := by
    unfold p_X9_setChisel p_X9_isSharp p_X9_setChisel_24
    rw [w32_o hx', w32_o hy', in_o (by omega), Option.bind_some]
    dsimp only
    rw [zr_b2, Option.bind_some, in_o (by omega), Option.bind_some]
    simp only [eq32_b2]
    cases decide (1 ≤ x ∧ x ≤ 999) <;> cases decide (0 ≤ y ∧ y ≤ 99) <;> rfl
  rw [hM0]
  unfold p_X9_setChisel_25
  rw [passes_o, Option.bind_some]
  simp only [eq32_b2]
  by_cases c : (1 ≤ x ∧ x ≤ 999) ∧ (0 ≤ y ∧ y ≤ 99)
  · rw [decide_eq_true c.1, decide_eq_true c.2, if_neg (show ¬ (true && true) = false by decide)]
    obtain ⟨w1, a1, a2, a3, a4⟩ := h.cp
    obtain ⟨m1, b1, b2', b3⟩ := h.rem (frmM_0 wM (b2 (!(true && true))))
    have hsam : SAM (gA wM 51) (upd1 (upd1 (upd1 (gA wM 51) 3 x) 5 x) 4 y) := upd1_SAM (upd1_SAM (upd1_SAM (fun _ _ => rfl) (by decide)) (by decide)) (by decide)
    have hZ : Z0 (upd1 (upd1 (upd1 (gA wM 51) 3 x) 5 x) 4 y) := upd1_Z (upd1_Z (upd1_Z h.z (by decide)) (by decide)) (by decide)
    have hh : p_X1_renew 127 x y w1 = some (sF (sF (sF w1 127 0 x) 127 1 y) 127 2 x) := rfl
    have hfr : frm SCf TCf wC (sF (sF (sF w1 127 0 x) 127 1 y) 127 2 x) := frm_sF (frm_sF (frm_sF a3 (by unfold SCf; omega)) (by unfold SCf; omega)) (by unfold SCf; omega)
    have hS' : RS (sF (sF (sF w1 127 0 x) 127 1 y) 127 2 x) 116 (upd1 (upd1 (upd1 (gA wM 51) 3 x) 5 x) 4 y) :=
      a4.sam hsam (fun k _ => rfl) a4.1.2.2.2.2.2 ⟨rfl, rfl, rfl, a4.2.1.2.2.2.1, a4.2.1.2.2.2.2⟩ (fun _ _ _ => rfl)
    have hV' : VF (k + 1) (upd1 (upd1 (upd1 (gA wM 51) 3 x) 5 x) 4 y) := by
      refine ⟨hsam.VB vB, v1, c.1, c.2, ⟨by show 0 ≤ x; omega, Int.le_refl x⟩, ⟨v6.1, by show gA wM 51 6 ≤ _; omega⟩, ⟨v7.1, by show gA wM 51 7 ≤ _; omega⟩, ?_⟩
      rw [hsam.nL vB]; exact v8
    have e51 : gA m1 51 = gA wM 51 := b3.2.1
    have hM := b3.up (w' := sA (sA (sA m1 51 3 x) 51 5 x) 51 4 y) (frm_sA (frm_sA (frm_sA (frm_refl m1) (Or.inr rfl)) (Or.inr rfl)) (Or.inr rfl)) (by rw [gA_upd, gA_upd, gA_upd, e51])
    obtain ⟨na', wC', s1, s2⟩ := h.settle hfr hS' hV' hZ hM
    have ht : gF m1 50 0 = 0 := b2'.1 50 0 (by decide)
    refine wok (r := 100 * gA wM 51 3 + gA wM 51 4) (na' := na') (wC' := wC') (wM' := sA (sA (sA m1 51 3 x) 51 5 x) 51 4 y) ?_ ?_ ht s2
    · unfold p_X8_setChisel
      rw [if_neg (by rw [lt32_o (by omega)]; omega), if_neg (by rw [lt32_o (by omega)]; omega), if_neg (by rw [lt32_o (by omega)]; omega), if_neg (by rw [lt32_o (by omega)]; omega), a1, Option.bind_some, hh, Option.bind_some, s1, bindG_l, show gF wC 111 0 = gA wM 51 3 from h.S.2.1.1, show gF wC 111 1 = gA wM 51 4 from h.S.2.1.2.1]
    · rw [b1, Option.bind_some]
      simp only [show (inb 5 1099 = false) = False from by decide, show (inb 3 1099 = false) = False from by decide, show (inb 4 1099 = false) = False from by decide, if_false, Option.bind_some, e51]
  · have hf : (decide (1 ≤ x ∧ x ≤ 999) && decide (0 ≤ y ∧ y ≤ 99)) = false := by
      rw [← Bool.decide_and]; exact decide_eq_false c
    rw [hf, if_pos rfl]
    have h8 : p_X8_setChisel x y na wC = some (.inr 2, na, wC) := by
      unfold p_X8_setChisel p_X8_setChisel_22
      by_cases d1 : lt32 x 1 = true
      · rw [if_pos d1]
      · rw [if_neg d1]
        by_cases d2 : lt32 999 x = true
        · rw [if_pos d2]
        · rw [if_neg d2]
          by_cases d3 : lt32 y 0 = true
          · rw [if_pos d3]
          · rw [if_neg d3, if_pos (by rw [lt32_o (by omega)] at d1 d2 d3 ⊢; omega)]
    exact wex (e := 2) (na' := na) (wC' := wC) h8 rfl rfl (Or.inl rfl) rfl ((h.fr (frm_refl _) (frmM_0 _ _)).mono (Nat.le_succ k))
end CHX
