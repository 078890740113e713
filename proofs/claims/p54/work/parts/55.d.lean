/-! ===== carving; slots; undo ===== -/
section CHY
variable {k na : Nat} {wC wM : Wd} {xs : Nat → Int32} {i : Int}
theorem op41 (h : RR k na wC wM) : ∃ z, p_op_41 xs i na wC wM = some z ∧ RR (k + 1) z.1 z.2.1 z.2.2 := by
  unfold p_op_41 p_L_carve
  have hx := sc_rng xs (i + 1)
  generalize sc xs (i + 1) = x at *
  have hx' := hx
  unfold rng at hx'
  obtain ⟨vB, v1, v3, v4, v5, v6, v7, v8⟩ := h.V
  have h288 := (lF_ok h.B).2.2.2
  unfold p_X9_carve
  rw [w32_o hx', in_o (by omega), Option.bind_some]
  dsimp only
  rw [passes_o, Option.bind_some]
  simp only [eq32_b2]
  by_cases c : 1 ≤ x ∧ x ≤ 300
  · rw [decide_eq_true c, if_neg (by decide)]
    obtain ⟨w1, a1, a2, a3, a4⟩ := h.cp
    obtain ⟨m1, b1, b2', b3⟩ := h.rem (frmM_0 wM (b2 (!true)))
    have hp1 : gP m1 50 3 = 51 := b3.1
    have e51 : gA m1 51 = gA wM 51 := b3.2.1
    have hf1 : cR m1 = gA wM 51 := by unfold cR; rw [hp1, e51]
    obtain ⟨m2, l1, l2, l3⟩ := lay9 h.B hf1 hp1
    have hf2 : cR m2 = gA wM 51 := (cR_frm l1 hp1 (by unfold TL9; decide)).trans hf1
    have hp2 : gP m2 50 3 = 51 := (l1.2.2 _ _).trans hp1
    have e512 : gA m2 51 = gA wM 51 := (funext fun i => l1.2.1 51 (by unfold TL9; decide) i).trans e51
    generalize hend : gA wM 51 8 + min x (laF (gA wM 51) (nLF (gA wM 51)) - gA wM 51 8) = e at *
    have he : gA wM 51 8 ≤ e ∧ e ≤ laF (gA wM 51) (nLF (gA wM 51)) ∧ e ≤ gA wM 51 8 + 300 := by omega
    obtain ⟨m3, g1, g2, g3, g4⟩ := timeFT_o h.B hf2 hp2 l3 v3 v5 (a := gA wM 51 8) (b := e) (by omega)
    have e513 : gA m3 51 = gA wM 51 := (funext fun i => g2.2.1 51 id i).trans e512
    have hcr := ctI_rng (f := gA wM 51) v3.1 v4 (e - gA wM 51 8).toNat (gA wM 51 8) (gA wM 51 5, gA wM 51 7, gA wM 51 6) v5
    have hsh := ctI_shift (f := gA wM 51) (sh := gA wM 51 3) (la := gA wM 51 4) (e - gA wM 51 8).toNat (gA wM 51 8) (gA wM 51 5) (gA wM 51 7) (gA wM 51 6) 0 0
    -- the class's cuts
    have hC : CHs w1 127 (gA wM 51 3) (gA wM 51 4) (gA wM 51 5, gA wM 51 7, gA wM 51 6) := ⟨a4.2.1.1, a4.2.1.2.1, a4.2.1.2.2.1, a4.2.1.2.2.2.2, a4.2.1.2.2.2.1⟩
    have hl : ∀ (m n : Nat) (a : Int) (cc : Ch) (w : Wd), frm (SCH 127) T0 w1 w → CHs w 127 (gA wM 51 3) (gA wM 51 4) cc → 0 ≤ cc.1 ∧ cc.1 ≤ gA wM 51 3 → 0 ≤ a → a + m = e → m < n →
        ∃ w', p_X8_carve_71 n (gF wC 111 3) e a na w = p_X8_carve_105 (gF wC 111 3) e na w' ∧ frm (SCH 127) T0 w1 w' ∧ CHs w' 127 (gA wM 51 3) (gA wM 51 4) (ctI (gA wM 51) (gA wM 51 3) (gA wM 51 4) m a cc) := by
      intro m
      induction m with
      | zero =>
        intro n a cc w hw hC hc a0 hab hn
        obtain ⟨n', rfl⟩ : ∃ n', n = n' + 1 := ⟨n - 1, by omega⟩
        simp (disch := omega) only [p_X8_carve_71, lt32_o]
        rw [if_neg (by omega)]
        exact ⟨w, rfl, hw, hC⟩
      | succ m ih =>
        intro n a cc w hw hC hc a0 hab hn
        obtain ⟨n', rfl⟩ : ∃ n', n = n' + 1 := ⟨n - 1, by omega⟩
        have hfrC : frm SCf TCf wC w := frm_trans a3 (frm_mono hw (fun o k h => by have := h.1; unfold SCf; omega) (fun o h => absurd h id))
        simp (disch := omega) only [p_X8_carve_71, lt32_o]
        rw [if_pos (by omega), at17_o h.B (h.fr hfrC (frm_refl wM)).T (by omega), Option.bind_some]
        dsimp only
        obtain ⟨w2, q1, q2, q3⟩ := cut_o hC v3 hc (cos_rng (f := gA wM 51) (n := a))
        rw [q1, Option.bind_some]
        exact ih n' (a + 1) _ w2 (frm_trans hw q2) q3 (ctF_rng v3.1 cos_rng.1 hc v4.1).1 (by omega) (by omega) (by omega)
    obtain ⟨w2, x1, x2, x3⟩ := hl (e - gA wM 51 8).toNat FU (gA wM 51 8) _ w1 (frm_refl w1) hC v5 v8.1 (by omega) (by have : FU = 1000000 := rfl; omega)
    generalize hct : ctI (gA wM 51) (gA wM 51 3) (gA wM 51 4) (e - gA wM 51 8).toNat (gA wM 51 8) (gA wM 51 5, gA wM 51 7, gA wM 51 6) = r at *
    obtain ⟨L, N, T⟩ := r
    dsimp only at hcr hsh x3
    have hsam : SAM (gA wM 51) (upd1 (upd1 (upd1 (upd1 (gA wM 51) 8 e) 5 L) 7 N) 6 T) := upd1_SAM (upd1_SAM (upd1_SAM (upd1_SAM (fun _ _ => rfl) (by decide)) (by decide)) (by decide)) (by decide)
    have hZ : Z0 (upd1 (upd1 (upd1 (upd1 (gA wM 51) 8 e) 5 L) 7 N) 6 T) := upd1_Z (upd1_Z (upd1_Z (upd1_Z h.z (by decide)) (by decide)) (by decide)) (by decide)
    have hfr : frm SCf TCf wC (sF w2 116 11 e) := frm_sF (frm_trans a3 (frm_mono x2 (fun o k h => by have := h.1; unfold SCf; omega) (fun o h => absurd h id))) (by unfold SCf; omega)
    have hS' : RS (sF w2 116 11 e) 116 (upd1 (upd1 (upd1 (upd1 (gA wM 51) 8 e) 5 L) 7 N) 6 T) :=
      a4.sam hsam (fun k hk => by rw [gF_sF, if_neg (by omega)]; exact x2.1 116 k (fun h => by have := h.1; omega)) rfl ⟨x3.1, x3.2.1, x3.2.2.1, x3.2.2.2.2, x3.2.2.2.1⟩ (fun d hd i => x2.2.1 _ id i)
    have hn : ((e - gA wM 51 8).toNat : Int) ≤ 300 := by omega
    have hV' : VF (k + 1) (upd1 (upd1 (upd1 (upd1 (gA wM 51) 8 e) 5 L) 7 N) 6 T) := by
      refine ⟨hsam.VB vB, v1, v3, v4, ⟨hcr.1.1, hcr.1.2⟩, ⟨by show 0 ≤ T; omega, by show T ≤ _; omega⟩, ⟨by show 0 ≤ N; omega, by show N ≤ _; omega⟩, ?_⟩
      rw [hsam.nL vB]
      exact ⟨by show 0 ≤ e; omega, by show e ≤ _; omega⟩
    have t9 : gF m3 50 9 = L := by rw [g3]; exact hsh.2.1.symm
    have t10 : gF m3 50 10 = N - gA wM 51 7 := by rw [g4]; omega
    have tT : (ctI (gA wM 51) (gA wM 51 3) (gA wM 51 4) (e - gA wM 51 8).toNat (gA wM 51 8) (gA wM 51 5, 0, 0)).2.2 = T - gA wM 51 6 := by omega
    have hfrm3 : frm SMf TM5 m1 m3 := frm_5 (frm_trans (frm_L9 l1) (frm_910 g2))
    have hM := b3.up (w' := sA (sA (sA (sA m3 51 8 e) 51 5 L) 51 7 N) 51 6 T) (frm_sA (frm_sA (frm_sA (frm_sA hfrm3 (Or.inr rfl)) (Or.inr rfl)) (Or.inr rfl)) (Or.inr rfl)) (by rw [gA_upd, gA_upd, gA_upd, gA_upd, e513])
    obtain ⟨na', wC', s1, s2⟩ := h.settle hfr hS' hV' hZ hM
    have ht : gF m3 50 0 = 0 := (g2.1 50 0 (by unfold S910; omega)).trans ((l1.1 50 0 (by unfold SL9; omega)).trans (b2'.1 50 0 (by decide)))
    refine wok (r := T - gA wM 51 6) (na' := na') (wC' := wC') (wM' := sA (sA (sA (sA m3 51 8 e) 51 5 L) 51 7 N) 51 6 T) ?_ ?_ ht s2
    · unfold p_X8_carve
      rw [if_neg (by rw [lt32_o (by omega)]; omega), if_neg (by rw [lt32_o (by omega)]; omega), a1, Option.bind_some]
      rw [show gF wC 100 11 = gA wM 51 8 from h.S.1.2.2.2.2.2, h.T.1, mn32_o (by omega), show min (gA wM 51 8 + x) (laF (gA wM 51) (nLF (gA wM 51))) = e by omega]
      rw [show gF w1 100 11 = gA wM 51 8 from (h.fr a3 (frm_refl wM)).S.1.2.2.2.2.2, x1]
      unfold p_X8_carve_105
      rw [s1, bindG_l, show gF wC 111 3 = gA wM 51 6 from h.S.2.1.2.2.2.1]
      rw [show gF wC' 111 3 = T by
        have := s2.S.2.1.2.2.2.1
        rw [hM.2.1] at this
        exact this]
    · rw [b1, Option.bind_some, l2, Option.bind_some]
      dsimp only
      rw [endOf_o h.B hf2 e512 l3 hx v8, Option.bind_some]
      dsimp only
      simp only [show (inb 8 1099 = false) = False from by decide, show (inb 5 1099 = false) = False from by decide, show (inb 7 1099 = false) = False from by decide, show (inb 6 1099 = false) = False from by decide, if_false, Option.bind_some]
      rw [hend, e512, g1, Option.bind_some, tT]
      dsimp only
      rw [show gF (sA m3 51 8 e) 50 9 = L from t9]
      rw [show gA (sA (sA m3 51 8 e) 51 5 L) 51 7 = gA wM 51 7 by rw [gA_sA, if_neg (by decide), gA_sA, if_neg (by decide), e513], show gF (sA (sA m3 51 8 e) 51 5 L) 50 10 = N - gA wM 51 7 from t10, show gA wM 51 7 + (N - gA wM 51 7) = N by omega]
      rw [show gA (sA (sA (sA m3 51 8 e) 51 5 L) 51 7 N) 51 6 = gA wM 51 6 by rw [gA_sA, if_neg (by decide), gA_sA, if_neg (by decide), gA_sA, if_neg (by decide), e513], show gA wM 51 6 + (T - gA wM 51 6) = T by omega]
  · rw [decide_eq_false c, if_pos rfl]
    have h8 : p_X8_carve x na wC = some (.inr 2, na, wC) := by
      unfold p_X8_carve p_X8_carve_12
      by_cases d1 : lt32 x 1 = true
      · rw [if_pos d1]
      · rw [if_neg d1, if_pos (by rw [lt32_o (by omega)] at d1 ⊢; omega)]
    exact wex (e := 2) (na' := na) (wC' := wC) h8 rfl rfl (Or.inl rfl) rfl ((h.fr (frm_refl _) (frmM_0 _ _)).mono (Nat.le_succ k))
theorem RR.sl (h : RR k na wC wM) {s : Int} (h0 : 0 ≤ s ∧ s < 2) : (gP wC 33 s = 0 ∧ gA wM 62 s = 0) ∨ (gP wC 33 s ≠ 0 ∧ gA wM 62 s = 1 ∧ RS wC (gP wC 33 s) (krM wM s) ∧ VF k (krM wM s)) := h.2.2.2.2.2.2.2.2.2.1 s h0.1 h0.2
theorem isKeep_o {x : Int} (hx : rng x) {w : Wd} : p_X9_isKeep x w = some (b2 (decide (0 ≤ x ∧ x < 2)), w) := by
  unfold rng at hx
  unfold p_X9_isKeep
  rw [w32_o hx, in_o (by omega), Option.bind_some]
  dsimp only
  rw [zr_b2, decide_eq_decide.mpr (show 0 ≤ x ∧ x ≤ 1 ↔ 0 ≤ x ∧ x < 2 by omega)]
theorem op45 (h : RR k na wC wM) : ∃ z, p_op_45 xs i na wC wM = some z ∧ RR (k + 1) z.1 z.2.1 z.2.2 := by
  unfold p_op_45 p_L_restore
  have hx := sc_rng xs (i + 1)
  generalize sc xs (i + 1) = x at *
  have hx' := hx
  unfold rng at hx'
  unfold p_X8_restore p_X9_restore p_X9_restore_21
  rw [needSlot_o hx, isKeep_o hx, Option.bind_some]
  dsimp only
  rw [isKeep_o hx, Option.bind_some]
  simp only [eq32_b2]
  by_cases c : 0 ≤ x ∧ x < 2
  · rw [if_pos c, decide_eq_true c, if_neg (show ¬ true = false by decide), bindG_l, if_neg (show ¬ inb x 2 = false by rw [inb_f (by omega)]; exact id), if_neg (show ¬ inb x 2 = false by rw [inb_f (by omega)]; exact id)]
    unfold p_X9_restore_26
    rcases h.sl c with ⟨e1, e2⟩ | ⟨e1, e2, e3, e4⟩
    · rw [if_pos (decide_eq_true e1), e2, if_pos e00]
      show ∃ z, ((Option.bind _ _).bind fun z1 => ((p_X9_passes2 (b2 true) (b2 false) wM).bind _).bind _) = some z ∧ _
      rw [passes2_o, Option.bind_some]
      exact wex (h := hnd2 3 1) (f := fun r w => sA w 34 0 (w32 r)) (e := 1) (na' := na) (wC' := wC) rfl rfl rfl (Or.inr rfl) rfl ((h.fr (frm_refl _) (frmM_0 _ _)).mono (Nat.le_succ k))
    · rw [if_neg (by rw [decide_eq_true_iff]; exact e1), e2, if_neg e10]
      show ∃ z, ((Option.bind _ _).bind fun z1 => ((p_X9_passes2 (b2 true) (b2 true) wM).bind _).bind _) = some z ∧ _
      rw [passes2_o, Option.bind_some]
      dsimp only
      rw [if_neg (show ¬ eq32 (b2 (true && true)) 0 = true by decide +kernel)]
      obtain ⟨q, q1, q2⟩ := h.pt.s c e1
      obtain ⟨w1, a1, a2, a3⟩ := slab_cp (i := 1) (j := q) (by omega) wC
      have hfr : frm SCf TCf wC w1 := frm_mono a2 (fun o k h => by unfold SQ sl at h; unfold SCf; omega) (fun o h => by unfold TQ sl at h; unfold TCf; omega)
      have hS' : RS w1 116 (krM wM x) := a3 _ e4.1 (by rw [← q2]; exact e3)
      obtain ⟨m1, b1, b2', b3⟩ := h.rem (frmM_0 wM 0)
      have hcp := cp_loop (lp := fun n y w => p_X9_restore_40 n x y w) (fin := p_X9_restore_71) (dst := 51) (src := 61) (od := 0) (os := 1099 * x) (b := 1099) (w := m1) (by decide)
        (fun n y f y0 y1 => by
          simp (disch := omega) only [p_X9_restore_40, lt32_o, y1, if_true, inb_f, if_false]
          rw [Int.zero_add])
        (fun n f => by simp (disch := omega) only [p_X9_restore_40, lt32_o, Int.lt_irrefl, if_false])
        FU (by decide) (by have : FU = 1000000 := rfl; omega)
      have hfrM : frm SMf TM5 m1 (setR m1 51 (fun j => if 0 ≤ j ∧ j < 0 + 1099 then gA m1 61 (1099 * x + (j - 0)) else gA m1 51 j)) := frm_setR (frm_refl m1) (Or.inr rfl)
      have hg : gA (setR m1 51 (fun j => if 0 ≤ j ∧ j < 0 + 1099 then gA m1 61 (1099 * x + (j - 0)) else gA m1 51 j)) 51 = krM wM x := funext fun j => by
        rw [gA_setR, if_pos rfl]
        unfold krM nrm
        by_cases d : 0 ≤ j ∧ j < 1099
        · rw [if_pos (by omega), if_pos d, b3.2.2.2.2.2.2.2.1, Int.sub_zero]
        · rw [if_neg (by omega), if_neg d, b3.2.1]; exact h.z j d
      have hM := b3.up hfrM hg
      obtain ⟨na', wC', s1, s2⟩ := h.settle hfr hS' (e4.mono (Nat.le_succ k)) (nrm_Z _) hM
      have ht : gF m1 50 0 = 0 := b2'.1 50 0 (by decide)
      refine wok (r := krM wM x 8) (na' := na') (wC' := wC') (wM' := setR m1 51 (fun j => if 0 ≤ j ∧ j < 0 + 1099 then gA m1 61 (1099 * x + (j - 0)) else gA m1 51 j)) ?_ ?_ ht s2
      · rw [q2]
        have a1' : p_X6_copy 116 (sl q) wC = some w1 := a1
        rw [a1', Option.bind_some, s1, bindG_l, show gF wC' 100 11 = krM wM x 8 by rw [← hg]; exact s2.S.1.2.2.2.2.2]
      · show ((p_X9_remember (sF wM 50 0 0)).bind _) = _
        rw [b1, Option.bind_some, hcp]
        unfold p_X9_restore_71
        rw [if_neg (by decide), ← hg]
  · rw [if_neg c, decide_eq_false c, if_pos rfl, bindG_r]
    unfold p_X9_restore_26
    show ∃ z, ((Option.bind _ _).bind fun z1 => ((p_X9_passes2 (b2 false) (b2 true) wM).bind _).bind _) = some z ∧ _
    rw [passes2_o, Option.bind_some]
    exact wex (h := hnd2 3 1) (f := fun r w => sA w 34 0 (w32 r)) (e := 3) (na' := na) (wC' := wC) rfl rfl rfl (Or.inl rfl) rfl ((h.fr (frm_refl _) (frmM_0 _ _)).mono (Nat.le_succ k))
end CHY
