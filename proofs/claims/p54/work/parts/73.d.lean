section OW
variable {k na : Nat} {wC wM : Wd} {xs : Nat → Int32} {i : Int}
theorem op48 (h : RR k na wC wM) : ∃ z, p_op_48 xs i na wC wM = some z ∧ RR k z.1 z.2.1 z.2.2 := by
  unfold p_op_48 p_L_writeRow
  have hy := sc_rng xs (i + 1)
  generalize sc xs (i + 1) = y at *
  have hn := nL_rng h.B
  have hw60 := h.B.w
  have hc24 := h.B.c
  obtain ⟨f, hf⟩ : ∃ f, gA wM 51 = f := ⟨_, rfl⟩
  have key : ∀ (m n1 n2 : Nat) (x : Int) (w w9 : Wd), 0 ≤ x → x + m = gA wM 51 0 → m < n1 → m < n2 → frm SCo TCo wC w → frm SMo TMo wM w9 → OUr w w9 → AR9 w9 (nLF (gA wM 51)) (rLF (gA wM 51)) (cLF (gA wM 51)) → gF w9 50 33 = x → gF w9 50 0 = 0 →
      ∃ r w' w9', p_X8_writeRow_15 n1 y x na w = some (.inl r, na, w') ∧ p_X9_writeRow_26 n2 y x w9 = some (r, w9') ∧ RR k na w' w9' ∧ gF w9' 50 0 = 0 := by
    intro m
    induction m with
    | zero =>
      intro n1 n2 x w w9 x0 x1 hn1 hn2 hC hM hO hA h33 hz
      obtain ⟨n1', rfl⟩ : ∃ n', n1 = n' + 1 := ⟨n1 - 1, by omega⟩
      obtain ⟨n2', rfl⟩ : ∃ n', n2 = n' + 1 := ⟨n2 - 1, by omega⟩
      have hR := h.out hC hM hO
      have e51 : gA w9 51 = gA wM 51 := funext fun j => hM.2.1 51 (by unfold TMo TMf; omega) j
      have e0 : gF w 100 0 = gA wM 51 0 := by rw [← e51]; exact hR.S.1.1
      refine ⟨x, w, w9, ?_, ?_, hR, hz⟩
      · simp (disch := omega) only [p_X8_writeRow_15, e0, lt32_o]
        rw [if_neg (by omega), hO.1, h33]
      · simp only [p_X9_writeRow_26]
        rw [wide_o hR.f, Option.bind_some, e51]
        dsimp only
        rw [if_neg (show ¬ lt32 x (gA wM 51 0) = true by rw [lt32_o (by omega)]; omega), h33]
    | succ m ih =>
      intro n1 n2 x w w9 x0 x1 hn1 hn2 hC hM hO hA h33 hz
      obtain ⟨n1', rfl⟩ : ∃ n', n1 = n' + 1 := ⟨n1 - 1, by omega⟩
      obtain ⟨n2', rfl⟩ : ∃ n', n2 = n' + 1 := ⟨n2 - 1, by omega⟩
      have hR := h.out hC hM hO
      have e51 : gA w9 51 = gA wM 51 := funext fun j => hM.2.1 51 (by unfold TMo TMf; omega) j
      have e0 : gF w 100 0 = gA wM 51 0 := by rw [← e51]; exact hR.S.1.1
      have hxr : rng x := ⟨by omega, by omega⟩
      have hs : 0 ≤ (if flF (gA wM 51) x y = true then 35 else sgF (gA wM 51) x y) ∧ (if flF (gA wM 51) x y = true then 35 else sgF (gA wM 51) x y) ≤ 127 := by
        by_cases c : flF (gA wM 51) x y = true
        · rw [if_pos c]; decide
        · rw [if_neg c]; exact sgF_rng h
      obtain ⟨w1, m1, a1, a2, a3, a4, a5, a6, a7, a8, a9, a10⟩ := wr1 hO (by omega) hs
      obtain ⟨r, w', w9', b1, b2', b3, b4⟩ := ih n1' n2' (x + 1) w1 m1 (by omega) (by omega) (by omega) (by omega) (frm_trans hC a3) (frm_trans hM a4) a5 ⟨a8.trans hA.1, fun v v0 v1 => ⟨(a9 v).trans (hA.2 v v0 v1).1, (a10 v).trans (hA.2 v v0 v1).2⟩⟩ (by omega) (a7.trans hz)
      refine ⟨r, w', w9', ?_, ?_, b3, b4⟩
      · simp (disch := omega) only [p_X8_writeRow_15, e0, lt32_o]
        rw [if_pos (by omega), cflaw_o SLo_0 hR.B hR.S hxr hy, Option.bind_some, e51]
        simp only [eq32_b2]
        unfold p_X8_writeRow_53
        by_cases c : flF (gA wM 51) x y = true
        · rw [if_neg (by rw [c]; decide)]
          rw [if_pos c] at a1
          rw [a1, Option.bind_some]; exact b1
        · rw [if_pos (bfF c)]
          rw [if_neg c] at a1
          rw [signOn_o hR hxr hy, Option.bind_some, e51]
          dsimp only
          rw [a1, Option.bind_some]; exact b1
      · simp only [p_X9_writeRow_26]
        rw [wide_o hR.f, Option.bind_some, e51]
        dsimp only
        rw [if_pos (show lt32 x (gA wM 51 0) = true by rw [lt32_o (by omega)]; omega), wordIn_o hR.B hR.f (by rw [e51]; exact hA) hxr hy, Option.bind_some]
        dsimp only
        rw [hasFlaw_o hR.f hR.B hxr hy, Option.bind_some, e51]
        simp only [eq32_b2]
        unfold p_X9_writeRow_58 p_X9_writeRow_87
        by_cases c : flF (gA wM 51) x y = true
        · rw [if_neg (by rw [c]; decide), fl_wo h.B c, if_pos (show eq32 (-1) (-1) = true by decide +kernel)]
          rw [if_pos c] at a2
          rw [a2, Option.bind_some]; exact b2'
        · rw [if_pos (bfF c)]
          rw [if_neg c] at a2
          rcases woF_rng h.B x y with g | ⟨g1, g2, g3, g4, g5⟩
          · rw [g.1, if_pos (show eq32 (-1) (-1) = true by decide +kernel)]
            rw [show sgF (gA wM 51) x y = 46 from if_pos g.1] at a2
            rw [a2, Option.bind_some]; exact b2'
          · rw [if_neg (show ¬ eq32 (woF (gA wM 51) x y) (-1) = true by rw [eq32_o (by omega)]; omega), if_neg (by rw [inb_f (by omega)]; exact id), (hA.2 _ g1 g2).2]
            have hsh := shown_o hR (x := x) (y := y) (by rw [e51]; exact g1)
            rw [e51] at hsh
            rw [hsh, Option.bind_some]
            dsimp only
            rw [a2, Option.bind_some]; exact b2'
  unfold p_X8_writeRow p_X9_writeRow
  rw [needRow_o h hy, isRow_o h.f h.B hy, Option.bind_some]
  dsimp only
  rw [passes_o, Option.bind_some]
  simp only [eq32_b2]
  by_cases c : 0 ≤ y ∧ y < gA wM 51 1
  · rw [if_pos c, decide_eq_true c, if_neg (show ¬ true = false by decide), bindG_l]
    obtain ⟨m1, c1, c2, c3, c4⟩ := h.lay (frmM_0 wM (b2 (!true)))
    rw [c1, Option.bind_some]
    obtain ⟨r, w', w9', q1, q2, q3, q4⟩ := key (gA wM 51 0).toNat FU FU 0 (sF wC 5 1 0) (sF m1 50 33 0) (Int.le_refl _) (by omega) (by have : FU = 1000000 := rfl; omega) (by have : FU = 1000000 := rfl; omega) (frm_sF (frm_refl _) (Or.inr ⟨rfl, rfl⟩)) (frm_sF (frm_mono c2 (fun o k h => by unfold SMf at h; unfold SMo; omega) (fun o h => Or.inl h)) (by unfold SMo; omega))
      ⟨by rw [gF_sF, if_pos ⟨rfl, rfl⟩, gF_sF, if_pos ⟨rfl, rfl⟩], by rw [gF_sF, if_pos ⟨rfl, rfl⟩]; decide, fun i i0 i1 => by rw [gF_sF, if_pos ⟨rfl, rfl⟩] at i1; omega⟩
      ⟨by rw [gF_sF, if_neg (by decide)]; exact c3.1, fun v v0 v1 => c3.2 v v0 v1⟩ (by rw [gF_sF, if_pos ⟨rfl, rfl⟩]) (by rw [gF_sF, if_neg (by decide)]; exact c4)
    exact wok (r := r) q1 q2 q4 q3
  · rw [if_neg c, decide_eq_false c, if_pos rfl, bindG_r]
    exact wex (h := hnd1 3) (f := fun r w => sA w 34 0 (w32 r)) (e := 3) (na' := na) (wC' := wC) rfl rfl rfl (Or.inl rfl) rfl (h.fr (frm_refl _) (frmM_0 _ _))
end OW
