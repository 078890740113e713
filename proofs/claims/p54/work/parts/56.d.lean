/-! ===== keep, undo ===== -/
section CHZ
variable {k na : Nat} {wC wM : Wd} {xs : Nat → Int32} {i : Int}
theorem op46 (h : RR k na wC wM) : ∃ z, p_op_46 xs i na wC wM = some z ∧ RR k z.1 z.2.1 z.2.2 := by
  unfold p_op_46 p_L_undo
  unfold p_X8_undo p_X9_undo p_X9_undo_13
  obtain ⟨p1, p2⟩ := h.pa
  rw [p1]
  by_cases c : gF wM 50 31 = 0
  · rw [if_pos (show eq32 (gF wM 50 31) 0 = true by rw [c]; exact e00), if_neg (show ¬ lt32 0 (gF wM 50 31) = true by rw [lt32_o (by omega)]; omega)]
    show ∃ z, ((Option.bind _ _).bind fun z1 => ((p_X9_passes (b2 false) wM).bind _).bind _) = some z ∧ _
    rw [passes_o, Option.bind_some]
    exact wex (h := hnd1 1) (f := fun r w => sA w 34 0 (w32 r)) (e := 1) (na' := na) (wC' := wC) rfl rfl rfl (Or.inl rfl) rfl (h.fr (frm_refl _) (frmM_0 _ _))
  · rw [if_neg (show ¬ eq32 (gF wM 50 31) 0 = true by rw [eq32_o (by omega)]; omega), if_pos (show lt32 0 (gF wM 50 31) = true by rw [lt32_o (by omega)]; omega)]
    show ∃ z, ((Option.bind _ _).bind fun z1 => ((p_X9_passes (b2 true) wM).bind _).bind _) = some z ∧ _
    rw [passes_o, Option.bind_some]
    dsimp only
    rw [if_neg (show ¬ eq32 (b2 true) 0 = true by decide +kernel)]
    generalize hc : gF wM 50 31 = cc at *
    have e31 : gF (sF wM 50 0 (b2 (!true))) 50 31 = cc := hc
    rw [e31]
    obtain ⟨b1, b2', b3⟩ := h.2.2.2.2.2.2.2.2.1
    rw [hc] at b3
    obtain ⟨x1, x2, x3⟩ := b3 (cc - 1) (by omega) (by omega)
    obtain ⟨q, q1, q2⟩ := h.pt.p (j := cc - 1) (by omega) x1
    -- the class
    obtain ⟨w1, a1, a2, a3⟩ := slab_cp (i := 0) (j := q) (by omega) wC
    have a1' : p_X6_copy 100 (gP wC 32 (cc - 1)) wC = some w1 := by rw [q2]; exact a1
    have hS1 : RS w1 100 (prM wM (cc - 1)) := a3 _ x3.1 (by rw [← q2]; exact x2)
    have e311 : gF w1 31 1 = cc := (a2.1 31 1 (fun h => by unfold SQ sl at h; omega)).trans p1
    have hS2 : RS (sF w1 31 1 (cc - 1)) 100 (prM wM (cc - 1)) := hS1.keep (fun k => by rw [gF_sF, if_neg (by omega)]) (fun k => by rw [gF_sF, if_neg (by omega)]) (fun _ _ _ => rfl)
    obtain ⟨w3, d1, d2, d3, d4⟩ := layAnew_o x3.1 hS2
    have fF : ∀ o k, ¬ (o = 10) → ¬ (100 ≤ o ∧ o < 112) → o ≠ 31 → gF w3 o k = gF wC o k := fun o k h1 h2 h3 => (d2.1 o k h1).trans (by rw [gF_sF, if_neg (by omega)]; exact a2.1 o k (fun h => h2 h))
    have fA : ∀ o i, ¬ (12 ≤ o ∧ o ≤ 18) → ¬ (100 ≤ o ∧ o < 112) → gA w3 o i = gA wC o i := fun o i h1 h2 => (d2.2.1 o h1 i).trans (a2.2.1 o (fun h => h2 h) i)
    have fP : ∀ o i, gP w3 o i = gP wC o i := fun o i => (d2.2.2 o i).trans (a2.2.2 o i)
    have far : ∀ q g, 2 ≤ q → RS wC (sl q) g → RS w3 (sl q) g := fun q g hq h => h.keep (fun k => fF _ k (by unfold sl; omega) (by unfold sl; omega) (by unfold sl; omega)) (fun k => fF _ k (by unfold sl; omega) (by unfold sl; omega) (by unfold sl; omega)) (fun d hd i => fA _ i (by unfold sl; omega) (by unfold sl; omega))
    have e313 : gF w3 31 1 = cc - 1 := (d2.1 31 1 (by decide)).trans (by rw [gF_sF, if_pos ⟨rfl, rfl⟩])
    -- the model
    have hcp := cp_loop (lp := fun n y w => p_X9_undo_33 n y w) (fin := fun w => some (gF w 50 31, w)) (dst := 51) (src := 63) (od := 0) (os := 1099 * (cc - 1)) (b := 1099) (w := sF (sF wM 50 0 (b2 (!true))) 50 31 (cc - 1)) (by decide)
      (fun n y f y0 y1 => by
        have e : gF (setR (sF (sF wM 50 0 (b2 (!true))) 50 31 (cc - 1)) 51 f) 50 31 = cc - 1 := rfl
        simp (disch := omega) only [p_X9_undo_33, lt32_o, y1, if_true, inb_f, if_false, e]
        rw [Int.zero_add])
      (fun n f => by simp (disch := omega) only [p_X9_undo_33, lt32_o, Int.lt_irrefl, if_false])
      FU (by decide) (by have : FU = 1000000 := rfl; omega)
    generalize hw : setR (sF (sF wM 50 0 (b2 (!true))) 50 31 (cc - 1)) 51 (fun j => if 0 ≤ j ∧ j < 0 + 1099 then gA (sF (sF wM 50 0 (b2 (!true))) 50 31 (cc - 1)) 63 (1099 * (cc - 1) + (j - 0)) else gA (sF (sF wM 50 0 (b2 (!true))) 50 31 (cc - 1)) 51 j) = wM' at *
    have hg : gA wM' 51 = prM wM (cc - 1) := funext fun j => by
      rw [← hw, gA_setR, if_pos rfl]
      unfold prM nrm
      by_cases d : 0 ≤ j ∧ j < 1099
      · rw [if_pos (by omega), if_pos d, Int.sub_zero]; rfl
      · rw [if_neg (by omega), if_neg d]; exact h.z j d
    have gFm : ∀ k, k ≠ 0 → k ≠ 31 → gF wM' 50 k = gF wM 50 k := fun k k0 k1 => by
      rw [← hw, gF_setR, gF_sF, if_neg (fun h => k1 h.2), gF_sF, if_neg (fun h => k0 h.2)]
    have gAm : ∀ o i, o ≠ 51 → gA wM' o i = gA wM o i := fun o i ho => by rw [← hw, gA_setR, if_neg ho]; rfl
    have g31 : gF wM' 50 31 = cc - 1 := by rw [← hw]; rfl
    have nP : ∀ j, prM wM' j = prM wM j := fun j => congrArg nrm (funext fun i => gAm 63 _ (by decide))
    have nK : ∀ j, krM wM' j = krM wM j := fun j => congrArg nrm (funext fun i => gAm 61 _ (by decide))
    obtain ⟨r1, r2, r3, r4, r5, r6, r7, r8, r9, r10, r11, r12⟩ := h
    have hRR : RR k na w3 wM' := by
      refine ⟨by rw [← hw]; exact r1, by rw [hg]; exact x3, by rw [hg]; exact hS2.fr d2 (fun d k _ => by omega) (fun d _ => by omega), by rw [hg]; exact d3, by rw [hg]; exact d4, ?_, ?_, ?_, ⟨by rw [e313, g31], by rw [g31]; omega, fun j j0 j1 => ?_⟩, fun s s0 s1 => ?_, r11.keep fP, by rw [hg]; exact nrm_Z _⟩
      · refine ⟨by rw [gFm 18 (by decide) (by decide), fF 2 1 (by decide) (by omega) (by decide)]; exact r6.1, by rw [gFm 18 (by decide) (by decide)]; exact r6.2.1, fun i i0 i1 => ?_⟩
        rw [gFm 18 (by decide) (by decide)] at i1
        rw [fA 4 i (by omega) (by omega), gAm 60 i (by decide)]; exact r6.2.2 i i0 i1
      · refine ⟨by rw [gFm 33 (by decide) (by decide), fF 5 1 (by decide) (by omega) (by decide)]; exact r7.1, by rw [gFm 33 (by decide) (by decide)]; exact r7.2.1, fun i i0 i1 => ?_⟩
        rw [gFm 33 (by decide) (by decide)] at i1
        rw [fA 7 i (by omega) (by omega), gAm 64 i (by decide)]; exact r7.2.2 i i0 i1
      · exact ⟨by rw [gFm 24 (by decide) (by decide), fF 9 1 (by decide) (by omega) (by decide)]; exact r8.1, by rw [gFm 25 (by decide) (by decide), fF 9 2 (by decide) (by omega) (by decide)]; exact r8.2⟩
      · rw [g31] at j1
        obtain ⟨y1, y2, y3⟩ := b3 j j0 (by omega)
        rw [fP, nP]
        obtain ⟨q', q1', q2'⟩ := r11.p (j := j) (by omega) y1
        rw [q2'] at y2 ⊢
        exact ⟨by unfold sl; omega, far q' _ q1' y2, y3⟩
      · rw [fP, nK, gAm 62 s (by decide)]
        rcases r10 s s0 s1 with e | ⟨e1, e2, e3, e4⟩
        · exact Or.inl e
        · obtain ⟨q', q1', q2'⟩ := r11.s ⟨s0, s1⟩ e1
          rw [q2'] at e3 ⊢
          exact Or.inr ⟨by unfold sl; omega, e2, far q' _ q1' e3, e4⟩
    refine wok (r := cc - 1) (na' := na) (wC' := w3) (wM' := wM') ?_ ?_ (by rw [← hw]; rfl) hRR
    · unfold p_X4_takeBack p_X4_takeBack_40
      rw [p1, if_pos (show lt32 0 cc = true by rw [lt32_o (by omega)]; omega), if_neg (show ¬ lt32 6 cc = true by rw [lt32_o (by omega)]; omega), if_neg (show ¬ inb (cc - 1) 6 = false by rw [inb_f (by omega)]; exact id), if_neg (by rw [decide_eq_true_iff]; exact x1), a1', Option.bind_some, e311, Option.bind_some, d1, Option.bind_some, e313]
    · rw [hcp, g31]
theorem op44 (h : RR k na wC wM) : ∃ z, p_op_44 xs i na wC wM = some z ∧ RR k z.1 z.2.1 z.2.2 := by
  unfold p_op_44 p_L_keep
  have hx := sc_rng xs (i + 1)
  generalize sc xs (i + 1) = x at *
  have hx' := hx
  unfold rng at hx'
  unfold p_X8_keep p_X9_keep
  rw [needSlot_o hx, isKeep_o hx, Option.bind_some]
  dsimp only
  rw [passes_o, Option.bind_some]
  simp only [eq32_b2]
  by_cases c : 0 ≤ x ∧ x < 2
  · rw [if_pos c, decide_eq_true c, if_neg (show ¬ true = false by decide), bindG_l, if_neg (show ¬ inb x 2 = false by rw [inb_f (by omega)]; exact id)]
    have hcp := cp_loop (lp := fun n y w => p_X9_keep_15 n x y w) (fin := p_X9_keep_46 x) (dst := 61) (src := 51) (od := 1099 * x) (os := 0) (b := 1099) (w := sF wM 50 0 (b2 (!true))) (by decide)
      (fun n y f y0 y1 => by
        simp (disch := omega) only [p_X9_keep_15, lt32_o, y1, if_true, inb_f, if_false]
        rw [Int.zero_add])
      (fun n f => by simp (disch := omega) only [p_X9_keep_15, lt32_o, Int.lt_irrefl, if_false])
      FU (by decide) (by have : FU = 1000000 := rfl; omega)
    rw [hcp]
    unfold p_X9_keep_46
    rw [if_neg (show ¬ inb x 2 = false by rw [inb_f (by omega)]; exact id), if_neg (show ¬ inb 8 1099 = false by decide)]
    generalize hw : sA (setR (sF wM 50 0 (b2 (!true))) 61 (fun j => if 1099 * x ≤ j ∧ j < 1099 * x + 1099 then gA (sF wM 50 0 (b2 (!true))) 51 (0 + (j - 1099 * x)) else gA (sF wM 50 0 (b2 (!true))) 61 j)) 62 x 1 = wM' at *
    have gAm : ∀ o i, o ≠ 61 → o ≠ 62 → gA wM' o i = gA wM o i := fun o i h1 h2 => by rw [← hw, gA_sA, if_neg (fun h => h2 h.1), gA_setR, if_neg h1]; rfl
    have gFm : ∀ k, k ≠ 0 → gF wM' 50 k = gF wM 50 k := fun k k0 => by rw [← hw, gF_sA, gF_setR, gF_sF, if_neg (fun h => k0 h.2)]
    have n51 : gA wM' 51 = gA wM 51 := funext fun i => gAm 51 i (by decide) (by decide)
    have hkx : krM wM' x = gA wM 51 := funext fun j => by
      unfold krM nrm
      by_cases d : 0 ≤ j ∧ j < 1099
      · rw [if_pos d, ← hw]; dsimp only; rw [gA_sA, if_neg (by omega), gA_setR, if_pos rfl, if_pos (by omega)]
        exact congrArg (gA wM 51) (by omega)
      · rw [if_neg d]; exact (h.z j d).symm
    have hky : ∀ s, 0 ≤ s → s < 2 → s ≠ x → krM wM' s = krM wM s := fun s s0 s1 sx => funext fun j => by
      unfold krM nrm
      by_cases d : 0 ≤ j ∧ j < 1099
      · rw [if_pos d, if_pos d, ← hw]; dsimp only; rw [gA_sA, if_neg (by omega), gA_setR, if_pos rfl, if_neg (by omega)]; rfl
      · rw [if_neg d, if_neg d]
    have n62 : gA wM' 62 x = 1 := by rw [← hw, gA_sA, if_pos ⟨rfl, rfl⟩]
    have n62' : ∀ s, s ≠ x → gA wM' 62 s = gA wM 62 s := fun s hs => by rw [← hw, gA_sA, if_neg (fun h => hs h.2), gA_setR, if_neg (by decide)]; rfl
    have nP : ∀ j, prM wM' j = prM wM j := fun j => congrArg nrm (funext fun i => gAm 63 _ (by decide) (by decide))
    -- the class's copy into the place r
    have key : ∀ (r na' : Nat) (w1 : Wd), 2 ≤ r → (∀ o k, ¬ (sl r ≤ o ∧ o < sl r + 12) → gF w1 o k = gF wC o k) → (∀ o i, ¬ (sl r ≤ o ∧ o < sl r + 12) → gA w1 o i = gA wC o i) → (∀ o i, ¬ (o = 33 ∧ i = x) → gP w1 o i = gP wC o i) → gP w1 33 x = sl r → PTr na' w1 → (∀ j, 0 ≤ j → j < 6 → gP wC 32 j ≠ sl r) → (∀ s, 0 ≤ s → s < 2 → s ≠ x → gP wC 33 s ≠ sl r) →
        ∃ z, (((p_X8_keep_31 (sl r) na' w1).bind (wrL (hnd1 3) (fun r w => sA w 34 0 (w32 r)))).bind fun z1 => (some (gA wM' 51 8, wM')).bind fun m3 => (p_X9_thrown m3.2).bind fun m4 => if eq32 m4.1 z1.1 = true then (if eq32 z1.1 0 = true then (if eq32 (lcm64 (gA z1.2.2 34 0) (w32 m3.1)) 0 = true then (some (z1.2.1, z1.2.2, m4.2)) else (none)) else (some (z1.2.1, z1.2.2, m4.2))) else (none)) = some z ∧ RR k z.1 z.2.1 z.2.2 := by
      intro r na' w1 r2 kF kA kP kr kPT n32 n33
      have hS1 : RS w1 100 (gA wM 51) := h.S.keep (fun k => kF _ k (by unfold sl; omega)) (fun k => kF _ k (by unfold sl; omega)) (fun d hd i => kA _ i (by unfold sl; omega))
      obtain ⟨w2, q1, q2, q3⟩ := slab_cp (i := r) (j := 0) (by omega) w1
      have q1' : p_X6_copy (sl r) 100 w1 = some w2 := q1
      have gFx : ∀ o k, ¬ (sl r ≤ o ∧ o < sl r + 12) → gF w2 o k = gF wC o k := fun o k ho => (q2.1 o k ho).trans (kF o k ho)
      have gAx : ∀ o i, ¬ (sl r ≤ o ∧ o < sl r + 12) → gA w2 o i = gA wC o i := fun o i ho => (q2.2.1 o ho i).trans (kA o i ho)
      have hkeep : ∀ o g, (o = 100 ∨ ∃ q, 2 ≤ q ∧ q ≠ r ∧ o = sl q) → RS wC o g → RS w2 o g := fun o g ho hg => by
        have hne : ∀ d, d < 12 → ¬ (sl r ≤ o + d ∧ o + d < sl r + 12) := fun d hd => by
          rcases ho with ho | ⟨q, a, b, e⟩
          · unfold sl; omega
          · rw [e]; unfold sl; omega
        exact hg.keep (fun k => gFx _ k (hne 0 (by decide))) (fun k => gFx _ k (hne 11 (by decide))) (fun d hd i => gAx _ i (hne d hd))
      obtain ⟨r1, r2', r3, r4, r5, r6, r7, r8, r9, r10, r11, r12⟩ := h
      have hRR : RR k na' w2 wM' := by
        refine ⟨by rw [← hw]; exact r1, by rw [n51]; exact r2', by rw [n51]; exact hkeep 100 _ (Or.inl rfl) r3, ?_, ?_, ?_, ?_, ?_, ⟨?_, ?_, fun j j0 j1 => ?_⟩, fun s s0 s1 => ?_, kPT.keep q2.2.2, by rw [n51]; exact r12⟩
        · rw [n51]
          exact ⟨⟨(gFx 10 4 (by unfold sl; omega)).trans r4.1.1, fun i i0 i1 => by rw [gAx _ _ (by unfold sl; omega), gAx _ _ (by unfold sl; omega)]; exact r4.1.2 i i0 i1⟩, fun i i0 i1 => by rw [gAx _ _ (by unfold sl; omega), gAx _ _ (by unfold sl; omega)]; exact r4.2 i i0 i1⟩
        · rw [n51]
          exact ⟨(gFx 10 5 (by unfold sl; omega)).trans r5.1, fun i i0 i1 => by rw [gAx _ _ (by unfold sl; omega), gAx _ _ (by unfold sl; omega)]; exact r5.2 i i0 i1⟩
        · refine ⟨by rw [gFm 18 (by decide), gFx 2 1 (by unfold sl; omega)]; exact r6.1, by rw [gFm 18 (by decide)]; exact r6.2.1, fun i i0 i1 => ?_⟩
          rw [gFm 18 (by decide)] at i1
          rw [gAx 4 i (by unfold sl; omega), gAm 60 i (by decide) (by decide)]; exact r6.2.2 i i0 i1
        · refine ⟨by rw [gFm 33 (by decide), gFx 5 1 (by unfold sl; omega)]; exact r7.1, by rw [gFm 33 (by decide)]; exact r7.2.1, fun i i0 i1 => ?_⟩
          rw [gFm 33 (by decide)] at i1
          rw [gAx 7 i (by unfold sl; omega), gAm 64 i (by decide) (by decide)]; exact r7.2.2 i i0 i1
        · exact ⟨by rw [gFm 24 (by decide), gFx 9 1 (by unfold sl; omega)]; exact r8.1, by rw [gFm 25 (by decide), gFx 9 2 (by unfold sl; omega)]; exact r8.2⟩
        · rw [gFm 31 (by decide), gFx 31 1 (by unfold sl; omega)]; exact r9.1
        · rw [gFm 31 (by decide)]; exact r9.2.1
        · rw [gFm 31 (by decide)] at j1
          have h96 := r9.2.1
          obtain ⟨y1, y2, y3⟩ := r9.2.2 j j0 j1
          obtain ⟨q', q1', q2'⟩ := r11.p (j := j) (by omega) y1
          rw [q2.2.2, kP 32 j (by omega), nP]
          refine ⟨y1, ?_, y3⟩
          refine hkeep _ _ (Or.inr ⟨q', q1', fun e => ?_, q2'⟩) y2
          exact n32 j j0 (by omega) (by rw [q2', e])
        · rw [q2.2.2]
          by_cases e : s = x
          · rw [e, kr, hkx, n62]
            exact Or.inr ⟨by unfold sl; omega, rfl, q3 _ r2'.1 hS1, r2'⟩
          · rw [kP 33 s (fun h => e h.2), hky s s0 s1 e, n62' s e]
            rcases r10 s s0 s1 with e' | ⟨e1, e2, e3, e4⟩
            · exact Or.inl e'
            · obtain ⟨q', q1', q2'⟩ := r11.s ⟨s0, s1⟩ e1
              exact Or.inr ⟨e1, e2, hkeep _ _ (Or.inr ⟨q', q1', fun e5 => n33 s s0 s1 e (by rw [q2', e5]), q2'⟩) e3, e4⟩
      refine wok (r := gA wM' 51 8) (na' := na') (wC' := w2) (wM' := wM') ?_ rfl (by rw [← hw]; rfl) hRR
      unfold p_X8_keep_31
      rw [q1', Option.bind_some, show gF w2 100 11 = gA wM' 51 8 by rw [n51]; exact (hRR.S.1.2.2.2.2.2).trans (by rw [n51])]
    rw [if_neg (show ¬ inb x 2 = false by rw [inb_f (by omega)]; exact id)]
    by_cases z : gP wC 33 x = 0
    · rw [if_pos (decide_eq_true z)]
      have hlt : ∀ q, q < na + 2 → sl q ≠ sl (na + 2) := fun q hq => by unfold sl; omega
      have hnz : sl (na + 2) ≠ 0 := by unfold sl; omega
      have old : ∀ o i, gP (initS wC (sl (na + 2))) o i = gP wC o i := fun _ _ => rfl
      have n32 : ∀ j, 0 ≤ j → j < 6 → gP wC 32 j ≠ sl (na + 2) := fun j j0 j1 e => by
        rcases h.pt.1 j j0 j1 with e' | ⟨q, a, b, e'⟩
        · exact hnz (e.symm.trans e')
        · exact hlt q b (e'.symm.trans e)
      have n33 : ∀ j, 0 ≤ j → j < 2 → gP wC 33 j ≠ sl (na + 2) := fun j j0 j1 e => by
        rcases h.pt.2.1 j j0 j1 with e' | ⟨q, a, b, e'⟩
        · exact hnz (e.symm.trans e')
        · exact hlt q b (e'.symm.trans e)
      have g32 : ∀ j, gP (sP (initS wC (sl (na + 2))) 33 x (sl (na + 2))) 32 j = gP wC 32 j := fun j => by rw [gP_sP, if_neg (by omega)]; rfl
      have g33 : ∀ j, gP (sP (initS wC (sl (na + 2))) 33 x (sl (na + 2))) 33 j = if j = x then sl (na + 2) else gP wC 33 j := fun j => by
        rw [gP_sP]
        by_cases d : j = x
        · rw [if_pos ⟨rfl, d⟩, if_pos d]
        · rw [if_neg (fun h => d h.2), if_neg d]; rfl
      refine key (na + 2) (na + 1) _ (by omega) (fun o k ho => by rw [gF_sP, initS_F (by omega) (by omega)]) (fun o i ho => by rw [gA_sP, initS_A ho]) (fun o i ho => by rw [gP_sP, if_neg ho]; rfl) (by rw [g33, if_pos rfl]) ?_ n32 (fun s s0 s1 _ => n33 s s0 s1)
      refine ⟨fun j j0 j1 => ?_, fun j j0 j1 => ?_, fun i j i0 i1 j0 j1 hn he => ?_, fun i j i0 i1 j0 j1 hn he => ?_, fun i j i0 i1 j0 j1 hn he => ?_⟩
      · rw [g32]
        rcases h.pt.1 j j0 j1 with e | ⟨q, a, b, e⟩
        · exact Or.inl e
        · exact Or.inr ⟨q, a, by omega, e⟩
      · rw [g33]
        by_cases d : j = x
        · rw [if_pos d]; exact Or.inr ⟨na + 2, by omega, by omega, rfl⟩
        · rw [if_neg d]
          rcases h.pt.2.1 j j0 j1 with e | ⟨q, a, b, e⟩
          · exact Or.inl e
          · exact Or.inr ⟨q, a, by omega, e⟩
      · rw [g32] at hn he
        rw [g32] at he
        exact h.pt.2.2.1 i j i0 i1 j0 j1 hn he
      · rw [g33] at hn he
        rw [g33] at he
        by_cases d : i = x
        · by_cases d2 : j = x
          · omega
          · rw [if_pos d, if_neg d2] at he; exact absurd he.symm (n33 j j0 j1)
        · by_cases d2 : j = x
          · rw [if_neg d, if_pos d2] at he; exact absurd he (n33 i i0 i1)
          · rw [if_neg d] at hn he; rw [if_neg d2] at he
            exact h.pt.2.2.2.1 i j i0 i1 j0 j1 hn he
      · rw [g32] at hn he
        rw [g33] at he
        by_cases d : j = x
        · rw [if_pos d] at he; exact n32 i i0 i1 he
        · rw [if_neg d] at he; exact h.pt.2.2.2.2 i j i0 i1 j0 j1 hn he
    · rw [if_neg (by rw [decide_eq_true_iff]; exact z)]
      obtain ⟨q, q5, q6⟩ := h.pt.s c z
      rw [q6]
      exact key q na wC q5 (fun _ _ _ => rfl) (fun _ _ _ => rfl) (fun _ _ _ => rfl) q6 h.pt (fun j j0 j1 e => by
        exact h.pt.2.2.2.2 j x j0 j1 c.1 c.2 (by rw [e]; unfold sl; omega) (by rw [e, q6])) (fun s s0 s1 hs e => hs (h.pt.2.2.2.1 s x s0 s1 c.1 c.2 (by rw [e]; unfold sl; omega) (by rw [e, q6])))
  · rw [if_neg c, decide_eq_false c, if_pos rfl, bindG_r]
    exact wex (h := hnd1 3) (f := fun r w => sA w 34 0 (w32 r)) (e := 3) (na' := na) (wC' := wC) rfl rfl rfl (Or.inl rfl) rfl (h.fr (frm_refl _) (frmM_0 _ _))
end CHZ
