/-! ===== flaws set; no flaws ===== -/
theorem nf_rng {f : Rw} (hV : VB f) : 0 ≤ nfF f ∧ nfF f ≤ 288 := by
  have hc : ∀ i : Int, 0 ≤ i → i < 288 → 0 ≤ f (11 + i) ∧ f (11 + i) ≤ 1 := fun i i0 i1 => by
    have h := hV.fc (c := i % 24) (r := i / 24) (by omega) (by omega) (by omega) (by omega)
    have e : fcF f (i % 24) (i / 24) = f (11 + i) := congrArg f (by omega)
    rw [e] at h
    omega
  unfold nfF
  exact ⟨sm_nonneg 288 (fun i i0 i1 => (hc i i0 (by omega)).1), by
    have := sm_le (g := fun k => f (11 + k)) (c := 1) 288 (fun i i0 i1 => (hc i i0 (by omega)).2)
    omega⟩
theorem wokB {k : Nat} {p8 : Option Rz} {h : Nat → Option Int} {pM : Option (Int × Wd)} {na' : Nat} {wC' wM' : Wd} {b : Bool} (h8 : p8 = some (.inl (b2 b), na', wC')) (hM : pM = some (b2 b, wM')) (ht : gF wM' 50 0 = 0) (hR : RR k na' wC' wM') :
    ∃ z, ((p8.bind (wrL h (fun r w => if eq32 r 0 = true then sA w 34 0 0 else sA w 34 0 1))).bind fun z1 => pM.bind fun m3 => (p_X9_thrown m3.2).bind fun m4 => if eq32 m4.1 z1.1 = true then (if eq32 z1.1 0 = true then (if eq32 m3.1 0 = true then (if eq32 (lcm64 (gA z1.2.2 34 0) 0) 0 = true then (some (z1.2.1, z1.2.2, m4.2)) else (none)) else (if eq32 (lcm64 (gA z1.2.2 34 0) 1) 0 = true then (some (z1.2.1, z1.2.2, m4.2)) else (none))) else (some (z1.2.1, z1.2.2, m4.2))) else (none)) = some z ∧ RR k z.1 z.2.1 z.2.2 := by
  subst h8 hM
  cases b with
  | false =>
    refine ⟨(na', sA wC' 34 0 0, wM'), ?_, hR.fr (frm_34 _ _) (frm_refl _)⟩
    show (if eq32 (gF wM' 50 0) 0 = true then (if eq32 0 0 = true then (if eq32 (b2 false) 0 = true then (if eq32 (lcm64 (gA (if eq32 (b2 false) 0 = true then sA wC' 34 0 0 else sA wC' 34 0 1) 34 0) 0) 0 = true then some (na', (if eq32 (b2 false) 0 = true then sA wC' 34 0 0 else sA wC' 34 0 1), wM') else none) else _) else _) else none) = _
    have e : eq32 (b2 false) 0 = true := by decide +kernel
    rw [ht, if_pos e00, if_pos e00, if_pos e, if_pos e, show gA (sA wC' 34 0 0) 34 0 = 0 from rfl, lcm64_self, if_pos e00]
  | true =>
    refine ⟨(na', sA wC' 34 0 1, wM'), ?_, hR.fr (frm_34 _ _) (frm_refl _)⟩
    show (if eq32 (gF wM' 50 0) 0 = true then (if eq32 0 0 = true then (if eq32 (b2 true) 0 = true then _ else (if eq32 (lcm64 (gA (if eq32 (b2 true) 0 = true then sA wC' 34 0 0 else sA wC' 34 0 1) 34 0) 1) 0 = true then some (na', (if eq32 (b2 true) 0 = true then sA wC' 34 0 0 else sA wC' 34 0 1), wM') else none)) else _) else none) = _
    have e : ¬ eq32 (b2 true) 0 = true := by decide +kernel
    rw [ht, if_pos e00, if_pos e00, if_neg e, if_neg e, show gA (sA wC' 34 0 1) 34 0 = 1 from rfl, lcm64_self, if_pos e00]
theorem wexB {k : Nat} {p8 : Option Rz} {h : Nat → Option Int} {pM : Option (Int × Wd)} {na' : Nat} {wC' wM' : Wd} {r c : Int} {e : Nat} {f : Int → Wd → Wd} (h8 : p8 = some (.inr e, na', wC')) (hM : pM = some (r, wM')) (hh : h e = some c) (hc : c = 1 ∨ c = 2) (ht : gF wM' 50 0 = c) (hR : RR k na' wC' wM') :
    ∃ z, ((p8.bind (wrL h f)).bind fun z1 => pM.bind fun m3 => (p_X9_thrown m3.2).bind fun m4 => if eq32 m4.1 z1.1 = true then (if eq32 z1.1 0 = true then (if eq32 m3.1 0 = true then (if eq32 (lcm64 (gA z1.2.2 34 0) 0) 0 = true then (some (z1.2.1, z1.2.2, m4.2)) else (none)) else (if eq32 (lcm64 (gA z1.2.2 34 0) 1) 0 = true then (some (z1.2.1, z1.2.2, m4.2)) else (none))) else (some (z1.2.1, z1.2.2, m4.2))) else (none)) = some z ∧ RR k z.1 z.2.1 z.2.2 := by
  rw [wrap_r h8 hh]
  subst hM
  refine ⟨(na', wC', wM'), ?_, hR⟩
  show (if eq32 (gF wM' 50 0) c = true then (if eq32 c 0 = true then _ else some (na', wC', wM')) else none) = _
  rw [ht, if_pos (eq32_self c)]
  rcases hc with rfl | rfl
  · exact if_neg e10
  · exact if_neg e20
section WK
variable {k na : Nat} {wC wM : Wd} {xs : Nat → Int32} {i : Int}
theorem setFlaw_both (h : RR k na wC wM) {x y : Int} (hx : rng x) (hy : rng y) (v : Bool) :
    ∃ z, (((p_X8_setFlaw x y (b2 v) na wC).bind (wrL (hnd2 3 1) (fun r w => if eq32 r 0 = true then sA w 34 0 0 else sA w 34 0 1))).bind fun z1 => (p_X9_setFlaw x y (b2 v) wM).bind fun m3 => (p_X9_thrown m3.2).bind fun m4 => if eq32 m4.1 z1.1 = true then (if eq32 z1.1 0 = true then (if eq32 m3.1 0 = true then (if eq32 (lcm64 (gA z1.2.2 34 0) 0) 0 = true then (some (z1.2.1, z1.2.2, m4.2)) else (none)) else (if eq32 (lcm64 (gA z1.2.2 34 0) 1) 0 = true then (some (z1.2.1, z1.2.2, m4.2)) else (none))) else (some (z1.2.1, z1.2.2, m4.2))) else (none)) = some z ∧ RR (k + 1) z.1 z.2.1 z.2.2 := by
  have hnf := nf_rng h.B
  have hM0 : p_X9_setFlaw x y (b2 v) wM = p_X9_setFlaw_55 x y (b2 v) (b2 (flF (gA wM 51) x y)) (b2 (flF (gA wM 51) x y || !v || decide (nfF (gA wM 51) < 40))) (b2 (isCF (gA wM 51) x y)) wM := by
    unfold p_X9_setFlaw p_X9_setFlaw_26
    rw [isCell_o h.f h.B hx hy, Option.bind_some]
    simp only [eq32_b2]
    have h27 : ∀ q : Bool, q = flF (gA wM 51) x y → p_X9_setFlaw_27 x y (b2 v) (b2 (isCF (gA wM 51) x y)) (b2 q) wM = p_X9_setFlaw_55 x y (b2 v) (b2 (flF (gA wM 51) x y)) (b2 (flF (gA wM 51) x y || !v || decide (nfF (gA wM 51) < 40))) (b2 (isCF (gA wM 51) x y)) wM := by
      rintro q rfl
      unfold p_X9_setFlaw_27 p_X9_setFlaw_50
      simp only [eq32_b2]
      cases hq : flF (gA wM 51) x y with
      | true => rw [if_neg (by decide)]; rfl
      | false =>
        rw [if_pos rfl]
        cases v with
        | false => rw [if_pos rfl]; rfl
        | true =>
          rw [if_neg (by decide), flaws_o h.f, Option.bind_some]
          simp (disch := omega) only [lt32_o]
          by_cases d : nfF (gA wM 51) < 40
          · rw [if_pos d, decide_eq_true d]; rfl
          · rw [if_neg d, decide_eq_false d]; rfl
    by_cases c : isCF (gA wM 51) x y = true
    · rw [if_neg (by rw [c]; decide), hasFlaw_o h.f h.B hx hy, Option.bind_some]
      simp only [eq32_b2]
      cases hq : flF (gA wM 51) x y with
      | false => rw [if_pos rfl]; have := h27 false hq.symm; rw [hq] at this; exact this
      | true => rw [if_neg (by decide)]; have := h27 true hq.symm; rw [hq] at this; exact this
    · have hfl : flF (gA wM 51) x y = false := by unfold flF; rw [bfF c]; rfl
      rw [if_pos (bfF c)]
      exact h27 false hfl.symm
  rw [hM0]
  unfold p_X9_setFlaw_55
  rw [passes2_o, Option.bind_some]
  simp only [eq32_b2]
  by_cases c : isCF (gA wM 51) x y = true
  · obtain ⟨hx1, hy1, hx2, hy2⟩ := isC_rng h.B c
    obtain ⟨vB, v1, v3, v4, v5, v6, v7, v8⟩ := h.V
    have h8 : p_X8_setFlaw x y (b2 v) na wC = if (flF (gA wM 51) x y || !v || decide (nfF (gA wM 51) < 40)) = true then p_X8_setFlaw_46 x y (b2 v) (b2 (flF (gA wM 51) x y)) na wC else some (.inr 1, na, wC) := by
      unfold p_X8_setFlaw
      rw [needCell_o h hx hy, if_pos c, bindG_l, cflaw_o SLo_0 h.B h.S hx hy, Option.bind_some]
      simp only [eq32_b2]
      cases v with
      | false => rw [if_pos rfl]; cases flF (gA wM 51) x y <;> rfl
      | true =>
        rw [if_neg (by decide)]
        cases flF (gA wM 51) x y with
        | true => rw [if_neg (by decide)]; rfl
        | false =>
          rw [if_pos rfl, flawC_o SLo_0 h.B h.S, Option.bind_some]
          simp (disch := omega) only [lt32_o]
          by_cases d : nfF (gA wM 51) < 40
          · rw [if_pos d, decide_eq_true d]; rfl
          · rw [if_neg d, decide_eq_false d]; rfl
    rw [h8, c]
    by_cases g : (flF (gA wM 51) x y || !v || decide (nfF (gA wM 51) < 40)) = true
    · rw [if_pos g, g, if_neg (show ¬ (true && true) = false by decide)]
      obtain ⟨w1, a1, a2, a3, a4⟩ := h.cp
      obtain ⟨w2, b1, b2', b3⟩ := mark_o SLo_1 h.B a4 c v
      obtain ⟨m1, c1, c2, c3, c3', c4⟩ := begin_o h (frmM_0 wM 0)
      obtain ⟨e1, e2, e3⟩ := h.ny c2
      obtain ⟨p1, p2⟩ := put9 e1 e2 e3 (v := b2 v) hx1 hy1
      have hst := op_stay h (wC1 := w2) (wM1 := sA m1 51 ((11 + (24 * y)) + x) (b2 v)) (f' := mkF (gA wM 51) x y (b2 v)) (frm_trans a3 (frm_118 b2')) b3 (frm_sA (frm_5 c2) (Or.inr rfl))
        ⟨c3.1, fun v v0 v1 => c3.2 v v0 v1⟩ (fun i i0 i1 => by rw [gA_sA, if_neg (by omega)]; exact c3' i i0 i1) p2 (mkF_VB h.B hx1 hy1) (mkF_Z h.z hx1 hy1) (by rw [mkF_n hx1 hy1 (by omega)]; exact v1) (fun i i0 i1 => mkF_n hx1 hy1 (by omega)) (fun n9 w10 => zrG (b2 (flF (gA wM 51) x y)) n9 w10)
      have h79 : (if v = false then p_X9_setFlaw_79 (b2 (flF (gA wM 51) x y)) 0 y x m1 else p_X9_setFlaw_79 (b2 (flF (gA wM 51) x y)) 1 y x m1) = p_X9_setFlaw_79 (b2 (flF (gA wM 51) x y)) (b2 v) y x m1 := by cases v <;> rfl
      have hm1 : p_X9_beginChange (sF wM 50 0 (if true = true then if true = true then 0 else 2 else 1)) = some m1 := c1
      rw [hm1, Option.bind_some, h79]
      unfold p_X9_setFlaw_79 p_X8_setFlaw_46
      rw [p1, Option.bind_some, a1, Option.bind_some, b1, Option.bind_some]
      rcases hst with ⟨na', wC', wM', s1, s2, s3, s4, s5, s6⟩ | ⟨wC', wM', s1, s2, s3⟩
      · rw [s2, Option.bind_some]
        dsimp only
        have hp2 := passes2_l (q := true) (w := wM')
        rw [show (1 : Int) = b2 true from rfl] at hp2 ⊢
        rw [hp2, Option.bind_some]
        refine wokB (b := flF (gA wM 51) x y) (na' := na') (wC' := wC') (wM' := sF wM' 50 0 0) ?_ ?_ rfl (s3.fr (frm_refl _) (frmM_0 _ _))
        · rw [s1, zrG_b2]
        · dsimp only
          rw [if_neg (show ¬ eq32 (b2 true) 0 = true by decide +kernel)]
          simp only [eq32_b2]
          cases flF (gA wM 51) x y <;> rfl
      · rw [s2, Option.bind_some]
        dsimp only
        have hp2 := passes2_l (q := false) (w := wM')
        rw [show (0 : Int) = b2 false from rfl] at hp2 ⊢
        rw [hp2, Option.bind_some]
        exact wexB (h := hnd2 3 1) (f := fun r w => if eq32 r (b2 false) = true then sA w 34 0 (b2 false) else sA w 34 0 1) (e := 1) (c := 2) (na' := na) (wC' := wC') (r := b2 false) (wM' := sF wM' 50 0 2) s1 rfl rfl (Or.inr rfl) rfl ((s3.fr (frm_refl _) (frmM_0 _ _)).mono (Nat.le_succ k))
    · rw [if_neg g, bfF g, if_pos (show (true && false) = false from rfl)]
      exact wexB (h := hnd2 3 1) (e := 1) (na' := na) (wC' := wC) rfl rfl rfl (Or.inr rfl) rfl ((h.fr (frm_refl _) (frmM_0 _ _)).mono (Nat.le_succ k))
  · rw [bfF c, if_pos (show (false && (flF (gA wM 51) x y || !v || decide (nfF (gA wM 51) < 40))) = false from rfl)]
    have h8 : p_X8_setFlaw x y (b2 v) na wC = some (.inr 3, na, wC) := by
      unfold p_X8_setFlaw
      rw [needCell_o h hx hy, if_neg c, bindG_r]
    exact wexB (h := hnd2 3 1) (e := 3) (na' := na) (wC' := wC) h8 rfl rfl (Or.inl rfl) rfl ((h.fr (frm_refl _) (frmM_0 _ _)).mono (Nat.le_succ k))
theorem op37 (h : RR k na wC wM) : ∃ z, p_op_37 xs i na wC wM = some z ∧ RR (k + 1) z.1 z.2.1 z.2.2 := by
  unfold p_op_37 p_L_setFlaw
  by_cases c : eq32 (sc xs (i + 3)) 0 = true
  · simp only [c, if_true]
    exact setFlaw_both h (sc_rng xs (i + 1)) (sc_rng xs (i + 2)) false
  · rw [if_neg c]
    simp only [bfF c, Bool.false_eq_true, if_false]
    exact setFlaw_both h (sc_rng xs (i + 1)) (sc_rng xs (i + 2)) true
/-- no flaws -/
def noF (f : Rw) : Rw := fun j => if 11 ≤ j ∧ j < 299 then 0 else f j
theorem noF_VB {f : Rw} (hV : VB f) : VB (noF f) :=
  VB_of hV (fun i hi => if_neg (by omega)) rfl hV.r hV.g (fun c r c0 c1 r0 r1 => Or.inl (if_pos (by omega)))
theorem op23 (h : RR k na wC wM) : ∃ z, p_op_23 xs i na wC wM = some z ∧ RR k z.1 z.2.1 z.2.2 := by
  obtain ⟨w1, a1, a2, a3, a4⟩ := h.cp
  have hcl : p_X5_clear 117 w1 = some (setR w1 118 (fun j => if 0 ≤ j ∧ j < 12 then 0 else gA w1 118 j)) := clear_eq (o := 117)
  have hS' : RS (setR w1 118 (fun j => if 0 ≤ j ∧ j < 12 then 0 else gA w1 118 j)) 116 (noF (gA wM 51)) := by
    refine a4.of (fun i hi => if_neg (by omega)) a4.1.1 a4.1.2.1 a4.1.2.2.1 (fun _ _ _ => rfl) (fun _ => rfl) (fun d hd hd2 i => by rw [gA_setR, if_neg (by omega)]) (fun r r0 r1 i hi => ?_) (fun c r c0 c1 r0 r1 hh => ?_)
    · rw [gA_setR, if_pos rfl, if_pos ⟨r0, r1⟩, bI_0]
      by_cases e : i < 24
      · rw [show fcF (noF (gA wM 51)) i r = 0 from if_pos (by omega)]; simp
      · rw [decide_eq_false e]; rfl
    · rw [show fcF (noF (gA wM 51)) c r = 0 from if_pos (by omega)] at hh
      exact absurd hh (by decide)
  obtain ⟨w2, b1, b2'⟩ := lot_o (noF_VB h.B) hS'
  obtain ⟨m1, c1, c2, c3, c4⟩ := as9 h (frmM_0 wM 0)
  have e51 := (h.ny c2).2.2
  obtain ⟨m2, d1, d2, d3⟩ := loop_up (lp := fun n x w => p_X9_laidWithout_11 n x w) (fin := p_X9_laidWithout_34) (b := 288) (I := fun x w' => 0 ≤ x ∧ w' = setR m1 51 (fun j => if 11 ≤ j ∧ j < 11 + x then 0 else gA m1 51 j))
    (fun n x w' hx hI => by
      obtain ⟨i0, rfl⟩ := hI
      simp (disch := omega) only [p_X9_laidWithout_11, lt32_o, hx, if_true, inb_f, if_false]
      refine ⟨_, rfl, by omega, ?_⟩
      rw [sA_setR, setR_setR]
      refine setR_ext fun j => ?_
      show (if j = 11 + x then _ else _) = _
      by_cases e : j = 11 + x
      · rw [if_pos e, if_pos (by omega)]
      · rw [if_neg e, gA_setR, if_pos rfl]
        by_cases e2 : 11 ≤ j ∧ j < 11 + x
        · rw [if_pos e2, if_pos (by omega)]
        · rw [if_neg e2, if_neg (by omega)])
    (fun n w' hI => by simp (disch := omega) only [p_X9_laidWithout_11, lt32_o, Int.lt_irrefl, if_false])
    FU 0 m1 (by decide) ⟨Int.le_refl _, (setR_self fun j => if_neg (by omega)).symm⟩ (by decide)
  have e512 : gA m2 51 = noF (gA wM 51) := funext fun j => by
    rw [d3, gA_setR, if_pos rfl, e51]; rfl
  obtain ⟨m3, m4, x1, x2, x3, x4⟩ := wi9 h (w := m2) (f' := noF (gA wM 51)) (by rw [d3]; exact frm_setR (frm_5 c2) (Or.inr rfl)) (fun i i0 i1 => by rw [d3, gA_setR, if_neg (by decide)]; exact c3 i i0 i1) e512 (noF_VB h.B) (fun j hj => (if_neg (by omega)).trans (h.z j hj))
  refine dok (p8 := p_X8_laidWithout wC) (pM := p_X9_laidWithout wM) (r := nLF (noF (gA wM 51))) (wC' := w2) (wM' := m4) ?_ ?_ (h.fr (frm_trans (frm_setR a3 (by unfold TCf; omega)) (frm_L20 b2')) x3)
  · unfold p_X8_laidWithout
    rw [a1, Option.bind_some, hcl, Option.bind_some, b1, Option.bind_some]
  · unfold p_X9_laidWithout
    rw [c1, Option.bind_some, d1]
    unfold p_X9_laidWithout_34
    rw [x1, Option.bind_some]
    dsimp only
    rw [x2, Option.bind_some]
end WK
