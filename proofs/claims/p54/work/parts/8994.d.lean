/-! ===== what the law's acts leave of the carved words ===== -/
def CH (f g : Rw) : Prop := f 8 ≤ g 8 ∧ ktF f ≤ nLF g ∧ ∀ v, 0 ≤ v → v < ktF f → rLF f v = rLF g v ∧ cLF f v = cLF g v ∧ wbF f v 0 = wbF g v 0
theorem CH.rf {f : Rw} (hV : VB f) (h8 : 0 ≤ f 8 ∧ f 8 ≤ laF f (nLF f)) : CH f f := ⟨Int.le_refl _, (kt_rng hV h8).1.2, fun _ _ _ => ⟨rfl, rfl, rfl⟩⟩
theorem CH.st {f g : Rw} (hV : VB f) (h8 : 0 ≤ f 8 ∧ f 8 ≤ laF f (nLF f)) (h : stF f g = true) (e8 : g 8 = f 8) : CH f g := by
  have h1 := Bool.and_eq_true _ _ ▸ h
  have h2 := of_decide_eq_true h1.1
  have h3 := (allb_iff _ _).mp h1.2
  obtain ⟨k1, k2, k3⟩ := kt_rng hV h8
  have hn := nL_rng hV
  refine ⟨by omega, h2, fun v v0 v1 => ?_⟩
  have h4 := h3 v v0 (by omega)
  unfold sbF at h4
  rw [Bool.and_eq_true, Bool.and_eq_true, Bool.and_eq_true] at h4
  have hw := hV.wn v0 (show v < f 10 by omega)
  exact ⟨of_decide_eq_true h4.1, of_decide_eq_true h4.2.1, of_decide_eq_true ((allb_iff _ _).mp h4.2.2.2 0 (Int.le_refl 0) (by omega))⟩
theorem CH.sam {f g : Rw} (hV : VB f) (h8 : 0 ≤ f 8 ∧ f 8 ≤ laF f (nLF f)) (h : SAM f g) (e8 : f 8 ≤ g 8) : CH f g := by
  have hl := h.lF hV
  obtain ⟨k1, k2, k3⟩ := kt_rng hV h8
  refine ⟨e8, by unfold nLF at k1 ⊢; rw [hl]; omega, fun v v0 v1 => ⟨by unfold rLF; rw [hl], by unfold cLF; rw [hl], (h _ (by omega)).symm⟩⟩
section AC
variable {k na : Nat} {wC wM : Wd}
/-- both sides of a change that carved letters may forbid -/
theorem op_stay2 (h : RR k na wC wM) {wC1 wM1 : Wd} {f' : Rw} (hC : frm SCf TCf wC wC1) (hS : RS wC1 116 f') (hM : frm SMf TM5 wM wM1) (hK : KEP wM1 (gA wM 51)) (hA : ASI wM1 (gA wM 51)) (h51 : gA wM1 51 = f') (hV : VB f') (hZ : Z0 f') (h2 : 2 ≤ f' 1) (h38 : ∀ i, 3 ≤ i → i ≤ 8 → f' i = gA wM 51 i) (K : Nat → Wd → Option Rz) :
    (∃ na' wC' wM', (bindG (p_X8_needCarvedStay na wC1) fun _ n8 w9 => bindG (p_X8_settle n8 w9) fun _ n13 w14 => K n13 w14) = K na' wC' ∧ p_X9_stays wM1 = some (1, wM') ∧ RR (k + 1) na' wC' wM' ∧ gA wM' 51 = f' ∧ gF wM' 50 6 = nLF f' ∧ gF wM' 50 0 = gF wM1 50 0 ∧ stF (gA wM 51) f' = true ∧ gF wM' 50 18 = gF wM 50 18) ∨
    (∃ wC' wM', (bindG (p_X8_needCarvedStay na wC1) fun _ n8 w9 => bindG (p_X8_settle n8 w9) fun _ n13 w14 => K n13 w14) = some (.inr 1, na, wC') ∧ p_X9_stays wM1 = some (0, wM') ∧ RR k na wC' wM' ∧ gA wM' 51 = gA wM 51 ∧ gF wM' 50 18 = gF wM 50 18) := by
  obtain ⟨vB, v1, v3, v4, v5, v6, v7, v8⟩ := h.V
  have h1 := h.fr hC (frm_refl wM)
  obtain ⟨w2, a1, a2⟩ := staysC h.B hV v8 h1.S h1.L hS
  have a3 : frm SCf TCf wC w2 := frm_trans hC (frm_mono a2 (fun o k h => by have := h.1; unfold SCf; omega) (fun o h => by unfold TLC at h; unfold TCf; omega))
  have hS2 : RS w2 116 f' := hS.lay a2 SLo_1 (Or.inr rfl)
  have hp1 : gP wM1 50 3 = 51 := (hM.2.2 _ _).trans h.pp
  have hcr : cR wM1 = f' := by unfold cR; rw [hp1, h51]
  obtain ⟨m2, b1, b2', b3⟩ := allStay_o h.B hV v8 hcr hp1 hK
  have hM2 : frm SMf TM5 wM m2 := frm_trans hM (frm_5 (frm_L9 b2'))
  have hA2 : ASI m2 (gA wM 51) := fun i i0 i1 => (b2'.2.1 55 (by unfold TL9; decide) i).trans (hA i i0 i1)
  have h512 : gA m2 51 = f' := (funext fun i => b2'.2.1 51 (by unfold TL9; decide) i).trans h51
  have ht2 : gF m2 50 0 = gF wM1 50 0 := b2'.1 50 0 (by unfold SL9; omega)
  unfold p_X9_stays
  rw [a1 na, b1, Option.bind_some]
  simp only [eq32_b2]
  cases hst : stF (gA wM 51) f' with
  | true =>
    left
    rw [if_pos rfl, bindG_l, if_neg (by decide)]
    have e31 : gF m2 50 31 = gF wM 50 31 := hM2.1 50 31 (by unfold SMf; omega)
    obtain ⟨m3, c1, c2, c3, c4, c5⟩ := rem9 (o := 55) (Or.inr rfl) e31 h.pa.2
    have nP : ∀ j, prM m2 j = prM wM j := fun j => congrArg nrm (funext fun i => hM2.2.1 63 (by unfold TM5 TMf; omega) _)
    have n55 : nrm (gA m2 55) = gA wM 51 := funext fun i => by
      unfold nrm
      by_cases c : 0 ≤ i ∧ i < 1099
      · rw [if_pos c]; exact hA2 i c.1 c.2
      · rw [if_neg c]; exact (h.z i c).symm
    have hCM : CHM wM m3 (gF wM 50 31) (shO (gF wM 50 31)) (gA wM 51) f' := by
      refine ⟨(c2.2.2 _ _).trans ((hM2.2.2 _ _).trans h.pp), (funext fun i => c2.2.1 51 (by decide) i).trans h512, c3, fun j j0 j1 => (c4 j j0 j1).trans (nP _), c5.trans n55, ⟨?_, ?_, ?_, ?_⟩, fun i => ?_, fun i => ?_, fun i => ?_, fun i => ?_⟩
      · exact (c2.1 50 18 (by decide)).trans (hM2.1 50 18 (by unfold SMf; omega))
      · exact (c2.1 50 24 (by decide)).trans (hM2.1 50 24 (by unfold SMf; omega))
      · exact (c2.1 50 25 (by decide)).trans (hM2.1 50 25 (by unfold SMf; omega))
      · exact (c2.1 50 33 (by decide)).trans (hM2.1 50 33 (by unfold SMf; omega))
      · exact (c2.2.1 60 (by decide) i).trans (hM2.2.1 60 (by unfold TM5 TMf; omega) i)
      · exact (c2.2.1 61 (by decide) i).trans (hM2.2.1 61 (by unfold TM5 TMf; omega) i)
      · exact (c2.2.1 62 (by decide) i).trans (hM2.2.1 62 (by unfold TM5 TMf; omega) i)
      · exact (c2.2.1 64 (by decide) i).trans (hM2.2.1 64 (by unfold TM5 TMf; omega) i)
    have hV' : VF (k + 1) f' := by
      refine ⟨hV, h2, by rw [h38 3 (by decide) (by decide)]; exact v3, by rw [h38 4 (by decide) (by decide)]; exact v4, by rw [h38 5 (by decide) (by decide), h38 3 (by decide) (by decide)]; exact v5, by rw [h38 6 (by decide) (by decide)]; omega, by rw [h38 7 (by decide) (by decide)]; omega, ?_⟩
      rw [h38 8 (by decide) (by decide)]
      exact ⟨v8.1, st_la hst vB hV v8⟩
    obtain ⟨na', wC', s1, s2⟩ := h.settle a3 hS2 hV' hZ hCM
    rw [s1, bindG_l, c1, Option.bind_some]
    exact ⟨na', wC', m3, rfl, rfl, s2, hCM.2.1, (c2.1 50 6 (by decide)).trans b3, (c2.1 50 0 (by decide)).trans ht2, rfl, hCM.2.2.2.2.2.1.1⟩
  | false =>
    right
    rw [if_neg (by decide), bindG_r, if_pos rfl, layBack_o, Option.bind_some]
    refine ⟨w2, _, rfl, rfl, h.fr a3 (frm_51 (frm_setR hM2 (Or.inr rfl)) (back_p hA2 h512 h.z hZ)), back_p hA2 h512 h.z hZ, hM2.1 50 18 (by unfold SMf; omega)⟩

/-- how an act ends -/
def AC (k na : Nat) (wC wM : Wd) (p8 : Option Rz) : Prop := ∃ (z : Rz) (wM' : Wd), p8 = some z ∧ ((∃ r, z.1 = .inl r) ∨ z.1 = .inr 1) ∧ RR (k + 1) z.2.1 z.2.2 wM' ∧ CH (gA wM 51) (gA wM' 51) ∧ gF z.2.2 2 1 = gF wC 2 1
def AC1 (k na : Nat) (wC wM : Wd) (p8 : Option Rz) : Prop := ∃ (r : Int) (z : Nat × Wd) (wM' : Wd), p8 = some (.inl r, z) ∧ RR (k + 1) z.1 z.2 wM' ∧ CH (gA wM 51) (gA wM' 51) ∧ gF z.2 2 1 = gF wC 2 1
theorem ac_mk {p8 : Option Rz} {r : Int} {na' : Nat} {wC' wM' : Wd} (h8 : p8 = some (.inl r, na', wC')) (hR : RR (k + 1) na' wC' wM') (hc : CH (gA wM 51) (gA wM' 51)) (hi : gF wC' 2 1 = gF wC 2 1) : AC1 k na wC wM p8 := ⟨r, (na', wC'), wM', h8, hR, hc, hi⟩
theorem RR.inp {k k' na na' : Nat} {wC wM wC' wM' : Wd} (h : RR k na wC wM) (h' : RR k' na' wC' wM') (e : gF wM' 50 18 = gF wM 50 18) : gF wC' 2 1 = gF wC 2 1 := h'.2.2.2.2.2.1.1.trans (e.trans h.2.2.2.2.2.1.1.symm)
theorem RR.ch (h : RR k na wC wM) : CH (gA wM 51) (gA wM 51) := by
  obtain ⟨vB, v1, v3, v4, v5, v6, v7, v8⟩ := h.V
  exact CH.rf vB v8
theorem stay_ac (h : RR k na wC wM) {wC1 wM1 : Wd} {f' : Rw} (hC : frm SCf TCf wC wC1) (hS : RS wC1 116 f') (hM : frm SMf TM5 wM wM1) (hK : KEP wM1 (gA wM 51)) (hA : ASI wM1 (gA wM 51)) (h51 : gA wM1 51 = f') (hV : VB f') (hZ : Z0 f') (h2 : 2 ≤ f' 1) (h38 : ∀ i, 3 ≤ i → i ≤ 8 → f' i = gA wM 51 i) (K : Nat → Wd → Option Rz) (hKK : ∀ n w, ∃ r, K n w = some (.inl r, n, w)) :
    AC k na wC wM (bindG (p_X8_needCarvedStay na wC1) fun _ n8 w9 => bindG (p_X8_settle n8 w9) fun _ n13 w14 => K n13 w14) := by
  obtain ⟨vB, v1, v3, v4, v5, v6, v7, v8⟩ := h.V
  rcases op_stay2 h hC hS hM hK hA h51 hV hZ h2 h38 K with ⟨na', wC', wM', s1, s2, s3, s4, s5, s6, s7, s8⟩ | ⟨wC', wM', s1, s2, s3, s4, s8⟩
  · obtain ⟨r, hr⟩ := hKK na' wC'
    exact ⟨_, wM', s1.trans hr, Or.inl ⟨r, rfl⟩, s3, by rw [s4]; exact CH.st vB v8 s7 (h38 8 (by decide) (by decide)), h.inp s3 s8⟩
  · exact ⟨_, wM', s1, Or.inr rfl, s3.mono (Nat.le_succ k), by rw [s4]; exact h.ch, h.inp s3 s8⟩
theorem ac35 (h : RR k na wC wM) {x : Int} (c : 0 ≤ x ∧ x < gA wM 51 9) : AC k na wC wM (p_X8_dropPart x na wC) := by
  have hp := h.B.p
  have hx : rng x := ⟨by omega, by omega⟩
  unfold p_X8_dropPart
  rw [needPart_o h hx, if_pos c, bindG_l]
  obtain ⟨vB, v1, v3, v4, v5, v6, v7, v8⟩ := h.V
  have hsel := tpF_sel h.B c
  have hV' := hsel.VB h.B
  obtain ⟨w1, a1, a2, a3⟩ := without_o h c hsel (tpF_9 h.B c).1
  obtain ⟨m1, c1, c2, c3, c3', c4⟩ := begin_o h (frmM_0 wM (b2 (!true)))
  obtain ⟨e1, e2, e3⟩ := h.ny c2
  obtain ⟨m2, d1, d2, d3⟩ := takePart9 h.B e2 e3 c
  rw [a1, Option.bind_some]
  exact stay_ac h (wC1 := w1) (wM1 := m2) (f' := tpF (gA wM 51) x) a2 a3 (frm_trans (frm_5 c2) (frm_mono d2 (fun _ _ h => absurd h id) (fun o h => Or.inr h)))
    ⟨(d2.1 50 16 id).trans c3.1, fun u u0 u1 => ⟨(d2.2.1 57 (by decide) u).trans (c3.2 u u0 u1).1, (d2.2.1 58 (by decide) u).trans (c3.2 u u0 u1).2.1, fun j j0 j1 => (d2.2.1 59 (by decide) _).trans ((c3.2 u u0 u1).2.2 j j0 j1)⟩⟩
    (fun i i0 i1 => (d2.2.1 55 (by decide) i).trans (c3' i i0 i1)) d3 hV' (tpF_Z h.B c h.z) (by rw [hsel.1 1 (by omega)]; exact v1) (fun i i0 i1 => hsel.1 i (by omega)) (fun n13 w14 => some (Sum.inl (gF w14 10 4), n13, w14)) (fun n w => ⟨_, rfl⟩)
theorem ac36 (h : RR k na wC wM) {x y : Int} (c : 0 ≤ x ∧ x < gA wM 51 9) (ct : 0 ≤ y ∧ y < gA wM 51 9) : AC k na wC wM (p_X8_movePart x y na wC) := by
  have hp := h.B.p
  have hx : rng x := ⟨by omega, by omega⟩
  have hy : rng y := ⟨by omega, by omega⟩
  unfold p_X8_movePart
  rw [needPart_o h hx, if_pos c, bindG_l, needPart_o h hy, if_pos ct, bindG_l]
  obtain ⟨vB, v1, v3, v4, v5, v6, v7, v8⟩ := h.V
  obtain ⟨hsel, hs9⟩ := mvF_sel h.B c ct
  have hV' := hsel.VB h.B
  obtain ⟨w1, a1, a2, a3⟩ := moved_o h c ct hsel hs9
  obtain ⟨m1, c1, c2, c3, c3', c4⟩ := begin_o h (frmM_0 wM 0)
  obtain ⟨e1, e2, e3⟩ := h.ny c2
  obtain ⟨m2, d1, d2, d3⟩ := moveNow9 h.B e2 e3 c ct
  rw [a1, Option.bind_some]
  exact stay_ac h (wC1 := w1) (wM1 := m2) (f' := mvF (gA wM 51) x y) a2 a3 (frm_trans (frm_5 c2) (frm_mono d2 (fun _ _ h => absurd h id) (fun o h => by unfold TM5 TMf; omega)))
    ⟨(d2.1 50 16 id).trans c3.1, fun u u0 u1 => ⟨(d2.2.1 57 (by decide) u).trans (c3.2 u u0 u1).1, (d2.2.1 58 (by decide) u).trans (c3.2 u u0 u1).2.1, fun j j0 j1 => (d2.2.1 59 (by decide) _).trans ((c3.2 u u0 u1).2.2 j j0 j1)⟩⟩
    (fun i i0 i1 => (d2.2.1 55 (by decide) i).trans (c3' i i0 i1)) d3 hV' (mvF_Z h.B c ct h.z) (by rw [hsel.1 1 (by omega)]; exact v1) (fun i i0 i1 => hsel.1 i (by omega)) (fun n13 w14 => some (Sum.inl (gF w14 10 4), n13, w14)) (fun n w => ⟨_, rfl⟩)
theorem ac37 (h : RR k na wC wM) {x y : Int} (c : isCF (gA wM 51) x y = true) (v : Bool) : AC k na wC wM (p_X8_setFlaw x y (b2 v) na wC) := by
  obtain ⟨hx1, hy1, hx2, hy2⟩ := isC_rng h.B c
  have hx : rng x := ⟨by omega, by omega⟩
  have hy : rng y := ⟨by omega, by omega⟩
  have hnf := nf_rng h.B
  obtain ⟨vB, v1, v3, v4, v5, v6, v7, v8⟩ := h.V
  have h8 : p_X8_setFlaw x y (b2 v) na wC = if (flF (gA wM 51) x y || !v || decide (nfF (gA wM 51) < 40)) = true then p_X8_setFlaw_46 x y (b2 v) (b2 (flF (gA wM 51) x y)) na wC else some (.inr 1, na, wC) := by
    unfold p_X8_setFlaw
    rw [needCell_o h hx hy, if_pos c, bindG_l, cflaw_o SLo_0 h.B h.S hx hy, Option.bind_some]
    simp only [eq32_b2]
    cases v with
    | false => rw [if_pos rfl]; cases flF (gA wM 51) x y <;> rfl
    | true =>
      rw [if_neg (by decide)]
      cases flF (gA wM 51) x y with
      | true => rw [if_neg (by decide)]; rfl
      | false =>
        rw [if_pos rfl, flawC_o SLo_0 h.B h.S, Option.bind_some]
        simp (disch := omega) only [lt32_o]
        by_cases d : nfF (gA wM 51) < 40
        · rw [if_pos d, decide_eq_true d]; rfl
        · rw [if_neg d, decide_eq_false d]; rfl
  rw [h8]
  by_cases g : (flF (gA wM 51) x y || !v || decide (nfF (gA wM 51) < 40)) = true
  · rw [if_pos g]
    obtain ⟨w1, a1, a2, a3, a4⟩ := h.cp
    obtain ⟨w2, b1, b2', b3⟩ := mark_o SLo_1 h.B a4 c v
    obtain ⟨m1, c1, c2, c3, c3', c4⟩ := begin_o h (frmM_0 wM 0)
    obtain ⟨e1, e2, e3⟩ := h.ny c2
    obtain ⟨p1, p2⟩ := put9 e1 e2 e3 (v := b2 v) hx1 hy1
    unfold p_X8_setFlaw_46
    rw [a1, Option.bind_some, b1, Option.bind_some]
    exact stay_ac h (wC1 := w2) (wM1 := sA m1 51 ((11 + (24 * y)) + x) (b2 v)) (f' := mkF (gA wM 51) x y (b2 v)) (frm_trans a3 (frm_118 b2')) b3 (frm_sA (frm_5 c2) (Or.inr rfl))
      ⟨c3.1, fun v v0 v1 => c3.2 v v0 v1⟩ (fun i i0 i1 => by rw [gA_sA, if_neg (by omega)]; exact c3' i i0 i1) p2 (mkF_VB h.B hx1 hy1) (mkF_Z h.z hx1 hy1) (by rw [mkF_n hx1 hy1 (by omega)]; exact v1) (fun i i0 i1 => mkF_n hx1 hy1 (by omega)) (fun n9 w10 => zrG (b2 (flF (gA wM 51) x y)) n9 w10) (fun n w => ⟨_, zrG_b2 _ _ _⟩)
  · rw [if_neg g]
    exact ⟨_, wM, rfl, Or.inr rfl, h.mono (Nat.le_succ k), h.ch, rfl⟩
theorem ac38 (h : RR k na wC wM) {x : Int} (c : 0 ≤ x ∧ x ≤ 3) : AC k na wC wM (p_X8_setGap x na wC) := by
  have hx : rng x := ⟨by omega, by omega⟩
  unfold p_X8_setGap
  rw [needGap_o hx, if_pos c, bindG_l]
  obtain ⟨vB, v1, v3, v4, v5, v6, v7, v8⟩ := h.V
  obtain ⟨w1, a1, a2, a3, a4⟩ := h.cp
  have hV' := gap_VB h.B c
  obtain ⟨m1, c1, c2, c3, c3', c4⟩ := begin_o h (frmM_0 wM (b2 (!true)))
  have h51 := (h.ny c2).2.2
  rw [a1, Option.bind_some]
  exact stay_ac h (wC1 := sF w1 116 2 x) (wM1 := sA m1 51 2 x) (f' := upd1 (gA wM 51) 2 x) (frm_sF a3 (by unfold SCf; omega)) (gap_RS a4) (frm_sA (frm_5 c2) (Or.inr rfl))
    ⟨c3.1, fun v v0 v1 => c3.2 v v0 v1⟩ (fun i i0 i1 => by rw [gA_sA, if_neg (by omega)]; exact c3' i i0 i1) (by rw [gA_upd, h51]) hV' (upd1_Z h.z (by decide)) v1 (fun i i0 i1 => upd1_n _ x (by omega)) (fun n13 w14 => some (Sum.inl (gF wC 100 2), n13, w14)) (fun n w => ⟨_, rfl⟩)
theorem ac39 (h : RR k na wC wM) : AC k na wC wM (p_X8_turnSlab na wC) := by
  obtain ⟨vB, v1, v3, v4, v5, v6, v7, v8⟩ := h.V
  have h288 := (lF_ok h.B).2.2.2
  have e11 : gF wC 100 11 = gA wM 51 8 := h.S.1.2.2.2.2.2
  unfold p_X8_turnSlab
  rw [e11]
  by_cases c : gA wM 51 8 = 0
  · rw [if_neg (show ¬ lt32 0 (gA wM 51 8) = true by rw [lt32_o (by omega)]; omega)]
    obtain ⟨w1, a1, a2, a3, a4⟩ := h.cp
    obtain ⟨w2, b1, b2', b3⟩ := turnC h.B a4 (h.fr a3 (frm_refl wM)).S
    obtain ⟨m1, d1, d2, d3⟩ := h.rem (frmM_0 wM 0)
    obtain ⟨m2, t1, t2, t3⟩ := turn9 h.B d3.1 d3.2.1
    have hp2 : gP m2 50 3 = 51 := (t2.2.2 _ _).trans d3.1
    have hcr2 : cR m2 = tuF (gA wM 51) := by unfold cR; rw [hp2, t3]
    obtain ⟨m3, l1, l2, l3⟩ := lay9 (tuF_VB h.B) hcr2 hp2
    have hn : ∀ i, 3 ≤ i → i ≤ 8 → tuF (gA wM 51) i = gA wM 51 i := fun i i0 i1 => tuP_n h.B (by omega)
    have hV' : VF (k + 1) (tuF (gA wM 51)) := by
      refine ⟨tuF_VB h.B, ?_, by rw [hn 3 (by decide) (by decide)]; exact v3, by rw [hn 4 (by decide) (by decide)]; exact v4, by rw [hn 5 (by decide) (by decide), hn 3 (by decide) (by decide)]; exact v5, by rw [hn 6 (by decide) (by decide)]; omega, by rw [hn 7 (by decide) (by decide)]; omega, ?_⟩
      · rw [show tuF (gA wM 51) 1 = gA wM 51 1 from tuP_n h.B (by omega)]; exact v1
      · rw [hn 8 (by decide) (by decide), c]
        have hk := nL_rng (tuF_VB h.B)
        have := laF_rng (tuF_VB h.B) hk.1 hk.2.1
        omega
    have hM := (d3.up (w' := m3) (frm_trans (frm_mono t2 (fun _ _ h => absurd h id) (fun o h => Or.inr h)) (frm_5 (frm_L9 l1))) ((funext fun i => l1.2.1 51 (by unfold TL9; decide) i).trans t3))
    obtain ⟨na', wC', s1, s2⟩ := h.settle (frm_trans a3 (frm_mono b2' (fun _ _ h => absurd h id) (fun o h => by unfold TCf; omega))) b3 hV' (tuF_Z h.B h.z) hM
    have hk0 : ktF (gA wM 51) = 0 := if_pos c
    have hnt := nL_rng (tuF_VB h.B)
    refine ⟨_, m3, (by rw [a1, Option.bind_some, b1, Option.bind_some, s1, bindG_l]), Or.inl ⟨_, rfl⟩, s2, ?_, h.inp s2 hM.2.2.2.2.2.1.1⟩
    rw [hM.2.1]
    exact ⟨by rw [hn 8 (by decide) (by decide)]; exact Int.le_refl _, by omega, fun v v0 v1 => absurd v1 (by omega)⟩
  · rw [if_pos (show lt32 0 (gA wM 51 8) = true by rw [lt32_o (by omega)]; omega)]
    exact ⟨_, wM, rfl, Or.inr rfl, h.mono (Nat.le_succ k), h.ch, rfl⟩
theorem ac40 (h : RR k na wC wM) {x : Int} (c : 1 ≤ x ∧ x ≤ gA wM 51 1 - 2) (v : Bool) : AC k na wC wM (p_X8_cutRows x (b2 v) na wC) := by
  obtain ⟨vB, v1, v3, v4, v5, v6, v7, v8⟩ := h.V
  have h288 := (lF_ok h.B).2.2.2
  have hr := h.B.r
  have hx' : -2147483648 ≤ x ∧ x < 2147483648 := ⟨by omega, by omega⟩
  have e1 : gF wC 100 1 = gA wM 51 1 := h.S.1.2.1
  have e11 : gF wC 100 11 = gA wM 51 8 := h.S.1.2.2.2.2.2
  have h80 : p_X8_cutRows x (b2 v) na wC = if ¬ (1 ≤ x ∧ x ≤ gA wM 51 1 - 2) then some (.inr 2, na, wC) else if (!v || decide (gA wM 51 8 = 0)) = true then p_X8_cutRows_48 x (b2 v) na wC else some (.inr 1, na, wC) := by
    unfold p_X8_cutRows p_X8_cutRows_18
    rw [e1, e11]
    simp (disch := omega) only [lt32_o, eq32_b2]
    by_cases c1 : x < 1
    · rw [if_pos c1, if_pos (by omega)]
    · by_cases c2 : gA wM 51 1 - 2 < x
      · rw [if_neg c1, if_pos c2, if_pos (by omega)]
      · rw [if_neg c1, if_neg c2, if_neg (show ¬ ¬ (1 ≤ x ∧ x ≤ gA wM 51 1 - 2) by omega)]
        cases v with
        | false => rfl
        | true =>
          rw [if_neg (by decide)]
          by_cases d : gA wM 51 8 = 0
          · rw [if_neg (by omega), decide_eq_true d]; rfl
          · rw [if_pos (by omega), decide_eq_false d]; rfl
  rw [h80, if_neg (by simpa using c)]
  by_cases g : (!v || decide (gA wM 51 8 = 0)) = true
  · rw [if_pos g]
    obtain ⟨w1, a1, a2, a3, a4⟩ := h.cp
    obtain ⟨w2, b1, b2', b3⟩ := cutC (v := v) h.B c a4
    have hK := h.S.2.2.2.2.2.2
    obtain ⟨m1, c1, c2, c3, c3', c4⟩ := begin_o h (frmM_0 wM 0)
    obtain ⟨e1', e2', e3'⟩ := h.ny c2
    obtain ⟨m2, d1, d2, d3⟩ := cut9 (v := v) h.B c e2' e3'
    have hfr2 : frm SCf TCf wC w2 := frm_trans a3 (frm_mono b2' (fun o k h => by unfold SCf; omega) (fun o h => by unfold TCf; omega))
    unfold p_X8_cutRows_48
    rw [a1, Option.bind_some, b1, Option.bind_some]
    exact stay_ac h (wC1 := w2) (wM1 := m2) (f' := cuF (gA wM 51) x v) hfr2 b3 (frm_trans (frm_5 c2) (frm_mono d2 (fun _ _ h => absurd h id) (fun o h => Or.inr h)))
      ⟨(d2.1 50 16 id).trans c3.1, fun u u0 u1 => ⟨(d2.2.1 57 (by decide) u).trans (c3.2 u u0 u1).1, (d2.2.1 58 (by decide) u).trans (c3.2 u u0 u1).2.1, fun j j0 j1 => (d2.2.1 59 (by decide) _).trans ((c3.2 u u0 u1).2.2 j j0 j1)⟩⟩
      (fun i i0 i1 => (d2.2.1 55 (by decide) i).trans (c3' i i0 i1)) d3 (cuF_VB h.B c hK) (cuF_Z h.B h.z) (by rw [cuF_1]; omega) (fun i i0 i1 => cuF_n h.B (by omega)) (fun n13 w14 => some (Sum.inl (gF w14 10 4), n13, w14)) (fun n w => ⟨_, rfl⟩)
  · rw [if_neg g]
    exact ⟨_, wM, rfl, Or.inr rfl, h.mono (Nat.le_succ k), h.ch, rfl⟩
theorem ac42 (h : RR k na wC wM) : AC1 k na wC wM (p_X8_sharpen na wC) := by
  obtain ⟨vB, v1, v3, v4, v5, v6, v7, v8⟩ := h.V
  obtain ⟨w1, a1, a2, a3, a4⟩ := h.cp
  obtain ⟨m1, b1, b2', b3⟩ := h.rem (frmM_0 wM 0)
  have hsam : SAM (gA wM 51) (upd1 (upd1 (upd1 (gA wM 51) 5 (gA wM 51 3)) 6 (gA wM 51 6 + gA wM 51 4)) 7 (gA wM 51 7 + 1)) := upd1_SAM (upd1_SAM (upd1_SAM (fun _ _ => rfl) (by decide)) (by decide)) (by decide)
  have hZ : Z0 (upd1 (upd1 (upd1 (gA wM 51) 5 (gA wM 51 3)) 6 (gA wM 51 6 + gA wM 51 4)) 7 (gA wM 51 7 + 1)) := upd1_Z (upd1_Z (upd1_Z h.z (by decide)) (by decide)) (by decide)
  have hC : CHs w1 127 (gA wM 51 3) (gA wM 51 4) (gA wM 51 5, gA wM 51 7, gA wM 51 6) := ⟨a4.2.1.1, a4.2.1.2.1, a4.2.1.2.2.1, a4.2.1.2.2.2.2, a4.2.1.2.2.2.1⟩
  obtain ⟨c0, c1, c2, c4, c3⟩ := hC
  have hh : p_X1_hone 127 w1 = some (sF (sF (sF w1 127 2 (gA wM 51 3)) 127 3 (gA wM 51 6 + gA wM 51 4)) 127 4 (gA wM 51 7 + 1)) := by
    unfold p_X1_hone
    rw [Option.bind_some, c0]
    rw [show gF (sF w1 127 2 (gA wM 51 3)) 127 3 = gA wM 51 6 from c3, show gF (sF w1 127 2 (gA wM 51 3)) 127 1 = gA wM 51 4 from c1]
    rw [show gF (sF (sF w1 127 2 (gA wM 51 3)) 127 3 (gA wM 51 6 + gA wM 51 4)) 127 4 = gA wM 51 7 from c4]
  have hfr : frm SCf TCf wC (sF (sF (sF w1 127 2 (gA wM 51 3)) 127 3 (gA wM 51 6 + gA wM 51 4)) 127 4 (gA wM 51 7 + 1)) := frm_sF (frm_sF (frm_sF a3 (by unfold SCf; omega)) (by unfold SCf; omega)) (by unfold SCf; omega)
  have hS' : RS (sF (sF (sF w1 127 2 (gA wM 51 3)) 127 3 (gA wM 51 6 + gA wM 51 4)) 127 4 (gA wM 51 7 + 1)) 116 (upd1 (upd1 (upd1 (gA wM 51) 5 (gA wM 51 3)) 6 (gA wM 51 6 + gA wM 51 4)) 7 (gA wM 51 7 + 1)) :=
    a4.sam hsam (fun k _ => rfl) a4.1.2.2.2.2.2 ⟨c0, c1, rfl, rfl, rfl⟩ (fun _ _ _ => rfl)
  have hV' : VF (k + 1) (upd1 (upd1 (upd1 (gA wM 51) 5 (gA wM 51 3)) 6 (gA wM 51 6 + gA wM 51 4)) 7 (gA wM 51 7 + 1)) := by
    refine ⟨hsam.VB vB, v1, v3, v4, ⟨by show 0 ≤ gA wM 51 3; omega, Int.le_refl (gA wM 51 3)⟩, ⟨by show 0 ≤ gA wM 51 6 + gA wM 51 4; omega, by show gA wM 51 6 + gA wM 51 4 ≤ _; omega⟩, ⟨by show 0 ≤ gA wM 51 7 + 1; omega, by show gA wM 51 7 + 1 ≤ _; omega⟩, ?_⟩
    rw [hsam.nL vB]; exact v8
  have e51 : gA m1 51 = gA wM 51 := b3.2.1
  have hM' : p_X9_sharpen wM = some (gA wM 51 5, sA (sA (sA m1 51 5 (gA wM 51 3)) 51 6 (gA wM 51 6 + gA wM 51 4)) 51 7 (gA wM 51 7 + 1)) := by
    unfold p_X9_sharpen
    rw [b1, Option.bind_some]
    simp only [show (inb 5 1099 = false) = False from by decide, show (inb 3 1099 = false) = False from by decide, show (inb 6 1099 = false) = False from by decide, show (inb 4 1099 = false) = False from by decide, show (inb 7 1099 = false) = False from by decide, if_false, Option.bind_some, e51]
    rw [show gA (sA m1 51 5 (gA wM 51 3)) 51 6 = gA wM 51 6 by rw [gA_sA, if_neg (by decide), e51], show gA (sA m1 51 5 (gA wM 51 3)) 51 4 = gA wM 51 4 by rw [gA_sA, if_neg (by decide), e51]]
    rw [show gA (sA (sA m1 51 5 (gA wM 51 3)) 51 6 (gA wM 51 6 + gA wM 51 4)) 51 7 = gA wM 51 7 by rw [gA_sA, if_neg (by decide), gA_sA, if_neg (by decide), e51]]
  have hM := b3.up (w' := sA (sA (sA m1 51 5 (gA wM 51 3)) 51 6 (gA wM 51 6 + gA wM 51 4)) 51 7 (gA wM 51 7 + 1)) (frm_sA (frm_sA (frm_sA (frm_refl m1) (Or.inr rfl)) (Or.inr rfl)) (Or.inr rfl)) (by rw [gA_upd, gA_upd, gA_upd, e51])
  obtain ⟨na', wC', s1, s2⟩ := h.settle hfr hS' hV' hZ hM
  refine ac_mk (r := gF wC 111 2) ?_ s2 ?_ (h.inp s2 hM.2.2.2.2.2.1.1)
  · unfold p_X8_sharpen
    rw [a1, Option.bind_some, hh, Option.bind_some, s1, bindG_l]
  · rw [hM.2.1]
    exact CH.sam vB v8 hsam (Int.le_refl _)
theorem ac43 (h : RR k na wC wM) {x y : Int} (c : (1 ≤ x ∧ x ≤ 999) ∧ (0 ≤ y ∧ y ≤ 99)) : AC1 k na wC wM (p_X8_setChisel x y na wC) := by
  obtain ⟨vB, v1, v3, v4, v5, v6, v7, v8⟩ := h.V
  obtain ⟨w1, a1, a2, a3, a4⟩ := h.cp
  obtain ⟨m1, b1, b2', b3⟩ := h.rem (frmM_0 wM (b2 (!(true && true))))
  have hsam : SAM (gA wM 51) (upd1 (upd1 (upd1 (gA wM 51) 3 x) 5 x) 4 y) := upd1_SAM (upd1_SAM (upd1_SAM (fun _ _ => rfl) (by decide)) (by decide)) (by decide)
  have hZ : Z0 (upd1 (upd1 (upd1 (gA wM 51) 3 x) 5 x) 4 y) := upd1_Z (upd1_Z (upd1_Z h.z (by decide)) (by decide)) (by decide)
  have hh : p_X1_renew 127 x y w1 = some (sF (sF (sF w1 127 0 x) 127 1 y) 127 2 x) := rfl
  have hfr : frm SCf TCf wC (sF (sF (sF w1 127 0 x) 127 1 y) 127 2 x) := frm_sF (frm_sF (frm_sF a3 (by unfold SCf; omega)) (by unfold SCf; omega)) (by unfold SCf; omega)
  have hS' : RS (sF (sF (sF w1 127 0 x) 127 1 y) 127 2 x) 116 (upd1 (upd1 (upd1 (gA wM 51) 3 x) 5 x) 4 y) :=
    a4.sam hsam (fun k _ => rfl) a4.1.2.2.2.2.2 ⟨rfl, rfl, rfl, a4.2.1.2.2.2.1, a4.2.1.2.2.2.2⟩ (fun _ _ _ => rfl)
  have hV' : VF (k + 1) (upd1 (upd1 (upd1 (gA wM 51) 3 x) 5 x) 4 y) := by
    refine ⟨hsam.VB vB, v1, c.1, c.2, ⟨by show 0 ≤ x; omega, Int.le_refl x⟩, ⟨v6.1, by show gA wM 51 6 ≤ _; omega⟩, ⟨v7.1, by show gA wM 51 7 ≤ _; omega⟩, ?_⟩
    rw [hsam.nL vB]; exact v8
  have e51 : gA m1 51 = gA wM 51 := b3.2.1
  have hM := b3.up (w' := sA (sA (sA m1 51 3 x) 51 5 x) 51 4 y) (frm_sA (frm_sA (frm_sA (frm_refl m1) (Or.inr rfl)) (Or.inr rfl)) (Or.inr rfl)) (by rw [gA_upd, gA_upd, gA_upd, e51])
  obtain ⟨na', wC', s1, s2⟩ := h.settle hfr hS' hV' hZ hM
  refine ac_mk (r := 100 * gF wC 111 0 + gF wC 111 1) ?_ s2 ?_ (h.inp s2 hM.2.2.2.2.2.1.1)
  · unfold p_X8_setChisel
    rw [if_neg (by rw [lt32_o (by omega)]; omega), if_neg (by rw [lt32_o (by omega)]; omega), if_neg (by rw [lt32_o (by omega)]; omega), if_neg (by rw [lt32_o (by omega)]; omega), a1, Option.bind_some, hh, Option.bind_some, s1, bindG_l]
  · rw [hM.2.1]
    exact CH.sam vB v8 hsam (Int.le_refl _)
theorem ac41 (h : RR k na wC wM) {x : Int} (c : 1 ≤ x ∧ x ≤ 300) : AC1 k na wC wM (p_X8_carve x na wC) := by
  have hx : rng x := ⟨by omega, by omega⟩
  obtain ⟨vB, v1, v3, v4, v5, v6, v7, v8⟩ := h.V
  have h288 := (lF_ok h.B).2.2.2
  obtain ⟨w1, a1, a2, a3, a4⟩ := h.cp
  obtain ⟨m1, b1, b2', b3⟩ := h.rem (frmM_0 wM (b2 (!true)))
  have hp1 : gP m1 50 3 = 51 := b3.1
  have e51 : gA m1 51 = gA wM 51 := b3.2.1
  have hf1 : cR m1 = gA wM 51 := by unfold cR; rw [hp1, e51]
  obtain ⟨m2, l1, l2, l3⟩ := lay9 h.B hf1 hp1
  have hf2 : cR m2 = gA wM 51 := (cR_frm l1 hp1 (by unfold TL9; decide)).trans hf1
  have hp2 : gP m2 50 3 = 51 := (l1.2.2 _ _).trans hp1
  have e512 : gA m2 51 = gA wM 51 := (funext fun i => l1.2.1 51 (by unfold TL9; decide) i).trans e51
  generalize hend : gA wM 51 8 + min x (laF (gA wM 51) (nLF (gA wM 51)) - gA wM 51 8) = e at *
  have he : gA wM 51 8 ≤ e ∧ e ≤ laF (gA wM 51) (nLF (gA wM 51)) ∧ e ≤ gA wM 51 8 + 300 := by omega
  obtain ⟨m3, g1, g2, g3, g4⟩ := timeFT_o h.B hf2 hp2 l3 v3 v5 (a := gA wM 51 8) (b := e) (by omega)
  have e513 : gA m3 51 = gA wM 51 := (funext fun i => g2.2.1 51 id i).trans e512
  have hcr := ctI_rng (f := gA wM 51) v3.1 v4 (e - gA wM 51 8).toNat (gA wM 51 8) (gA wM 51 5, gA wM 51 7, gA wM 51 6) v5
  have hsh := ctI_shift (f := gA wM 51) (sh := gA wM 51 3) (la := gA wM 51 4) (e - gA wM 51 8).toNat (gA wM 51 8) (gA wM 51 5) (gA wM 51 7) (gA wM 51 6) 0 0
  -- the class's cuts
  have hC : CHs w1 127 (gA wM 51 3) (gA wM 51 4) (gA wM 51 5, gA wM 51 7, gA wM 51 6) := ⟨a4.2.1.1, a4.2.1.2.1, a4.2.1.2.2.1, a4.2.1.2.2.2.2, a4.2.1.2.2.2.1⟩
  have hl : ∀ (m n : Nat) (a : Int) (cc : Ch) (w : Wd), frm (SCH 127) T0 w1 w → CHs w 127 (gA wM 51 3) (gA wM 51 4) cc → 0 ≤ cc.1 ∧ cc.1 ≤ gA wM 51 3 → 0 ≤ a → a + m = e → m < n →
      ∃ w', p_X8_carve_71 n (gF wC 111 3) e a na w = p_X8_carve_105 (gF wC 111 3) e na w' ∧ frm (SCH 127) T0 w1 w' ∧ CHs w' 127 (gA wM 51 3) (gA wM 51 4) (ctI (gA wM 51) (gA wM 51 3) (gA wM 51 4) m a cc) := by
    intro m
    induction m with
    | zero =>
      intro n a cc w hw hC hc a0 hab hn
      obtain ⟨n', rfl⟩ : ∃ n', n = n' + 1 := ⟨n - 1, by omega⟩
      simp (disch := omega) only [p_X8_carve_71, lt32_o]
      rw [if_neg (by omega)]
      exact ⟨w, rfl, hw, hC⟩
    | succ m ih =>
      intro n a cc w hw hC hc a0 hab hn
      obtain ⟨n', rfl⟩ : ∃ n', n = n' + 1 := ⟨n - 1, by omega⟩
      have hfrC : frm SCf TCf wC w := frm_trans a3 (frm_mono hw (fun o k h => by have := h.1; unfold SCf; omega) (fun o h => absurd h id))
      simp (disch := omega) only [p_X8_carve_71, lt32_o]
      rw [if_pos (by omega), at17_o h.B (h.fr hfrC (frm_refl wM)).T (by omega), Option.bind_some]
      dsimp only
      obtain ⟨w2, q1, q2, q3⟩ := cut_o hC v3 hc (cos_rng (f := gA wM 51) (n := a))
      rw [q1, Option.bind_some]
      exact ih n' (a + 1) _ w2 (frm_trans hw q2) q3 (ctF_rng v3.1 cos_rng.1 hc v4.1).1 (by omega) (by omega) (by omega)
  obtain ⟨w2, x1, x2, x3⟩ := hl (e - gA wM 51 8).toNat FU (gA wM 51 8) _ w1 (frm_refl w1) hC v5 v8.1 (by omega) (by have : FU = 1000000 := rfl; omega)
  generalize hct : ctI (gA wM 51) (gA wM 51 3) (gA wM 51 4) (e - gA wM 51 8).toNat (gA wM 51 8) (gA wM 51 5, gA wM 51 7, gA wM 51 6) = r at *
  obtain ⟨L, N, T⟩ := r
  dsimp only at hcr hsh x3
  have hsam : SAM (gA wM 51) (upd1 (upd1 (upd1 (upd1 (gA wM 51) 8 e) 5 L) 7 N) 6 T) := upd1_SAM (upd1_SAM (upd1_SAM (upd1_SAM (fun _ _ => rfl) (by decide)) (by decide)) (by decide)) (by decide)
  have hZ : Z0 (upd1 (upd1 (upd1 (upd1 (gA wM 51) 8 e) 5 L) 7 N) 6 T) := upd1_Z (upd1_Z (upd1_Z (upd1_Z h.z (by decide)) (by decide)) (by decide)) (by decide)
  have hfr : frm SCf TCf wC (sF w2 116 11 e) := frm_sF (frm_trans a3 (frm_mono x2 (fun o k h => by have := h.1; unfold SCf; omega) (fun o h => absurd h id))) (by unfold SCf; omega)
  have hS' : RS (sF w2 116 11 e) 116 (upd1 (upd1 (upd1 (upd1 (gA wM 51) 8 e) 5 L) 7 N) 6 T) :=
    a4.sam hsam (fun k hk => by rw [gF_sF, if_neg (by omega)]; exact x2.1 116 k (fun h => by have := h.1; omega)) rfl ⟨x3.1, x3.2.1, x3.2.2.1, x3.2.2.2.2, x3.2.2.2.1⟩ (fun d hd i => x2.2.1 _ id i)
  have hn : ((e - gA wM 51 8).toNat : Int) ≤ 300 := by omega
  have hV' : VF (k + 1) (upd1 (upd1 (upd1 (upd1 (gA wM 51) 8 e) 5 L) 7 N) 6 T) := by
    refine ⟨hsam.VB vB, v1, v3, v4, ⟨hcr.1.1, hcr.1.2⟩, ⟨by show 0 ≤ T; omega, by show T ≤ _; omega⟩, ⟨by show 0 ≤ N; omega, by show N ≤ _; omega⟩, ?_⟩
    rw [hsam.nL vB]
    exact ⟨by show 0 ≤ e; omega, by show e ≤ _; omega⟩
  have t9 : gF m3 50 9 = L := by rw [g3]; exact hsh.2.1.symm
  have t10 : gF m3 50 10 = N - gA wM 51 7 := by rw [g4]; omega
  have tT : (ctI (gA wM 51) (gA wM 51 3) (gA wM 51 4) (e - gA wM 51 8).toNat (gA wM 51 8) (gA wM 51 5, 0, 0)).2.2 = T - gA wM 51 6 := by omega
  have hfrm3 : frm SMf TM5 m1 m3 := frm_5 (frm_trans (frm_L9 l1) (frm_910 g2))
  have hM := b3.up (w' := sA (sA (sA (sA m3 51 8 e) 51 5 L) 51 7 N) 51 6 T) (frm_sA (frm_sA (frm_sA (frm_sA hfrm3 (Or.inr rfl)) (Or.inr rfl)) (Or.inr rfl)) (Or.inr rfl)) (by rw [gA_upd, gA_upd, gA_upd, gA_upd, e513])
  obtain ⟨na', wC', s1, s2⟩ := h.settle hfr hS' hV' hZ hM
  refine ac_mk (r := gF wC' 111 3 - gF wC 111 3) ?_ s2 ?_ (h.inp s2 hM.2.2.2.2.2.1.1)
  · unfold p_X8_carve
    rw [if_neg (by rw [lt32_o (by omega)]; omega), if_neg (by rw [lt32_o (by omega)]; omega), a1, Option.bind_some]
    rw [show gF wC 100 11 = gA wM 51 8 from h.S.1.2.2.2.2.2, h.T.1, mn32_o (by omega), show min (gA wM 51 8 + x) (laF (gA wM 51) (nLF (gA wM 51))) = e by omega]
    rw [show gF w1 100 11 = gA wM 51 8 from (h.fr a3 (frm_refl wM)).S.1.2.2.2.2.2, x1]
    unfold p_X8_carve_105
    rw [s1, bindG_l]
  · rw [hM.2.1]
    exact CH.sam vB v8 hsam he.1
end AC
