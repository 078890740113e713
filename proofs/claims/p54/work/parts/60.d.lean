/-! ===== what would be with other flaws; flaws set ===== -/
def liV (f : Rw) (x y : Int) : Int := nLF (mkF f x y (b2 (!flF f x y)))
theorem put9 {w : Wd} {f : Rw} (hf : cR w = f) (hp : gP w 50 3 = 51) (h51 : gA w 51 = f) {x y v : Int} (hx : 0 ≤ x ∧ x < 24) (hy : 0 ≤ y ∧ y < 12) : p_X9_putFlaw x y v w = some (sA w 51 ((11 + (24 * y)) + x) v) ∧ gA (sA w 51 ((11 + (24 * y)) + x) v) 51 = mkF f x y v := by
  refine ⟨?_, by rw [gA_upd, h51]; rfl⟩
  unfold p_X9_putFlaw
  rw [if_neg (by rw [inb_f (by omega)]; exact id), hp]
section WJ
variable {k na : Nat} {wC wM : Wd} {xs : Nat → Int32} {i : Int}
theorem laidIf9 (h : RR k na wC wM) {w : Wd} (hw : frm SMf TMf wM w) {x y : Int} (hx : rng x) (hy : rng y) (c : isCF (gA wM 51) x y = true) : ∃ w', p_X9_laidIf x y w = some (liV (gA wM 51) x y, w') ∧ frm SMf TMf wM w' ∧ gF w' 50 0 = 0 := by
  obtain ⟨hx1, hy1, hx2, hy2⟩ := isC_rng h.B c
  obtain ⟨e1, e2, e3⟩ := h.ny hw
  unfold p_X9_laidIf
  rw [isCell_o e1 h.B hx hy, Option.bind_some]
  dsimp only
  rw [passes_o, Option.bind_some]
  simp only [eq32_b2]
  rw [c, if_neg (show ¬ true = false by decide)]
  obtain ⟨m1, c1, c2, c3, c4⟩ := as9 h (frm_trans hw (frmM_0 w (b2 (!true))))
  obtain ⟨f1, f2, f3⟩ := h.ny c2
  rw [c1, Option.bind_some, hasFlaw_o f1 h.B hx hy, Option.bind_some]
  simp only [eq32_b2]
  have h36 : ∀ b : Bool, p_X9_laidIf_36 (b2 b) y x m1 = (p_X9_lay (sA m1 51 ((11 + (24 * y)) + x) (b2 b))).bind fun z => (p_X9_layBack z.1 z.2).bind fun q => some (q.1, q.2) := fun b => by
    unfold p_X9_laidIf_36
    rw [(put9 f1 f2 f3 hx1 hy1).1, Option.bind_some]
  have hfin : ∃ w', p_X9_laidIf_36 (b2 (!flF (gA wM 51) x y)) y x m1 = some (liV (gA wM 51) x y, w') ∧ frm SMf TMf wM w' ∧ gF w' 50 0 = 0 := by
    obtain ⟨m2, m3, d1, d2, d3, d4⟩ := wi9 h (w := sA m1 51 ((11 + (24 * y)) + x) (b2 (!flF (gA wM 51) x y))) (frm_sA (frm_5 c2) (Or.inr rfl)) (fun i i0 i1 => by rw [gA_sA, if_neg (by omega)]; exact c3 i i0 i1) (put9 f1 f2 f3 hx1 hy1).2 (mkF_VB h.B hx1 hy1) (mkF_Z h.z hx1 hy1)
    refine ⟨m3, ?_, d3, d4.trans c4⟩
    rw [h36, d1, Option.bind_some, d2, Option.bind_some]; rfl
  cases hq : flF (gA wM 51) x y with
  | false => rw [if_pos rfl]; rw [hq] at hfin; exact hfin
  | true => rw [if_neg (by decide)]; rw [hq] at hfin; exact hfin
theorem op21 (h : RR k na wC wM) : ∃ z, p_op_21 xs i na wC wM = some z ∧ RR k z.1 z.2.1 z.2.2 := by
  unfold p_op_21 p_L_laidIf
  have hx := sc_rng xs (i + 1)
  have hy := sc_rng xs (i + 2)
  generalize sc xs (i + 1) = x at *
  generalize sc xs (i + 2) = y at *
  by_cases c : isCF (gA wM 51) x y = true
  · obtain ⟨hx1, hy1, hx2, hy2⟩ := isC_rng h.B c
    obtain ⟨w1, a1, a2, a3, a4⟩ := h.cp
    have hR1 := h.fr a3 (frm_refl wM)
    obtain ⟨w2, b1, b2', b3⟩ := mark_o SLo_1 h.B a4 c (!flF (gA wM 51) x y)
    obtain ⟨w3, d1, d2⟩ := lot_o (mkF_VB h.B hx1 hy1) b3
    obtain ⟨m1, e1, e2, e3⟩ := laidIf9 h (frm_refl wM) hx hy c
    refine wok (r := liV (gA wM 51) x y) (na' := na) (wC' := w3) (wM' := m1) ?_ e1 e3 (h.fr (frm_trans a3 (frm_trans (frm_118 b2') (frm_L20 d2))) e2)
    unfold p_X8_laidIf
    rw [needCell_o h hx hy, if_pos c, bindG_l, a1, Option.bind_some, cflaw_o SLo_0 h.B hR1.S hx hy, Option.bind_some]
    simp only [eq32_b2]
    have h40 : p_X8_laidIf_40 (b2 (!flF (gA wM 51) x y)) y x na w1 = some (.inl (liV (gA wM 51) x y), na, w3) := by
      unfold p_X8_laidIf_40
      rw [b1, Option.bind_some, d1, Option.bind_some]; rfl
    cases hq : flF (gA wM 51) x y with
    | false => rw [if_pos rfl]; rw [hq] at h40; exact h40
    | true => rw [if_neg (by decide)]; rw [hq] at h40; exact h40
  · unfold p_X8_laidIf p_X9_laidIf
    rw [needCell_o h hx hy, isCell_o h.f h.B hx hy, Option.bind_some]
    dsimp only
    rw [passes_o, Option.bind_some]
    simp only [eq32_b2]
    rw [if_neg c, if_pos (bfF c), bfF c, bindG_r]
    exact wex (h := hnd1 3) (f := fun r w => sA w 34 0 (w32 r)) (e := 3) (na' := na) (wC' := wC) rfl rfl rfl (Or.inl rfl) rfl (h.fr (frm_refl _) (frmM_0 _ _))
/-- the worst flaw of a row: the best so far, and how many words -/
def wrI (f : Rw) (y : Int) : Nat → Int → Int × Int → Int × Int
  | 0, _, s => s
  | n + 1, x, s => wrI f y n (x + 1) (if flF f x y = true then (if s.2 < liV f x y then 100 * y + x else s.1, max s.2 (liV f x y)) else s)
def wrO (f : Rw) : Nat → Int → Int × Int → Int × Int
  | 0, _, s => s
  | n + 1, y, s => wrO f n (y + 1) (wrI f y (f 0).toNat 0 s)
theorem liV_rng {f : Rw} (hV : VB f) {x y : Int} (c : isCF f x y = true) : 0 ≤ liV f x y ∧ liV f x y ≤ 60 := by
  obtain ⟨hx1, hy1, hx2, hy2⟩ := isC_rng hV c
  have := nL_rng (mkF_VB hV (b := !flF f x y) hx1 hy1)
  unfold liV
  omega
theorem wrI_rng {f : Rw} (hV : VB f) {y : Int} : ∀ (n : Nat) (x : Int) (s : Int × Int), -1 ≤ s.2 ∧ s.2 ≤ 60 → -1 ≤ (wrI f y n x s).2 ∧ (wrI f y n x s).2 ≤ 60 := by
  intro n
  induction n with
  | zero => intro x s h; exact h
  | succ n ih =>
    intro x s h
    unfold wrI
    by_cases c : flF f x y = true
    · have hc : isCF f x y = true := (Bool.and_eq_true _ _ ▸ c).1
      have := liV_rng hV hc
      rw [if_pos c]
      exact ih (x + 1) _ ⟨by show -1 ≤ max s.2 _; omega, by show max s.2 _ ≤ 60; omega⟩
    · rw [if_neg c]; exact ih (x + 1) s h
theorem mk_back {f : Rw} {x y : Int} (h : flF f x y = true) : mkF (mkF f x y (b2 false)) x y (b2 true) = f := funext fun j => by
  have h2 : fcF f x y = 1 := of_decide_eq_true (Bool.and_eq_true _ _ ▸ h).2
  unfold mkF upd1
  by_cases c : j = 11 + 24 * y + x
  · rw [if_pos c, c]; exact h2.symm
  · rw [if_neg c, if_neg c]
theorem op22 (h : RR k na wC wM) : ∃ z, p_op_22 xs i na wC wM = some z ∧ RR k z.1 z.2.1 z.2.2 := by
  have hc := h.B.c
  have hr := h.B.r
  obtain ⟨w1, a1, a2, a3, a4⟩ := h.cp
  have hCin : ∀ (k17 : Int → Int → Int → Wd → Option (Int × Wd)) (y : Int), 0 ≤ y → y < gA wM 51 1 → ∀ (m n : Nat) (x : Int) (s : Int × Int) (w : Wd), 0 ≤ x → x + m = gA wM 51 0 → m < n → -1 ≤ s.2 ∧ s.2 ≤ 60 → RR k na w wM → RS w 116 (gA wM 51) → frm SCf TCf wC w →
      ∃ w', p_X8_worstFlaw_31 k17 n s.1 s.2 y x w = k17 (wrI (gA wM 51) y m x s).1 (wrI (gA wM 51) y m x s).2 (y + 1) w' ∧ RR k na w' wM ∧ RS w' 116 (gA wM 51) ∧ frm SCf TCf wC w' := by
    intro k17 y y0 y1 m
    induction m with
    | zero =>
      intro n x s w x0 x1 hn hs hR hS hfr
      obtain ⟨n', rfl⟩ : ∃ n', n = n' + 1 := ⟨n - 1, by omega⟩
      simp (disch := omega) only [p_X8_worstFlaw_31, p_X8_worstFlaw_115, show gF w 100 0 = gA wM 51 0 from hR.S.1.1, lt32_o]
      rw [if_neg (by omega)]
      exact ⟨w, rfl, hR, hS, hfr⟩
    | succ m ih =>
      intro n x s w x0 x1 hn hs hR hS hfr
      obtain ⟨n', rfl⟩ : ∃ n', n = n' + 1 := ⟨n - 1, by omega⟩
      simp (disch := omega) only [p_X8_worstFlaw_31, p_X8_worstFlaw_109, p_X8_worstFlaw_101, show gF w 100 0 = gA wM 51 0 from hR.S.1.1, lt32_o]
      rw [if_pos (by omega), cflaw_o SLo_0 h.B hR.S ⟨by omega, by omega⟩ ⟨by omega, by omega⟩, Option.bind_some]
      simp only [eq32_b2]
      unfold wrI
      cases hq : flF (gA wM 51) x y with
      | false =>
        rw [if_pos rfl, if_neg (by decide)]
        exact ih n' (x + 1) s w (by omega) (by omega) (by omega) hs hR hS hfr
      | true =>
        have hcc : isCF (gA wM 51) x y = true := (Bool.and_eq_true _ _ ▸ hq).1
        obtain ⟨hx1, hy1, hx2, hy2⟩ := isC_rng h.B hcc
        rw [if_neg (by decide), if_pos rfl]
        obtain ⟨w2, b1, b2', b3⟩ := mark_o SLo_1 h.B hS hcc false
        have hVm := mkF_VB h.B (b := false) hx1 hy1
        obtain ⟨w3, d1, d2⟩ := lot_o hVm b3
        have hS3 : RS w3 116 (mkF (gA wM 51) x y (b2 false)) := b3.lay d2 SLo_1 (Or.inr rfl)
        have hcm : isCF (mkF (gA wM 51) x y (b2 false)) x y = true := by
          unfold isCF; rw [mkF_n hx1 hy1 (by omega), mkF_n hx1 hy1 (by omega)]; exact hcc
        obtain ⟨w4, e1, e2, e3⟩ := mark_o SLo_1 hVm hS3 hcm true
        rw [mk_back hq] at e3
        have hfr4 : frm SCf TCf w w4 := frm_trans (frm_118 b2') (frm_trans (frm_L20 d2) (frm_118 e2))
        have b1' : p_X6_mark 116 x y 0 w = some w2 := b1
        have e1' : p_X6_mark 116 x y 1 w3 = some w4 := e1
        have hli : liV (gA wM 51) x y = nLF (mkF (gA wM 51) x y (b2 false)) := by unfold liV; rw [hq]; rfl
        have hlr := liV_rng h.B hcc
        rw [b1', Option.bind_some, d1, Option.bind_some]
        dsimp only
        rw [e1', Option.bind_some, ← hli, mx32_o (by omega)]
        simp (disch := omega) only [lt32_o]
        have hfin := fun b => ih n' (x + 1) (b, max s.2 (liV (gA wM 51) x y)) w4 (by omega) (by omega) (by omega) ⟨by show -1 ≤ max s.2 _; omega, by show max s.2 _ ≤ 60; omega⟩ (hR.fr hfr4 (frm_refl wM)) e3 (frm_trans hfr hfr4)
        by_cases g : s.2 < liV (gA wM 51) x y
        · rw [if_pos g, if_pos g]; exact hfin _
        · rw [if_neg g, if_neg g]; exact hfin _
  have hCout : ∀ (m n : Nat) (y : Int) (s : Int × Int) (w : Wd), 0 ≤ y → y + m = gA wM 51 1 → m < n → -1 ≤ s.2 ∧ s.2 ≤ 60 → RR k na w wM → RS w 116 (gA wM 51) → frm SCf TCf wC w →
      ∃ w', p_X8_worstFlaw_17 n s.1 s.2 y w = some ((wrO (gA wM 51) m y s).1, w') ∧ frm SCf TCf wC w' := by
    intro m
    induction m with
    | zero =>
      intro n y s w y0 y1 hn hs hR hS hfr
      obtain ⟨n', rfl⟩ : ∃ n', n = n' + 1 := ⟨n - 1, by omega⟩
      simp (disch := omega) only [p_X8_worstFlaw_17, show gF w 100 1 = gA wM 51 1 from hR.S.1.2.1, lt32_o]
      rw [if_neg (by omega)]
      exact ⟨w, rfl, hfr⟩
    | succ m ih =>
      intro n y s w y0 y1 hn hs hR hS hfr
      obtain ⟨n', rfl⟩ : ∃ n', n = n' + 1 := ⟨n - 1, by omega⟩
      simp (disch := omega) only [p_X8_worstFlaw_17, show gF w 100 1 = gA wM 51 1 from hR.S.1.2.1, lt32_o]
      rw [if_pos (by omega)]
      obtain ⟨w', q1, q2, q3, q4⟩ := hCin (p_X8_worstFlaw_17 n') y y0 (by omega) (gA wM 51 0).toNat FU 0 s w (by decide) (by omega) (by have : FU = 1000000 := rfl; omega) hs hR hS hfr
      rw [q1]
      exact ih n' (y + 1) _ w' (by omega) (by omega) (by omega) (wrI_rng h.B _ _ _ hs) q2 q3 q4
  have hMin : ∀ (k11 : Int → Int → Int → Wd → Option (Int × Wd)) (y : Int), 0 ≤ y → y < gA wM 51 1 → ∀ (m n : Nat) (x : Int) (s : Int × Int) (w : Wd), 0 ≤ x → x + m = gA wM 51 0 → m < n → -1 ≤ s.2 ∧ s.2 ≤ 60 → frm SMf TMf wM w →
      ∃ w', p_X9_worstFlaw_22 k11 n s.1 s.2 y x w = k11 (wrI (gA wM 51) y m x s).1 (wrI (gA wM 51) y m x s).2 (y + 1) w' ∧ frm SMf TMf wM w' := by
    intro k11 y y0 y1 m
    induction m with
    | zero =>
      intro n x s w x0 x1 hn hs hfr
      obtain ⟨n', rfl⟩ : ∃ n', n = n' + 1 := ⟨n - 1, by omega⟩
      simp (disch := omega) only [p_X9_worstFlaw_22, p_X9_worstFlaw_85, wide_o (h.ny hfr).1, Option.bind_some, lt32_o]
      rw [if_neg (by omega)]
      exact ⟨w, rfl, hfr⟩
    | succ m ih =>
      intro n x s w x0 x1 hn hs hfr
      obtain ⟨n', rfl⟩ : ∃ n', n = n' + 1 := ⟨n - 1, by omega⟩
      simp (disch := omega) only [p_X9_worstFlaw_22, p_X9_worstFlaw_52, p_X9_worstFlaw_71, wide_o (h.ny hfr).1, Option.bind_some, lt32_o]
      rw [if_pos (by omega), hasFlaw_o (h.ny hfr).1 h.B ⟨by omega, by omega⟩ ⟨by omega, by omega⟩, Option.bind_some]
      simp only [eq32_b2]
      unfold wrI
      cases hq : flF (gA wM 51) x y with
      | false =>
        rw [if_pos rfl, if_neg (show ¬ false = true by decide), if_neg (by omega), mx32_o (by omega), show max s.2 (-1) = s.2 by omega]
        exact ih n' (x + 1) s w (by omega) (by omega) (by omega) hs hfr
      | true =>
        have hcc : isCF (gA wM 51) x y = true := (Bool.and_eq_true _ _ ▸ hq).1
        have hlr := liV_rng h.B hcc
        obtain ⟨w2, b1, b2', b3⟩ := laidIf9 h hfr ⟨by omega, by omega⟩ ⟨by omega, by omega⟩ hcc
        rw [if_neg (by decide), if_pos rfl, b1, Option.bind_some]
        dsimp only
        rw [mx32_o (by omega)]
        simp (disch := omega) only [lt32_o]
        have hfin := fun b => ih n' (x + 1) (b, max s.2 (liV (gA wM 51) x y)) w2 (by omega) (by omega) (by omega) ⟨by show -1 ≤ max s.2 _; omega, by show max s.2 _ ≤ 60; omega⟩ b2'
        by_cases g : s.2 < liV (gA wM 51) x y
        · rw [if_pos g, if_pos g]; exact hfin _
        · rw [if_neg g, if_neg g]; exact hfin _
  have hMout : ∀ (m n : Nat) (y : Int) (s : Int × Int) (w : Wd), 0 ≤ y → y + m = gA wM 51 1 → m < n → -1 ≤ s.2 ∧ s.2 ≤ 60 → frm SMf TMf wM w →
      ∃ w', p_X9_worstFlaw_11 n s.1 s.2 y w = some ((wrO (gA wM 51) m y s).1, w') ∧ frm SMf TMf wM w' := by
    intro m
    induction m with
    | zero =>
      intro n y s w y0 y1 hn hs hfr
      obtain ⟨n', rfl⟩ : ∃ n', n = n' + 1 := ⟨n - 1, by omega⟩
      simp (disch := omega) only [p_X9_worstFlaw_11, high_o (h.ny hfr).1, Option.bind_some, lt32_o]
      rw [if_neg (by omega)]
      exact ⟨w, rfl, hfr⟩
    | succ m ih =>
      intro n y s w y0 y1 hn hs hfr
      obtain ⟨n', rfl⟩ : ∃ n', n = n' + 1 := ⟨n - 1, by omega⟩
      simp (disch := omega) only [p_X9_worstFlaw_11, high_o (h.ny hfr).1, Option.bind_some, lt32_o]
      rw [if_pos (by omega)]
      obtain ⟨w', q1, q2⟩ := hMin (p_X9_worstFlaw_11 n') y y0 (by omega) (gA wM 51 0).toNat FU 0 s w (by decide) (by omega) (by have : FU = 1000000 := rfl; omega) hs hfr
      rw [q1]
      exact ih n' (y + 1) _ w' (by omega) (by omega) (by omega) (wrI_rng h.B _ _ _ hs) q2
  obtain ⟨w2, x1, x2⟩ := hCout (gA wM 51 1).toNat FU 0 (-1, -1) w1 (by decide) (by omega) (by have : FU = 1000000 := rfl; omega) ⟨Int.le_refl _, by decide⟩ (h.fr a3 (frm_refl wM)) a4 a3
  obtain ⟨m2, y1, y2⟩ := hMout (gA wM 51 1).toNat FU 0 (-1, -1) (sF wM 50 0 0) (by decide) (by omega) (by have : FU = 1000000 := rfl; omega) ⟨Int.le_refl _, by decide⟩ (frmM_0 wM 0)
  refine dok (p8 := p_X8_worstFlaw wC) (pM := p_X9_worstFlaw wM) (r := (wrO (gA wM 51) (gA wM 51 1).toNat 0 (-1, -1)).1) (wC' := w2) (wM' := m2) ?_ y1 (h.fr x2 y2)
  unfold p_X8_worstFlaw
  rw [a1, Option.bind_some]; exact x1
end WJ
