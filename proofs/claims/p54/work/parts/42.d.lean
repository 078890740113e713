/-! ===== more questions ===== -/
section OPS2
variable {k na : Nat} {wC wM : Wd} {xs : Nat → Int32} {i : Int}
theorem op8 (h : RR k na wC wM) : ∃ z, p_op_8 xs i na wC wM = some z ∧ RR k z.1 z.2.1 z.2.2 := by
  unfold p_op_8 p_L_letter
  have hx := sc_rng xs (i + 1)
  have hy := sc_rng xs (i + 2)
  generalize sc xs (i + 1) = x at *
  generalize sc xs (i + 2) = y at *
  have hw := h.B.w
  unfold p_X8_letter p_X9_letter p_X9_letter_32 p_X9_letter_33 p_X8_letter_24
  rw [needWord_o h hx, isWordNumber_o h.f h.B hx, Option.bind_some]
  simp only [eq32_b2]
  have hex : ∀ b : Bool, b = false → ∃ w', ((p_X9_passes (b2 b) wM).bind fun x_1 => if eq32 x_1.1 0 = true then some (0, x_1.2) else (p_X9_byteOf x y x_1.2).bind fun x => some (x.1, x.2)) = some (0, w') ∧ gF w' 50 0 = 1 ∧ frm SMf TMf wM w' := by
    rintro b rfl
    rw [passes_o, Option.bind_some]
    exact ⟨_, if_pos (show eq32 (b2 false) 0 = true by decide +kernel), rfl, frmM_0 _ _⟩
  by_cases c : 0 ≤ x ∧ x < gA wM 51 10
  · have hwn := h.B.wn c.1 c.2
    rw [if_pos c, decide_eq_true c, if_neg (by decide), bindG_l, bytesOf_o h.f (by omega), Option.bind_some]
    unfold rng at hx hy
    simp (disch := omega) only [lt32_o, w32_o, in_o, Option.bind_some, eq32_b2]
    by_cases c2 : 0 ≤ y ∧ y < wnF (gA wM 51) x
    · rw [if_neg (by omega), lenC_o SLo_0 h.B h.S c, Option.bind_some]
      simp (disch := omega) only [lt32_o]
      rw [if_pos c2.2, byteC_o SLo_0 h.B h.S c c2, Option.bind_some, decide_eq_true (show 0 ≤ y ∧ y ≤ wnF (gA wM 51) x - 1 by omega), if_neg (by decide)]
      refine wok (r := wbF (gA wM 51) x y) (na' := na) (wC' := wC) (wM' := sF wM 50 0 0) rfl ?_ rfl (h.fr (frm_refl _) (frmM_0 _ _))
      show ((p_X9_passes (b2 true) wM).bind _) = _
      rw [passes_o, Option.bind_some]
      dsimp only
      rw [if_neg (by decide +kernel), byteOf_o (h.ny (frmM_0 wM (b2 (!true)))).1 (by omega) (by omega), Option.bind_some]
      rfl
    · obtain ⟨w', q1, q2, q3⟩ := hex false rfl
      rw [decide_eq_false (show ¬ (0 ≤ y ∧ y ≤ wnF (gA wM 51) x - 1) by omega), if_pos rfl]
      by_cases c3 : y < 0
      · rw [if_pos c3]
        exact wex (e := 3) (na' := na) (wC' := wC) rfl q1 rfl (Or.inl rfl) q2 (h.fr (frm_refl _) q3)
      · rw [if_neg c3, lenC_o SLo_0 h.B h.S c, Option.bind_some]
        simp (disch := omega) only [lt32_o]
        rw [if_neg (by omega)]
        exact wex (e := 3) (na' := na) (wC' := wC) rfl q1 rfl (Or.inl rfl) q2 (h.fr (frm_refl _) q3)
  · obtain ⟨w', q1, q2, q3⟩ := hex false rfl
    rw [if_neg c, decide_eq_false c, if_pos rfl, bindG_r]
    exact wex (e := 3) (na' := na) (wC' := wC) rfl q1 rfl (Or.inl rfl) q2 (h.fr (frm_refl _) q3)
/-! rows of cells -/
theorem fl_rng {f : Rw} (hV : VB f) : f 0 < 2147483648 ∧ f 1 < 2147483648 := by
  have := hV.c
  have := hV.r
  omega
def freF (f : Rw) (y x : Int) : Int := if flF f x y = false ∧ woF f x y = -1 then 1 else 0
theorem op11 (h : RR k na wC wM) : ∃ z, p_op_11 xs i na wC wM = some z ∧ RR k z.1 z.2.1 z.2.2 := by
  unfold p_op_11 p_L_freeIn
  have hx := sc_rng xs (i + 1)
  generalize sc xs (i + 1) = y at *
  have hc := h.B.c
  unfold p_X8_freeIn p_X9_freeIn
  rw [needRow_o h hx, isRow_o h.f h.B hx, Option.bind_some]
  dsimp only
  rw [passes_o, Option.bind_some]
  simp only [eq32_b2]
  by_cases c : 0 ≤ y ∧ y < gA wM 51 1
  · rw [if_pos c, decide_eq_true c, if_neg (by decide), bindG_l]
    obtain ⟨w', a1, a2, a3, a4⟩ := h.lay (frmM_0 wM (b2 (!true)))
    obtain ⟨e1, e2, e3⟩ := h.ny a2
    refine wok (r := sm (freF (gA wM 51) y) (gA wM 51 0).toNat) (na' := na) (wC' := wC) (wM' := w') ?_ ?_ a4 (h.fr (frm_refl _) a2)
    · have hl : ∀ (m n : Nat) (x s : Int), 0 ≤ x → x + m = gA wM 51 0 → m < n → p_X8_freeIn_9 n y s x na wC = some (.inl (s + (sm (freF (gA wM 51) y) (gA wM 51 0).toNat - sm (freF (gA wM 51) y) x.toNat)), na, wC) := by
        intro m
        induction m with
        | zero =>
          intro n x s x0 x1 hn
          obtain ⟨n', rfl⟩ : ∃ n', n = n' + 1 := ⟨n - 1, by omega⟩
          simp (disch := omega) only [p_X8_freeIn_9, show gF wC 100 0 = gA wM 51 0 from h.S.1.1, lt32_o]
          rw [if_neg (by omega), show x = gA wM 51 0 by omega, show s + (sm (freF (gA wM 51) y) (gA wM 51 0).toNat - sm (freF (gA wM 51) y) (gA wM 51 0).toNat) = s by omega]
        | succ m ih =>
          intro n x s x0 x1 hn
          obtain ⟨n', rfl⟩ : ∃ n', n = n' + 1 := ⟨n - 1, by omega⟩
          have hst := sm_step (g := freF (gA wM 51) y) x0
          simp (disch := omega) only [p_X8_freeIn_9, p_X8_freeIn_52, show gF wC 100 0 = gA wM 51 0 from h.S.1.1, lt32_o]
          rw [if_pos (by omega), cflaw_o SLo_0 h.B h.S ⟨by omega, by omega⟩ hx, Option.bind_some]
          simp only [eq32_b2]
          by_cases c1 : flF (gA wM 51) x y = false
          · rw [if_pos c1, wordOn_o h.B h.S h.L ⟨by omega, by omega⟩ hx, Option.bind_some]
            have hwo := woF_rng h.B x y
            have hnl := nL_rng h.B
            simp (disch := omega) only [eq32_o]
            by_cases c2 : woF (gA wM 51) x y = -1
            · have hg : freF (gA wM 51) y x = 1 := if_pos ⟨c1, c2⟩
              rw [if_pos c2, ih n' (x + 1) (s + 1) (by omega) (by omega) (by omega), hst, hg]
              exact congrArg (fun q => some (Sum.inl q, na, wC)) (by omega)
            · have hg : freF (gA wM 51) y x = 0 := if_neg (fun q => c2 q.2)
              rw [if_neg c2, ih n' (x + 1) s (by omega) (by omega) (by omega), hst, hg]
              exact congrArg (fun q => some (Sum.inl q, na, wC)) (by omega)
          · have hg : freF (gA wM 51) y x = 0 := if_neg (fun q => c1 q.1)
            rw [if_neg c1, ih n' (x + 1) s (by omega) (by omega) (by omega), hst, hg]
            exact congrArg (fun q => some (Sum.inl q, na, wC)) (by omega)
      rw [hl (gA wM 51 0).toNat FU 0 0 (by decide) (by omega) (by have : FU = 1000000 := rfl; omega)]
      exact congrArg (fun q => some (Sum.inl q, na, wC)) (by show 0 + (_ - 0) = _; omega)
    · rw [a1, Option.bind_some]
      have hl := sum_loop (lp := fun n x s => p_X9_freeIn_24 n y s x w') (g := freF (gA wM 51) y) (b := gA wM 51 0) (w := w')
        (fun n x s h0 h1 => by
          show p_X9_freeIn_24 (n + 1) y s x w' = p_X9_freeIn_24 n y _ (x + 1) w'
          simp (disch := omega) only [p_X9_freeIn_24, p_X9_freeIn_59, p_X9_freeIn_60, wide_o e1, Option.bind_some, lt32_o, h1, if_true]
          rw [hasFlaw_o e1 h.B ⟨by omega, by omega⟩ hx, Option.bind_some]
          simp only [eq32_b2]
          unfold freF
          by_cases c1 : flF (gA wM 51) x y = false
          · rw [if_pos c1, wordIn_o h.B e1 a3 ⟨by omega, by omega⟩ hx, Option.bind_some]
            have hwo := woF_rng h.B x y
            have hnl := nL_rng h.B
            simp (disch := omega) only [eq32_o]
            by_cases c2 : woF (gA wM 51) x y = -1
            · rw [if_pos c2, if_pos ⟨c1, c2⟩]
            · rw [if_neg c2, if_neg (fun q => c2 q.2)]
          · rw [if_neg c1, if_neg (fun q => c1 q.1)])
        (fun n x s h0 => by
          show p_X9_freeIn_24 (n + 1) y s x w' = _
          simp (disch := omega) only [p_X9_freeIn_24, wide_o e1, Option.bind_some, lt32_o]
          rw [if_neg (by omega)])
        FU 0 0 (by decide) (by omega) (by have : FU = 1000000 := rfl; omega)
      refine hl.trans (congrArg (fun q => some (q, w')) ?_)
      show 0 + (_ - 0) = _
      omega
  · rw [if_neg c, decide_eq_false c, if_pos rfl, bindG_r]
    exact wex (e := 3) (na' := na) (wC' := wC) rfl rfl rfl (Or.inl rfl) rfl (h.fr (frm_refl _) (frmM_0 _ _))
/-- the longest run: so far the longest, and the run at hand -/
def lrF (f : Rw) (y : Int) : Nat → Int → Int → Int → Int
  | 0, _, a, _ => a
  | n + 1, x, a, b => lrF f y n (x + 1) (max a (if flF f x y then 0 else b + 1)) (if flF f x y then 0 else b + 1)
theorem op12 (h : RR k na wC wM) : ∃ z, p_op_12 xs i na wC wM = some z ∧ RR k z.1 z.2.1 z.2.2 := by
  unfold p_op_12 p_L_longestRun
  have hx := sc_rng xs (i + 1)
  generalize sc xs (i + 1) = y at *
  have hc := h.B.c
  unfold p_X8_longestRun p_X9_longestRun
  rw [needRow_o h hx, isRow_o h.f h.B hx, Option.bind_some]
  dsimp only
  rw [passes_o, Option.bind_some]
  simp only [eq32_b2]
  by_cases c : 0 ≤ y ∧ y < gA wM 51 1
  · rw [if_pos c, decide_eq_true c, if_neg (by decide), bindG_l]
    obtain ⟨e1, e2, e3⟩ := h.ny (frmM_0 wM (b2 (!true)))
    refine wok (r := lrF (gA wM 51) y (gA wM 51 0).toNat 0 0 0) (na' := na) (wC' := wC) (wM' := sF wM 50 0 (b2 (!true))) ?_ ?_ rfl (h.fr (frm_refl _) (frmM_0 _ _))
    · have hl : ∀ (m n : Nat) (x a b : Int), 0 ≤ x → x + m = gA wM 51 0 → m < n → 0 ≤ a ∧ a ≤ x → 0 ≤ b ∧ b ≤ x → p_X8_longestRun_12 n y a b x na wC = some (.inl (lrF (gA wM 51) y m x a b), na, wC) := by
        intro m
        induction m with
        | zero =>
          intro n x a b x0 x1 hn ha hb
          obtain ⟨n', rfl⟩ : ∃ n', n = n' + 1 := ⟨n - 1, by omega⟩
          simp (disch := omega) only [p_X8_longestRun_12, show gF wC 100 0 = gA wM 51 0 from h.S.1.1, lt32_o]
          rw [if_neg (by omega)]; rfl
        | succ m ih =>
          intro n x a b x0 x1 hn ha hb
          obtain ⟨n', rfl⟩ : ∃ n', n = n' + 1 := ⟨n - 1, by omega⟩
          simp (disch := omega) only [p_X8_longestRun_12, p_X8_longestRun_44, show gF wC 100 0 = gA wM 51 0 from h.S.1.1, lt32_o]
          rw [if_pos (by omega), cflaw_o SLo_0 h.B h.S ⟨by omega, by omega⟩ hx, Option.bind_some]
          simp only [eq32_b2]
          unfold lrF
          by_cases c1 : flF (gA wM 51) x y = false
          · rw [if_pos c1, mx32_o (by omega), c1]
            exact ih n' (x + 1) _ _ (by omega) (by omega) (by omega) (by omega) (by omega)
          · rw [if_neg c1, mx32_o (by omega), show flF (gA wM 51) x y = true by cases hq : flF (gA wM 51) x y <;> simp_all]
            exact ih n' (x + 1) _ _ (by omega) (by omega) (by omega) (by omega) (by omega)
      exact hl (gA wM 51 0).toNat FU 0 0 0 (by decide) (by omega) (by have : FU = 1000000 := rfl; omega) (by omega) (by omega)
    · have hl : ∀ (m n : Nat) (x a b : Int), 0 ≤ x → x + m = gA wM 51 0 → m < n → 0 ≤ a ∧ a ≤ x → 0 ≤ b ∧ b ≤ x → p_X9_longestRun_21 n y a b x (sF wM 50 0 (b2 (!true))) = some (lrF (gA wM 51) y m x a b, sF wM 50 0 (b2 (!true))) := by
        intro m
        induction m with
        | zero =>
          intro n x a b x0 x1 hn ha hb
          obtain ⟨n', rfl⟩ : ∃ n', n = n' + 1 := ⟨n - 1, by omega⟩
          simp (disch := omega) only [p_X9_longestRun_21, wide_o e1, Option.bind_some, lt32_o]
          rw [if_neg (by omega)]; rfl
        | succ m ih =>
          intro n x a b x0 x1 hn ha hb
          obtain ⟨n', rfl⟩ : ∃ n', n = n' + 1 := ⟨n - 1, by omega⟩
          simp (disch := omega) only [p_X9_longestRun_21, p_X9_longestRun_47, wide_o e1, Option.bind_some, lt32_o]
          rw [if_pos (by omega), hasFlaw_o e1 h.B ⟨by omega, by omega⟩ hx, Option.bind_some]
          simp only [eq32_b2]
          unfold lrF
          by_cases c1 : flF (gA wM 51) x y = false
          · rw [if_pos c1, mx32_o (by omega), c1]
            exact ih n' (x + 1) _ _ (by omega) (by omega) (by omega) (by omega) (by omega)
          · rw [if_neg c1, mx32_o (by omega), show flF (gA wM 51) x y = true by cases hq : flF (gA wM 51) x y <;> simp_all]
            exact ih n' (x + 1) _ _ (by omega) (by omega) (by omega) (by omega) (by omega)
      exact hl (gA wM 51 0).toNat FU 0 0 0 (by decide) (by omega) (by have : FU = 1000000 := rfl; omega) (by omega) (by omega)
  · rw [if_neg c, decide_eq_false c, if_pos rfl, bindG_r]
    exact wex (e := 3) (na' := na) (wC' := wC) rfl rfl rfl (Or.inl rfl) rfl (h.fr (frm_refl _) (frmM_0 _ _))
/-- rows with letters, from a word on -/
def ruF (f : Rw) (v : Int) : Int := if v = 0 ∨ rLF f v ≠ rLF f (v - 1) then 1 else 0
theorem op13 (h : RR k na wC wM) : ∃ z, p_op_13 xs i na wC wM = some z ∧ RR k z.1 z.2.1 z.2.2 := by
  obtain ⟨w', a1, a2, a3, a4⟩ := h.lay (frmM_0 wM 0)
  have hn := nL_rng h.B
  refine dok (p8 := p_X8_rowsUsed wC) (pM := p_X9_rowsUsed wM) (r := sm (ruF (gA wM 51)) (nLF (gA wM 51)).toNat) (wC' := wC) (wM' := w') ?_ ?_ (h.fr (frm_refl _) a2)
  · have hl : ∀ (m n : Nat) (v s q : Int), 0 ≤ v → v + m = nLF (gA wM 51) → m < n → (v = 0 ∧ q = -1) ∨ (0 < v ∧ q = rLF (gA wM 51) (v - 1)) → p_X8_rowsUsed_6 n s q v wC = some (s + (sm (ruF (gA wM 51)) (nLF (gA wM 51)).toNat - sm (ruF (gA wM 51)) v.toNat), wC) := by
      intro m
      induction m with
      | zero =>
        intro n v s q v0 v1 hn hq
        obtain ⟨n', rfl⟩ : ∃ n', n = n' + 1 := ⟨n - 1, by omega⟩
        simp (disch := omega) only [p_X8_rowsUsed_6, show gF wC 10 4 = nLF (gA wM 51) from h.L.1.1, lt32_o]
        rw [if_neg (by omega), show v = nLF (gA wM 51) by omega]
        exact congrArg (fun q => some (q, wC)) (by omega)
      | succ m ih =>
        intro n v s q v0 v1 hn hq
        obtain ⟨n', rfl⟩ : ∃ n', n = n' + 1 := ⟨n - 1, by omega⟩
        have hst := sm_step (g := ruF (gA wM 51)) v0
        have hrc := rc_rng h.B (v := v) ⟨v0, by omega⟩
        have hq2 : -1 ≤ q ∧ q < 12 := by
          rcases hq with hq | hq
          · omega
          · have := rc_rng h.B (v := v - 1) ⟨by omega, by omega⟩
            omega
        simp (disch := omega) only [p_X8_rowsUsed_6, p_X8_rowsUsed_42, show gF wC 10 4 = nLF (gA wM 51) from h.L.1.1, lt32_o]
        rw [if_pos (by omega), at11_o h (by omega), Option.bind_some]
        dsimp only
        rw [if_pos (show v < nLF (gA wM 51) by omega)]
        simp (disch := omega) only [eq32_o]
        by_cases c : rLF (gA wM 51) v = q
        · have hg : ruF (gA wM 51) v = 0 := if_neg (by
            rcases hq with hq | hq
            · omega
            · rintro (e | e)
              · omega
              · exact e (c.trans hq.2))
          rw [if_pos c, ih n' (v + 1) s q (by omega) (by omega) (by omega) (Or.inr ⟨by omega, by rw [show v + 1 - 1 = v by omega, c]⟩), hst, hg]
          exact congrArg (fun q => some (q, wC)) (by omega)
        · have hg : ruF (gA wM 51) v = 1 := if_pos (by
            rcases hq with hq | hq
            · exact Or.inl hq.1
            · exact Or.inr (fun e => c (e.trans hq.2.symm)))
          rw [if_neg c, ih n' (v + 1) (s + 1) _ (by omega) (by omega) (by omega) (Or.inr ⟨by omega, by rw [show v + 1 - 1 = v by omega]⟩), hst, hg]
          exact congrArg (fun q => some (q, wC)) (by omega)
    unfold p_X8_rowsUsed
    rw [hl (nLF (gA wM 51)).toNat FU 0 0 (-1) (by decide) (by omega) (by have : FU = 1000000 := rfl; omega) (Or.inl ⟨rfl, rfl⟩)]
    exact congrArg (fun q => some (q, wC)) (by show 0 + (_ - 0) = _; omega)
  · unfold p_X9_rowsUsed
    rw [a1, Option.bind_some]
    have hl := sum_loop (lp := fun n x s => p_X9_rowsUsed_14 n (nLF (gA wM 51)) s x w') (g := ruF (gA wM 51)) (b := nLF (gA wM 51)) (w := w')
      (fun n x s h0 h1 => by
        show p_X9_rowsUsed_14 (n + 1) (nLF (gA wM 51)) s x w' = p_X9_rowsUsed_14 n (nLF (gA wM 51)) _ (x + 1) w'
        have hrc := rc_rng h.B (v := x) ⟨h0, h1⟩
        simp (disch := omega) only [p_X9_rowsUsed_14, p_X9_rowsUsed_41, p_X9_rowsUsed_46, lt32_o, h1, if_true, eq32_o]
        unfold ruF
        by_cases c : x = 0
        · rw [if_pos c, if_pos (Or.inl c)]
        · have hrc2 := rc_rng h.B (v := x - 1) ⟨by omega, by omega⟩
          rw [if_neg c, if_neg (by rw [inb_f (by omega)]; exact id), if_neg (by rw [inb_f (by omega)]; exact id), (a3.2 x h0 h1).1, (a3.2 (x - 1) (by omega) (by omega)).1]
          simp (disch := omega) only [eq32_o]
          by_cases c2 : rLF (gA wM 51) x = rLF (gA wM 51) (x - 1)
          · rw [if_pos c2, if_neg (by rintro (e | e); exact c e; exact e c2)]
          · rw [if_neg c2, if_pos (Or.inr c2)])
      (fun n x s h0 => by
        show p_X9_rowsUsed_14 (n + 1) (nLF (gA wM 51)) s x w' = _
        simp (disch := omega) only [p_X9_rowsUsed_14, lt32_o]
        rw [if_neg (by omega)])
      FU 0 0 (by decide) (by omega) (by have : FU = 1000000 := rfl; omega)
    refine hl.trans (congrArg (fun q => some (q, w')) ?_)
    show 0 + (_ - 0) = _
    omega
end OPS2
