/-! ===== parts; strokes that flaws make; the output ===== -/
section OPS7
variable {k na : Nat} {wC wM : Wd} {xs : Nat → Int32} {i : Int}
theorem op6 (h : RR k na wC wM) : ∃ z, p_op_6 xs i na wC wM = some z ∧ RR k z.1 z.2.1 z.2.2 := by
  unfold p_op_6 p_L_part
  have hx := sc_rng xs (i + 1)
  have hy := sc_rng xs (i + 2)
  generalize sc xs (i + 1) = x at *
  generalize sc xs (i + 2) = y at *
  have hy' := hy
  have hx' := hx
  unfold rng at hy' hx'
  unfold p_X8_part p_X9_part
  rw [needPart_o h hx, isPart_o h.f h.B hx, Option.bind_some]
  dsimp only
  rw [w32_o hy', in_o (by omega), Option.bind_some]
  dsimp only
  rw [passes2_o, Option.bind_some]
  dsimp only
  by_cases c : 0 ≤ x ∧ x < gA wM 51 9
  · have hp9 := h.B.p
    have hps := h.B.ps c.1 c.2
    have hpk := h.B.pk c.1 c.2
    have hfn := firF_next h.B c.1 c.2
    have hn := nL_rng h.B
    have hw := h.B.w
    rw [if_pos c, decide_eq_true c, bindG_l, firstC_o SLo_0 h.B h.S (by omega), Option.bind_some]
    dsimp only
    rw [show p_X5_at 105 x wC = some (psF (gA wM 51) x, wC) from sizeC_o SLo_0 h.B h.S c, Option.bind_some]
    dsimp only
    by_cases d : 0 ≤ y ∧ y ≤ 5
    · rw [decide_eq_true d, if_neg (show ¬ eq32 (b2 (true && true)) 0 = true by decide +kernel)]
      obtain ⟨w', a1, a2, a3, a4⟩ := h.lay (frmM_0 wM 0)
      obtain ⟨e1, e2, e3⟩ := h.ny a2
      obtain ⟨f1, f2, f3⟩ := h.ny (frmM_0 wM 0)
      have hl4 : gF wC 10 4 = nLF (gA wM 51) := h.L.1.1
      have q1 : p_X9_firstOf x (sF wM 50 0 0) = some (firF (gA wM 51) x, sF wM 50 0 0) := firstOf_o f1 (by omega)
      have q2 : p_X9_manyOf x (sF wM 50 0 0) = some (psF (gA wM 51) x, sF wM 50 0 0) := manyOf_o f1 (by omega)
      have key : ∀ v : Int, ∀ p8 : Option Rz, ∀ pM : Option (Int × Wd), p8 = some (.inl v, na, wC) → pM = some (v, w') →
          ∃ z, ((p8.bind (wrL (hnd2 3 2) (fun r w => sA w 34 0 (w32 r)))).bind fun z1 => pM.bind fun m3 => (p_X9_thrown m3.2).bind fun m4 => if eq32 m4.1 z1.1 = true then (if eq32 z1.1 0 = true then (if eq32 (lcm64 (gA z1.2.2 34 0) (w32 m3.1)) 0 = true then (some (z1.2.1, z1.2.2, m4.2)) else (none)) else (some (z1.2.1, z1.2.2, m4.2))) else (none)) = some z ∧ RR k z.1 z.2.1 z.2.2 :=
        fun v p8 pM q1 q2 => wok (na' := na) (wC' := wC) (wM' := w') q1 q2 a4 (h.fr (frm_refl _) a2)
      generalize hits : max 0 (min (nLF (gA wM 51) - firF (gA wM 51) x) (psF (gA wM 51) x)) = its
      have m1 : mx32 0 (mn32 (gF wC 10 4 - firF (gA wM 51) x) (psF (gA wM 51) x)) = its := by rw [hl4, mn32_o (by omega), mx32_o (by omega)]; exact hits
      have m2 : mx32 0 (mn32 (psF (gA wM 51) x) (nLF (gA wM 51) - firF (gA wM 51) x)) = its := by rw [mn32_o (by omega), mx32_o (by omega)]; omega
      show ∃ z, ((Option.bind _ _).bind fun z1 => ((p_X9_firstOf x (sF wM 50 0 0)).bind _).bind _) = some z ∧ _
      rw [q1, Option.bind_some]
      dsimp only
      rw [q2, Option.bind_some]
      dsimp only
      rw [a1, Option.bind_some]
      dsimp only
      rw [m1, m2]
      have hy6 : y = 0 ∨ y = 1 ∨ y = 2 ∨ y = 3 ∨ y = 4 ∨ y = 5 := by omega
      have hits0 : 0 ≤ its ∧ its ≤ 60 := by omega
      rcases hy6 with rfl | rfl | rfl | rfl | rfl | rfl
      · refine key (pkF (gA wM 51) x) _ _ ?_ ?_
        · simp (disch := decide) only [lt32_o, Int.reduceLT, if_true, if_false]
          rw [show p_X5_at 103 x wC = some (pkF (gA wM 51) x, wC) from kindC_o SLo_0 h.B h.S c, Option.bind_some]
        · simp (disch := decide) only [lt32_o, Int.reduceLT, if_true, if_false]
          rw [kindOf_o e1 (by omega), Option.bind_some]
      · refine key (firF (gA wM 51) x) _ _ ?_ ?_
        · simp (disch := decide) only [lt32_o, Int.reduceLT, if_true, if_false]
        · simp (disch := decide) only [lt32_o, Int.reduceLT, if_true, if_false]
      · refine key (psF (gA wM 51) x) _ _ ?_ ?_
        · simp (disch := decide) only [lt32_o, Int.reduceLT, if_true, if_false]
        · simp (disch := decide) only [lt32_o, Int.reduceLT, if_true, if_false]
      · refine key its _ _ ?_ ?_
        · simp (disch := decide) only [lt32_o, Int.reduceLT, if_true, if_false]
        · simp (disch := decide) only [lt32_o, Int.reduceLT, if_true, if_false]
      · refine key (if firF (gA wM 51) x < nLF (gA wM 51) then rLF (gA wM 51) (firF (gA wM 51) x) else -1) _ _ ?_ ?_
        · simp (disch := decide) only [lt32_o, Int.reduceLT, if_true, if_false]
          rw [at11_o h (by omega), Option.bind_some]
        · simp (disch := decide) only [lt32_o, Int.reduceLT, if_true, if_false]
          by_cases q : firF (gA wM 51) x < nLF (gA wM 51)
          · rw [if_neg (show ¬ eq32 its 0 = true by rw [eq32_o (by omega)]; omega), if_neg (by rw [inb_f (by omega)]; exact id), if_pos q, (a3.2 _ hfn.1 q).1]
          · rw [if_pos (show eq32 its 0 = true by rw [eq32_o (by omega)]; omega), if_neg q]
      · refine key (if its = 0 then -1 else rLF (gA wM 51) (firF (gA wM 51) x + its - 1)) _ _ ?_ ?_
        · simp (disch := decide) only [lt32_o, Int.reduceLT, if_true, if_false]
          by_cases q : its = 0
          · rw [if_pos q, if_pos ((eq32_o (by omega)).mpr q)]
          · rw [if_neg q, if_neg (fun e => q ((eq32_o (by omega)).mp e)), at11_o h (by omega), Option.bind_some]
            dsimp only
            rw [if_pos (show firF (gA wM 51) x + its - 1 < nLF (gA wM 51) by omega)]
        · simp (disch := decide) only [lt32_o, Int.reduceLT, if_true, if_false]
          by_cases q : its = 0
          · rw [if_pos q, if_pos ((eq32_o (by omega)).mpr q)]
          · rw [if_neg q, if_neg (fun e => q ((eq32_o (by omega)).mp e)), if_neg (by rw [inb_f (by omega)]; exact id), (a3.2 _ (by omega) (by omega)).1]
    · rw [decide_eq_false d, if_pos (show eq32 (b2 (true && false)) 0 = true by decide +kernel)]
      by_cases d1 : lt32 y 0 = true
      · rw [if_pos d1]
        exact wex (e := 2) (na' := na) (wC' := wC) rfl rfl rfl (Or.inr rfl) rfl (h.fr (frm_refl _) (frmM_0 _ _))
      · rw [if_neg d1, if_pos (by rw [lt32_o (by omega)] at d1 ⊢; omega)]
        exact wex (e := 2) (na' := na) (wC' := wC) rfl rfl rfl (Or.inr rfl) rfl (h.fr (frm_refl _) (frmM_0 _ _))
  · rw [if_neg c, decide_eq_false c, bindG_r, if_pos (show eq32 (b2 (false && decide (0 ≤ y ∧ y ≤ 5))) 0 = true from (eq32_b2 _ ▸ (rfl : (false && decide (0 ≤ y ∧ y ≤ 5)) = false)))]
    exact wex (e := 3) (na' := na) (wC' := wC) rfl rfl rfl (Or.inl rfl) rfl (h.fr (frm_refl _) (frmM_0 _ _))
/-! strokes more by flaws -/
def deF (f : Rw) (n : Int) : Int := if tchF f (cLF f (wlF f n) + (n - laF f (wlF f n))) (rLF f (wlF f n)) = true then plainF (wbF f (wlF f n) (n - laF f (wlF f n))) else 0
theorem op30 (h : RR k na wC wM) : ∃ z, p_op_30 xs i na wC wM = some z ∧ RR k z.1 z.2.1 z.2.2 := by
  have h288 := (lF_ok h.B).2.2.2
  have hn := nL_rng h.B
  obtain ⟨w', a1, a2, a3, a4⟩ := h.lay (frmM_0 wM 0)
  obtain ⟨e1, e2, e3⟩ := h.ny a2
  refine dok (p8 := p_X8_dear wC) (pM := p_X9_dear wM) (r := sm (deF (gA wM 51)) (laF (gA wM 51) (nLF (gA wM 51))).toNat) (wC' := wC) (wM' := w') ?_ ?_ (h.fr (frm_refl _) a2)
  · have hl := sum_loop (lp := fun n x s => p_X8_dear_4 n s x wC) (g := deF (gA wM 51)) (b := laF (gA wM 51) (nLF (gA wM 51))) (w := wC)
      (fun n x s x0 x1 => by
        show p_X8_dear_4 (n + 1) s x wC = p_X8_dear_4 n _ (x + 1) wC
        obtain ⟨q1, q2, q3⟩ := wl_ex h.B ⟨hn.1, hn.2.1⟩ ⟨x0, x1⟩
        have hrc := rc_rng h.B q1
        have hT := h.T.1
        simp (disch := omega) only [p_X8_dear_4, p_X8_dear_61, hT, lt32_o, x1, if_true]
        rw [at_in ⟨x0, by rw [show ln (15 + 1) = 288 from rfl]; omega⟩, Option.bind_some]
        dsimp only
        rw [show gA wC (15 + 1) x = plF (gA wM 51) x from (h.T.2 x x0 x1).1]
        have hpl : plF (gA wM 51) x = 100 * rLF (gA wM 51) (wlF (gA wM 51) x) + (cLF (gA wM 51) (wlF (gA wM 51) x) + (x - laF (gA wM 51) (wlF (gA wM 51) x))) := rfl
        have hdv : dv32 (plF (gA wM 51) x) 100 = rLF (gA wM 51) (wlF (gA wM 51) x) := by
          unfold dv32
          rw [w32_id (by omega) (by omega), w32_id (by decide) (by decide), Int.tdiv_eq_ediv_of_nonneg (by omega)]
          omega
        rw [rm_o (by omega) (by decide), hdv, show plF (gA wM 51) x % 100 = cLF (gA wM 51) (wlF (gA wM 51) x) + (x - laF (gA wM 51) (wlF (gA wM 51) x)) by omega]
        rw [touch_o SLo_0 h.B h.S (by omega) (by omega), Option.bind_some]
        simp only [eq32_b2]
        show (if tchF (gA wM 51) (cLF (gA wM 51) (wlF (gA wM 51) x) + (x - laF (gA wM 51) (wlF (gA wM 51) x))) (rLF (gA wM 51) (wlF (gA wM 51) x)) = false then _ else _) = _
        unfold deF
        cases hq : tchF (gA wM 51) (cLF (gA wM 51) (wlF (gA wM 51) x) + (x - laF (gA wM 51) (wlF (gA wM 51) x))) (rLF (gA wM 51) (wlF (gA wM 51) x)) with
        | false => rw [if_pos rfl, if_neg (by decide), Int.add_zero]
        | true =>
          rw [if_neg (by decide), at17_o h.B h.T ⟨x0, x1⟩, Option.bind_some, if_pos rfl]
          have hcs : cosF (gA wM 51) x = 2 * plainF (wbF (gA wM 51) (wlF (gA wM 51) x) (x - laF (gA wM 51) (wlF (gA wM 51) x))) := by
            unfold cosF strF; rw [hq, if_pos rfl]
          have hpr := plain_rng (x := wbF (gA wM 51) (wlF (gA wM 51) x) (x - laF (gA wM 51) (wlF (gA wM 51) x)))
          dsimp only
          rw [hcs, dv2_o (by omega)]
          exact congrArg (fun q => p_X8_dear_4 n q (x + 1) wC) (by omega))
      (fun n x s x0 => by
        show p_X8_dear_4 (n + 1) s x wC = _
        have hT := h.T.1
        have hge := laF_rng h.B hn.1 hn.2.1
        simp (disch := omega) only [p_X8_dear_4, hT, lt32_o]
        rw [if_neg (by omega)])
      FU 0 0 (by decide) (by have := laF_rng h.B hn.1 hn.2.1; omega) (by have : FU = 1000000 := rfl; omega)
    refine hl.trans (congrArg (fun q => some (q, wC)) ?_)
    show 0 + (_ - 0) = _
    omega
  · have hin : ∀ (k14 : Int → Int → Int → Wd → Option (Int × Wd)) (v : Int), 0 ≤ v → v < nLF (gA wM 51) → ∀ (m n : Nat) (x s : Int), 0 ≤ x → x + m = wnF (gA wM 51) v → s = sm (deF (gA wM 51)) (laF (gA wM 51) v + x).toNat → m < n → p_X9_dear_22 k14 n (nLF (gA wM 51)) s v x w' = k14 (nLF (gA wM 51)) (sm (deF (gA wM 51)) (laF (gA wM 51) (v + 1)).toNat) (v + 1) w' := by
      intro k14 v v0 v1 m
      have hrc := rc_rng h.B ⟨v0, v1⟩
      have hla := laF_rng h.B v0 (show v ≤ gA wM 51 10 by omega)
      induction m with
      | zero =>
        intro n x s x0 x1 hs hn
        obtain ⟨n', rfl⟩ : ∃ n', n = n' + 1 := ⟨n - 1, by omega⟩
        simp only [p_X9_dear_22, p_X9_dear_59]
        rw [bytesOf_o e1 (by omega), Option.bind_some]
        simp (disch := omega) only [lt32_o]
        rw [if_neg (by omega), laF_step v0, hs, show x = wnF (gA wM 51) v by omega]
      | succ m ih =>
        intro n x s x0 x1 hs hn
        obtain ⟨n', rfl⟩ : ∃ n', n = n' + 1 := ⟨n - 1, by omega⟩
        simp only [p_X9_dear_22]
        rw [bytesOf_o e1 (by omega), Option.bind_some]
        simp (disch := omega) only [lt32_o]
        rw [if_pos (by omega), strokesOf_o e1 h.B a3 ⟨v0, v1⟩ ⟨x0, by omega⟩, Option.bind_some]
        dsimp only
        rw [byteOf_o e1 (by omega) (by omega), Option.bind_some]
        dsimp only
        rw [plain_o (h.B.wb v0 (by omega) x0 (by omega)), Option.bind_some]
        dsimp only
        refine ih n' (x + 1) _ (by omega) (by omega) ?_ (by omega)
        rw [show laF (gA wM 51) v + (x + 1) = laF (gA wM 51) v + x + 1 by omega, sm_step (by omega), hs]
        have hw2 : wlF (gA wM 51) (laF (gA wM 51) v + x) = v := wl_uniq h.B ⟨v0, by omega⟩ (by omega) (by omega)
        unfold deF strF
        rw [hw2, show laF (gA wM 51) v + x - laF (gA wM 51) v = x by omega]
        cases tchF (gA wM 51) (cLF (gA wM 51) v + x) (rLF (gA wM 51) v) with
        | false => rw [if_neg (by decide), if_neg (by decide)]; omega
        | true => rw [if_pos rfl, if_pos rfl]; omega
    have hl : ∀ (m n : Nat) (v s : Int), 0 ≤ v → v + m = nLF (gA wM 51) → s = sm (deF (gA wM 51)) (laF (gA wM 51) v).toNat → m < n → p_X9_dear_14 n (nLF (gA wM 51)) s v w' = some (sm (deF (gA wM 51)) (laF (gA wM 51) (nLF (gA wM 51))).toNat, w') := by
      intro m
      induction m with
      | zero =>
        intro n v s v0 v1 hs hn
        obtain ⟨n', rfl⟩ : ∃ n', n = n' + 1 := ⟨n - 1, by omega⟩
        simp (disch := omega) only [p_X9_dear_14, lt32_o]
        rw [if_neg (by omega), hs, show v = nLF (gA wM 51) by omega]
      | succ m ih =>
        intro n v s v0 v1 hs hn
        obtain ⟨n', rfl⟩ : ∃ n', n = n' + 1 := ⟨n - 1, by omega⟩
        have hrc := rc_rng h.B (v := v) ⟨v0, by omega⟩
        simp (disch := omega) only [p_X9_dear_14, lt32_o]
        rw [if_pos (by omega), hin _ v v0 (by omega) (wnF (gA wM 51) v).toNat FU 0 s (by decide) (by omega) (by rw [Int.add_zero]; exact hs) (by have : FU = 1000000 := rfl; omega)]
        exact ih n' (v + 1) _ (by omega) (by omega) rfl (by omega)
    unfold p_X9_dear
    rw [a1, Option.bind_some]
    exact hl (nLF (gA wM 51)).toNat FU 0 0 (by decide) (by omega) rfl (by have : FU = 1000000 := rfl; omega)
theorem op50 (h : RR k na wC wM) : ∃ z, p_op_50 xs i na wC wM = some z ∧ RR k z.1 z.2.1 z.2.2 := by
  unfold p_op_50 p_L_outputByte
  have hx := sc_rng xs (i + 1)
  generalize sc xs (i + 1) = x at *
  have hx' := hx
  unfold rng at hx'
  obtain ⟨o1, o2, o3⟩ := h.2.2.2.2.2.2.1
  unfold p_X8_outputByte p_X8_outputByte_15 p_X9_outputByte
  rw [o1, w32_o hx', w32_o (by omega), in_o (by omega), Option.bind_some]
  dsimp only
  rw [passes_o, Option.bind_some]
  dsimp only
  by_cases c : 0 ≤ x ∧ x < gF wM 50 33
  · rw [decide_eq_true (show 0 ≤ x ∧ x ≤ gF wM 50 33 - 1 by omega), if_neg (show ¬ eq32 (b2 true) 0 = true by decide +kernel), if_neg (by rw [lt32_o (by omega)]; omega), if_pos (by rw [lt32_o (by omega)]; omega), at_in ⟨c.1, by rw [show ln (6 + 1) = 900 from rfl]; omega⟩, Option.bind_some, if_neg (show ¬ inb x 1000 = false by rw [inb_f (by omega)]; exact id)]
    exact wok (na' := na) (wC' := wC) (wM' := sF wM 50 0 (b2 (!true))) rfl (congrArg (fun q => some (q, _)) (o3 x c.1 c.2).symm) rfl (h.fr (frm_refl _) (frmM_0 _ _))
  · rw [decide_eq_false (show ¬ (0 ≤ x ∧ x ≤ gF wM 50 33 - 1) by omega), if_pos (show eq32 (b2 false) 0 = true by decide +kernel)]
    by_cases d : lt32 x 0 = true
    · rw [if_pos d]
      exact wex (e := 4) (na' := na) (wC' := wC) rfl rfl rfl (Or.inl rfl) rfl (h.fr (frm_refl _) (frmM_0 _ _))
    · rw [if_neg d, if_neg (by rw [lt32_o (by omega)] at d ⊢; omega)]
      exact wex (e := 4) (na' := na) (wC' := wC) rfl rfl rfl (Or.inl rfl) rfl (h.fr (frm_refl _) (frmM_0 _ _))
end OPS7
