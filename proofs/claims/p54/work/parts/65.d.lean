/-! ===== the least rows: both answers ===== -/
section RWT
variable {f : Rw} {q : Int}
theorem lw_lt : ∀ (n : Nat) (v : Int) (st : Ly), st.1 = v → (lwF f n v st).1 = false → (lwF f n v st).2.1 < v + n := by
  intro n
  induction n with
  | zero => intro v st _ h; exact absurd (show true = false from h) (by decide)
  | succ n ih =>
    intro v st h0 h
    unfold lwF at h ⊢
    by_cases c : (fpF f (wnF f v) FP0 st.2.1 st.2.2.1).1 = true
    · rw [if_pos c] at h ⊢
      have := ih (v + 1) _ rfl h
      omega
    · rw [if_neg c]; show st.1 < v + ((n + 1 : Nat) : Int); omega
theorem lp_lt {p : Int} {st : Ly} (hps : 1 ≤ psF f p) (h : ¬ (lpF f p st).1 = true) : (lpF f p st).2.1 < st.1 + psF f p := by
  have h1 : ¬ (lwF f (psF f p).toNat st.1 st).1 = true := fun c => h (by unfold lpF; rw [if_pos c])
  have h2 := lw_lt (f := f) (psF f p).toNat st.1 st rfl (bfF h1)
  unfold lpF
  rw [if_neg h1]; omega
theorem lw_keep : ∀ (n : Nat) (v : Int) (st : Ly) (i : Int), i < v → (lwF f n v st).2.2.2.2.1 i = st.2.2.2.1 i := by
  intro n
  induction n with
  | zero => intro v st i _; rfl
  | succ n ih =>
    intro v st i h
    unfold lwF
    by_cases c : (fpF f (wnF f v) FP0 st.2.1 st.2.2.1).1 = true
    · rw [if_pos c, ih (v + 1) _ i (by omega)]; exact upd1_n _ _ (by omega)
    · rw [if_neg c]
theorem lp_keep {p : Int} {st : Ly} {i : Int} (h : i < st.1) : (lpF f p st).2.2.2.2.1 i = st.2.2.2.1 i := by
  have h1 := lw_keep (f := f) (psF f p).toNat st.1 st i h
  unfold lpF
  by_cases c : (lwF f (psF f p).toNat st.1 st).1 = true
  · rw [if_pos c]; exact h1
  · rw [if_neg c]; exact h1
theorem ly_keep : ∀ (n : Nat) (p : Int) (st : Ly) (i : Int), i < st.1 → (lyF f n p st).2.2.2.1 i = st.2.2.2.1 i := by
  intro n
  induction n with
  | zero => intro p st i _; rfl
  | succ n ih =>
    intro p st i h
    have hge := lpF_ge (f := f) p st
    unfold lyF
    by_cases c : (lpF f p st).1 = true
    · rw [if_pos c, ih (p + 1) _ i (by omega)]; exact lp_keep h
    · rw [if_neg c]; exact lp_keep h
theorem rw_ly (hV : VB f) (hq : 1 ≤ q ∧ q ≤ f 1) : ∀ (n : Nat) (p : Int) (st : Ly), 0 ≤ p → p + n = f 9 → VS f (firF f p) st → (∀ i, 0 ≤ i → i < firF f p → st.2.2.2.1 i < q) →
    ((lyF (rwF f q) n p st).1 = f 10 ∨ ((lyF f n p st).1 = f 10 ∧ ∀ i, 0 ≤ i → i < f 10 → (lyF f n p st).2.2.2.1 i < q)) →
    lyF (rwF f q) n p st = lyF f n p st ∧ ∀ i, 0 ≤ i → i < f 10 → (lyF f n p st).2.2.2.1 i < q := by
  intro n
  induction n with
  | zero =>
    intro p st p0 p1 hS hR _
    refine ⟨rfl, fun i i0 i1 => hR i i0 ?_⟩
    rw [show p = f 9 by omega, hV.fir]; exact i1
  | succ n ih =>
    intro p st p0 p1 hS hR h
    have hps := hV.ps p0 (show p < f 9 by omega)
    have hfn := firF_next hV p0 (show p < f 9 by omega)
    have hst := firF_step (f := f) p0
    have e1 : st.1 = firF f p := hS.1
    have ep : psF (rwF f q) p = psF f p := rwF_n (by omega)
    have hok := lpF_ok hV p0 (show p < f 9 by omega) hS hS.2.2.1.2
    have hcase : (lpF (rwF f q) p st).1 = true ∨ ((lpF f p st).1 = true ∧ ∀ i, 0 ≤ i → i < firF f (p + 1) → (lpF f p st).2.2.2.2.1 i < q) := by
      rcases h with h | ⟨h, h2⟩
      · left
        rcases Classical.em ((lpF (rwF f q) p st).1 = true) with c | c
        · exact c
        · have := lp_lt (f := rwF f q) (by rw [ep]; exact hps.1) c
          unfold lyF at h
          rw [if_neg c] at h
          rw [ep] at this
          omega
      · right
        have hc : (lpF f p st).1 = true := by
          rcases Classical.em ((lpF f p st).1 = true) with c | c
          · exact c
          · have := lp_lt (f := f) hps.1 c
            unfold lyF at h
            rw [if_neg c] at h
            omega
        refine ⟨hc, fun i i0 i1 => ?_⟩
        have hVS := hok.1 hc
        have h3 := h2 i i0 (by omega)
        unfold lyF at h3
        rw [if_pos hc, ly_keep n (p + 1) _ i (by rw [hVS.1]; exact i1)] at h3
        exact h3
    obtain ⟨g1, g2, g3⟩ := rw_lp hV hq p0 (by omega) hS hR hcase
    have hVS := hok.1 g2
    have hnext := ih (p + 1) (lpF f p st).2 (by omega) (by omega) hVS g3 (by
      rcases h with h | ⟨h, h2⟩
      · left
        unfold lyF at h
        rw [g1, if_pos g2] at h; exact h
      · right
        unfold lyF at h h2
        rw [if_pos g2] at h h2
        exact ⟨h, h2⟩)
    unfold lyF
    rw [g1, if_pos g2, if_pos g2]
    exact hnext
theorem rw_iff (hV : VB f) (hq : 1 ≤ q ∧ q ≤ f 1) : nLF (rwF f q) = f 10 ↔ (nLF f = f 10 ∧ (f 10 = 0 ∨ rLF f (f 10 - 1) < q)) := by
  have h9 := hV.p
  have h10 := hV.w
  have e9 : rwF f q 9 = f 9 := rwF_n (by omega)
  have hr := rw_ly hV hq (f 9).toNat 0 L0 (Int.le_refl _) (by omega) VS_0 (fun i i0 i1 => absurd i1 (by rw [firF_0]; omega))
  have hok := lF_ok hV
  have eL : lF (rwF f q) = lyF (rwF f q) (f 9).toNat 0 L0 := by unfold lF; rw [e9]
  constructor
  · intro h
    have h1 : (lyF (rwF f q) (f 9).toNat 0 L0).1 = f 10 := by rw [← eL]; exact h
    obtain ⟨a1, a2⟩ := hr (Or.inl h1)
    refine ⟨by rw [a1] at h1; exact h1, ?_⟩
    rcases Int.lt_or_le 0 (f 10) with c | c
    · exact Or.inr (a2 (f 10 - 1) (by omega) (by omega))
    · exact Or.inl (by omega)
  · rintro ⟨h1, h2⟩
    have a := hr (Or.inr ⟨h1, fun i i0 i1 => by
      have hm := hok.2.2.1.2 i (f 10 - 1) i0 (by omega) (by rw [h1]; omega)
      rcases h2 with h2 | h2
      · omega
      · exact Int.lt_of_le_of_lt hm h2⟩)
    show (lF (rwF f q)).1 = f 10
    rw [eL, a.1]; exact h1
end RWT
section WN
variable {k na : Nat} {wC wM : Wd} {xs : Nat → Int32} {i : Int}
theorem op26 (h : RR k na wC wM) : ∃ z, p_op_26 xs i na wC wM = some z ∧ RR k z.1 z.2.1 z.2.2 := by
  have hn := nL_rng h.B
  have hw := h.B.w
  have hr := h.B.r
  have hl : ∀ (t : Int) (m n : Nat) (x : Int) (w : Wd), (∀ q, 1 ≤ q → q < t → q ≤ gA wM 51 1 → ¬ nLF (rwF (gA wM 51) q) = gA wM 51 10) → (t ≤ gA wM 51 1 → nLF (rwF (gA wM 51) t) = gA wM 51 10) → t ≤ gA wM 51 1 + 1 → 1 ≤ x → x + m = t → m < n → frm SMf TMf wM w →
      ∃ w', p_X9_leastRows_7 n x w = some (if t ≤ gA wM 51 1 then t else -1, w') ∧ frm SMf TMf wM w' := by
    intro t m
    induction m with
    | zero =>
      intro n x w h1 h2 h3 x0 x1 hnn hfr
      obtain ⟨n', rfl⟩ : ∃ n', n = n' + 1 := ⟨n - 1, by omega⟩
      obtain ⟨e1, e2, e3⟩ := h.ny hfr
      simp (disch := omega) only [p_X9_leastRows_7, e3, lt32_o]
      rw [if_neg (show ¬ inb 1 1099 = false by decide)]
      by_cases c : gA wM 51 1 < x
      · rw [if_pos c, if_neg (by omega)]
        exact ⟨w, rfl, hfr⟩
      · rw [if_neg c]
        have hxt : x = t := by omega
        obtain ⟨m1, d1, d2, d3, d4⟩ := as9 h hfr
        have e51 := (h.ny d2).2.2
        have hV' := rwF_VB h.B (q := x) ⟨x0, by omega⟩
        obtain ⟨m2, m3, y1, y2, y3, y4⟩ := wi9 h (w := sA m1 51 1 x) (f' := rwF (gA wM 51) x) (frm_sA (frm_5 d2) (Or.inr rfl)) (fun i i0 i1 => by rw [gA_sA, if_neg (by omega)]; exact d3 i i0 i1) (by rw [gA_upd, e51]; rfl) hV' (upd1_Z h.z (by decide))
        rw [d1, Option.bind_some, if_neg (show ¬ inb 1 1099 = false by decide), y1, Option.bind_some]
        dsimp only
        rw [y2, Option.bind_some]
        dsimp only
        rw [if_neg (show ¬ inb 10 1099 = false by decide), (h.ny y3).2.2]
        have hnl := nL_rng hV'
        have hq := h2 (by omega)
        rw [← hxt] at hq
        rw [hq, if_pos (eq32_self _), if_pos (by omega)]
        unfold p_X9_leastRows_51
        rw [if_neg e10, hxt]
        exact ⟨m3, rfl, y3⟩
    | succ m ih =>
      intro n x w h1 h2 h3 x0 x1 hnn hfr
      obtain ⟨n', rfl⟩ : ∃ n', n = n' + 1 := ⟨n - 1, by omega⟩
      obtain ⟨e1, e2, e3⟩ := h.ny hfr
      simp (disch := omega) only [p_X9_leastRows_7, e3, lt32_o]
      rw [if_neg (show ¬ inb 1 1099 = false by decide), if_neg (by omega)]
      obtain ⟨m1, d1, d2, d3, d4⟩ := as9 h hfr
      have e51 := (h.ny d2).2.2
      have hV' := rwF_VB h.B (q := x) ⟨x0, by omega⟩
      obtain ⟨m2, m3, y1, y2, y3, y4⟩ := wi9 h (w := sA m1 51 1 x) (f' := rwF (gA wM 51) x) (frm_sA (frm_5 d2) (Or.inr rfl)) (fun i i0 i1 => by rw [gA_sA, if_neg (by omega)]; exact d3 i i0 i1) (by rw [gA_upd, e51]; rfl) hV' (upd1_Z h.z (by decide))
      rw [d1, Option.bind_some, if_neg (show ¬ inb 1 1099 = false by decide), y1, Option.bind_some]
      dsimp only
      rw [y2, Option.bind_some]
      dsimp only
      rw [if_neg (show ¬ inb 10 1099 = false by decide), (h.ny y3).2.2]
      have hnl := nL_rng hV'
      have hq := h1 x x0 (by omega) (by omega)
      rw [if_neg (by rw [eq32_o (by omega)]; exact hq)]
      unfold p_X9_leastRows_51
      rw [if_pos e00]
      exact ih n' (x + 1) m3 h1 h2 h3 (by omega) (by omega) (by omega) y3
  have key : ∃ t : Int, 1 ≤ t ∧ t ≤ gA wM 51 1 + 1 ∧ (∀ q, 1 ≤ q → q < t → q ≤ gA wM 51 1 → ¬ nLF (rwF (gA wM 51) q) = gA wM 51 10) ∧ (t ≤ gA wM 51 1 → nLF (rwF (gA wM 51) t) = gA wM 51 10) ∧
      (if t ≤ gA wM 51 1 then t else -1) = (if nLF (gA wM 51) < gA wM 51 10 then -1 else if gA wM 51 10 = 0 then 1 else rLF (gA wM 51) (gA wM 51 10 - 1) + 1) := by
    by_cases c : nLF (gA wM 51) < gA wM 51 10
    · refine ⟨gA wM 51 1 + 1, by omega, Int.le_refl _, fun q q0 q1 q2 e => ?_, fun e => by omega, by rw [if_neg (by omega), if_pos c]⟩
      have := ((rw_iff h.B ⟨q0, q2⟩).mp e).1
      omega
    · by_cases d : gA wM 51 10 = 0
      · exact ⟨1, Int.le_refl _, by omega, fun q q0 q1 _ => by omega, fun _ => (rw_iff h.B ⟨Int.le_refl _, by omega⟩).mpr ⟨by omega, Or.inl d⟩, by rw [if_pos (by omega), if_neg c, if_pos d]⟩
      · have hrc := rc_rng h.B (v := gA wM 51 10 - 1) ⟨by omega, by omega⟩
        refine ⟨rLF (gA wM 51) (gA wM 51 10 - 1) + 1, by omega, by omega, fun q q0 q1 q2 e => ?_, fun _ => (rw_iff h.B ⟨by omega, by omega⟩).mpr ⟨by omega, Or.inr (by omega)⟩, by rw [if_pos (by omega), if_neg c, if_neg d]⟩
        have := ((rw_iff h.B ⟨q0, q2⟩).mp e).2
        omega
  obtain ⟨t, t1, t2, t3, t4, t5⟩ := key
  obtain ⟨m', y1, y2⟩ := hl t (t - 1).toNat FU 1 (sF wM 50 0 0) t3 t4 t2 (Int.le_refl _) (by omega) (by have : FU = 1000000 := rfl; omega) (frmM_0 wM 0)
  rw [t5] at y1
  refine dok (p8 := p_X8_leastRows wC) (pM := p_X9_leastRows wM) (wC' := wC) ?_ y1 (h.fr (frm_refl _) y2)
  unfold p_X8_leastRows
  rw [show gF wC 10 4 = nLF (gA wM 51) from h.L.1.1, show gF wC 100 7 = gA wM 51 10 from h.S.1.2.2.2.2.1]
  simp (disch := omega) only [lt32_o, eq32_o]
  by_cases c : nLF (gA wM 51) < gA wM 51 10
  · rw [if_pos c, if_pos c]
  · rw [if_neg c, if_neg c]
    by_cases d : gA wM 51 10 = 0
    · rw [if_pos d, if_pos d]
    · rw [if_neg d, if_neg d, at11_o h (by omega), Option.bind_some]
      dsimp only
      rw [if_pos (show gA wM 51 10 - 1 < nLF (gA wM 51) by omega)]
end WN
