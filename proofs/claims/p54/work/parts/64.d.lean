/-! ===== turned; the least rows ===== -/
section WM
variable {k na : Nat} {wC wM : Wd} {xs : Nat → Int32} {i : Int}
theorem op25 (h : RR k na wC wM) : ∃ z, p_op_25 xs i na wC wM = some z ∧ RR k z.1 z.2.1 z.2.2 := by
  obtain ⟨w1, a1, a2, a3, a4⟩ := h.cp
  obtain ⟨w2, b1, b2', b3⟩ := turnC h.B a4 (h.fr a3 (frm_refl wM)).S
  obtain ⟨w3, c1, c2⟩ := lot_o (tuF_VB h.B) b3
  obtain ⟨m1, d1, d2, d3, d4⟩ := as9 h (frmM_0 wM 0)
  obtain ⟨e1, e2, e3⟩ := h.ny d2
  obtain ⟨m2, t1, t2, t3⟩ := turn9 h.B e2 e3
  obtain ⟨m3, m4, x1, x2, x3, x4⟩ := wi9 h (w := m2) (f' := tuF (gA wM 51)) (frm_trans (frm_5 d2) (frm_mono t2 (fun _ _ h => absurd h id) (fun o h => Or.inr h))) (fun i i0 i1 => (t2.2.1 55 (by decide) i).trans (d3 i i0 i1)) t3 (tuF_VB h.B) (tuF_Z h.B h.z)
  refine dok (p8 := p_X8_laidTurned wC) (pM := p_X9_laidTurned wM) (r := nLF (tuF (gA wM 51))) (wC' := w3) (wM' := m4) ?_ ?_ (h.fr (frm_trans a3 (frm_trans (frm_mono b2' (fun _ _ h => absurd h id) (fun o h => by unfold TCf; omega)) (frm_L20 c2))) x3)
  · unfold p_X8_laidTurned
    rw [a1, Option.bind_some, b1, Option.bind_some, c1, Option.bind_some]
  · unfold p_X9_laidTurned
    rw [d1, Option.bind_some, t1, Option.bind_some, x1, Option.bind_some]
    dsimp only
    rw [x2, Option.bind_some]
theorem op39 (h : RR k na wC wM) : ∃ z, p_op_39 xs i na wC wM = some z ∧ RR (k + 1) z.1 z.2.1 z.2.2 := by
  unfold p_op_39 p_L_turnSlab
  obtain ⟨vB, v1, v3, v4, v5, v6, v7, v8⟩ := h.V
  have h288 := (lF_ok h.B).2.2.2
  have e11 : gF wC 100 11 = gA wM 51 8 := h.S.1.2.2.2.2.2
  unfold p_X8_turnSlab p_X9_turnSlab
  rw [if_neg (show ¬ inb 8 1099 = false by decide), e11]
  by_cases c : gA wM 51 8 = 0
  · rw [if_pos (show eq32 (gA wM 51 8) 0 = true by rw [c]; exact e00), if_neg (show ¬ lt32 0 (gA wM 51 8) = true by rw [lt32_o (by omega)]; omega)]
    obtain ⟨w1, a1, a2, a3, a4⟩ := h.cp
    obtain ⟨w2, b1, b2', b3⟩ := turnC h.B a4 (h.fr a3 (frm_refl wM)).S
    obtain ⟨m1, d1, d2, d3⟩ := h.rem (frmM_0 wM 0)
    obtain ⟨m2, t1, t2, t3⟩ := turn9 h.B d3.1 d3.2.1
    have hp2 : gP m2 50 3 = 51 := (t2.2.2 _ _).trans d3.1
    have hcr2 : cR m2 = tuF (gA wM 51) := by unfold cR; rw [hp2, t3]
    obtain ⟨m3, l1, l2, l3⟩ := lay9 (tuF_VB h.B) hcr2 hp2
    have hn : ∀ i, 3 ≤ i → i ≤ 8 → tuF (gA wM 51) i = gA wM 51 i := fun i i0 i1 => tuP_n h.B (by omega)
    have hV' : VF (k + 1) (tuF (gA wM 51)) := by
      refine ⟨tuF_VB h.B, ?_, by rw [hn 3 (by decide) (by decide)]; exact v3, by rw [hn 4 (by decide) (by decide)]; exact v4, by rw [hn 5 (by decide) (by decide), hn 3 (by decide) (by decide)]; exact v5, by rw [hn 6 (by decide) (by decide)]; omega, by rw [hn 7 (by decide) (by decide)]; omega, ?_⟩
      · rw [show tuF (gA wM 51) 1 = gA wM 51 1 from tuP_n h.B (by omega)]; exact v1
      · rw [hn 8 (by decide) (by decide), c]
        have hk := nL_rng (tuF_VB h.B)
        have := laF_rng (tuF_VB h.B) hk.1 hk.2.1
        omega
    have hM := (d3.up (w' := m3) (frm_trans (frm_mono t2 (fun _ _ h => absurd h id) (fun o h => Or.inr h)) (frm_5 (frm_L9 l1))) ((funext fun i => l1.2.1 51 (by unfold TL9; decide) i).trans t3))
    obtain ⟨na', wC', s1, s2⟩ := h.settle (frm_trans a3 (frm_mono b2' (fun _ _ h => absurd h id) (fun o h => by unfold TCf; omega))) b3 hV' (tuF_Z h.B h.z) hM
    have ht : gF m3 50 0 = 0 := (l1.1 50 0 (by unfold SL9; omega)).trans ((t2.1 50 0 id).trans (d2.1 50 0 (by decide)))
    refine wok (h := hnd1 1) (r := nLF (tuF (gA wM 51))) (na' := na') (wC' := wC') (wM' := m3) ?_ ?_ ht s2
    · rw [a1, Option.bind_some, b1, Option.bind_some, s1, bindG_l, show gF wC' 10 4 = nLF (tuF (gA wM 51)) by rw [← hM.2.1]; exact s2.L.1.1]
    · unfold p_X9_turnSlab_16
      show ((p_X9_passes (b2 true) wM).bind _) = _
      rw [passes_o, Option.bind_some]
      dsimp only
      rw [if_neg (show ¬ eq32 (b2 true) 0 = true by decide +kernel)]
      show ((p_X9_remember (sF wM 50 0 0)).bind _) = _
      rw [d1, Option.bind_some, t1, Option.bind_some, l2, Option.bind_some]
  · rw [if_neg (show ¬ eq32 (gA wM 51 8) 0 = true by rw [eq32_o (by omega)]; exact c), if_pos (show lt32 0 (gA wM 51 8) = true by rw [lt32_o (by omega)]; omega)]
    unfold p_X9_turnSlab_16
    show ∃ z, ((Option.bind _ _).bind fun z1 => ((p_X9_passes (b2 false) wM).bind _).bind _) = some z ∧ _
    rw [passes_o, Option.bind_some]
    exact wex (h := hnd1 1) (f := fun r w => sA w 34 0 (w32 r)) (e := 1) (na' := na) (wC' := wC) rfl rfl rfl (Or.inl rfl) rfl ((h.fr (frm_refl _) (frmM_0 _ _)).mono (Nat.le_succ k))
end WM
/-! fewer rows -/
def rwF (f : Rw) (q : Int) : Rw := upd1 f 1 q
section RWS
variable {f : Rw} {q : Int}
theorem rwF_n {i : Int} (h : i ≠ 1) : rwF f q i = f i := upd1_n f q h
theorem rwF_1 : rwF f q 1 = q := upd1_s f 1 q
theorem rwF_VB (hV : VB f) (hq : 1 ≤ q ∧ q ≤ f 1) : VB (rwF f q) := by
  have h2 := hV.r
  refine VB_of hV (fun i hi => rwF_n (by omega)) (rwF_n (by omega)) (by rw [rwF_1]; omega) (by rw [rwF_n (by omega)]; exact hV.g) (fun c r c0 c1 r0 r1 => ?_)
  rw [show fcF (rwF f q) c r = fcF f c r from rwF_n (by omega)]; exact hV.fc c0 c1 r0 r1
theorem rw_fit (hq : q ≤ f 1) {c r s : Int} (hc : 0 ≤ c) (hr : 0 ≤ r ∧ r < q) : fitF (rwF f q) c r s = fitF f c r s := by
  unfold fitF
  rw [rwF_n (f := f) (q := q) (show (0 : Int) ≠ 1 by decide)]
  have : allb (fun x => !flF (rwF f q) x r) s.toNat c = allb (fun x => !flF f x r) s.toNat c := allb_congr _ _ fun x x0 x1 => by
    show (!flF (rwF f q) x r) = !flF f x r
    unfold flF isCF
    rw [rwF_n (f := f) (q := q) (show (0 : Int) ≠ 1 by decide), rwF_1, show fcF (rwF f q) x r = fcF f x r from rwF_n (by omega), decide_eq_decide.mpr (show (0 ≤ x ∧ x < f 0 ∧ 0 ≤ r ∧ r < q) ↔ (0 ≤ x ∧ x < f 0 ∧ 0 ≤ r ∧ r < f 1) by omega)]
  rw [this]
theorem rw_wn {v : Int} (hv : 0 ≤ v) : wnF (rwF f q) v = wnF f v := rwF_n (by omega)
/-- a place among the upper rows is the same place -/
theorem rw_fp1 (hq : q ≤ f 1) (s : Int) : ∀ (n : Nat) (r c : Int), 0 ≤ r → 0 ≤ c → (fpF (rwF f q) s n r c).1 = true → fpF f s n r c = fpF (rwF f q) s n r c := by
  intro n
  induction n with
  | zero => intro r c _ _ _; rfl
  | succ n ih =>
    intro r c h0 h1 h
    unfold fpF at h ⊢
    rw [rwF_1, rwF_n (f := f) (q := q) (show (0 : Int) ≠ 1 by decide)] at h ⊢
    by_cases c1 : r < q
    · rw [if_pos c1] at h ⊢
      rw [if_pos (show r < f 1 by omega)]
      by_cases c2 : c + s ≤ f 0
      · rw [if_pos c2] at h ⊢
        rw [if_pos c2]
        rw [rw_fit hq h1 ⟨h0, c1⟩] at h ⊢
        by_cases c3 : fitF f c r s = true
        · rw [if_pos c3, if_pos c3]
        · rw [if_neg c3] at h ⊢; rw [if_neg c3]; exact ih r (c + 1) h0 (by omega) h
      · rw [if_neg c2] at h ⊢; rw [if_neg c2]; exact ih (r + 1) 0 (by omega) (by omega) h
    · rw [if_neg c1] at h; exact absurd h (by simp)
theorem rw_fp2 (hq : q ≤ f 1) (s : Int) : ∀ (n : Nat) (r c : Int), 0 ≤ r → 0 ≤ c → (fpF f s n r c).1 = true → (fpF f s n r c).2.1 < q → fpF (rwF f q) s n r c = fpF f s n r c := by
  intro n
  induction n with
  | zero => intro r c _ _ _ _; rfl
  | succ n ih =>
    intro r c h0 h1 h h2
    have hr := fpF_ok (n + 1) r c h0 h1 h
    unfold fpF at h h2 ⊢
    rw [rwF_1, rwF_n (f := f) (q := q) (show (0 : Int) ≠ 1 by decide)]
    by_cases c1 : r < f 1
    · rw [if_pos c1] at h h2 ⊢
      rw [if_pos (show r < q by
        have h3 := hr.1
        have : (fpF f s (n + 1) r c).2.1 < q := by unfold fpF; rw [if_pos c1]; exact h2
        omega)]
      by_cases c2 : c + s ≤ f 0
      · rw [if_pos c2] at h h2 ⊢
        have hrq : r < q := by
          have h3 := hr.1
          have : (fpF f s (n + 1) r c).2.1 < q := by unfold fpF; rw [if_pos c1, if_pos c2]; exact h2
          omega
        rw [if_pos c2, rw_fit hq h1 ⟨h0, hrq⟩]
        by_cases c3 : fitF f c r s = true
        · rw [if_pos c3, if_pos c3]
        · rw [if_neg c3] at h h2 ⊢; rw [if_neg c3]; exact ih r (c + 1) h0 (by omega) h h2
      · rw [if_neg c2] at h h2 ⊢; rw [if_neg c2]; exact ih (r + 1) 0 (by omega) (by omega) h h2
    · rw [if_neg c1] at h; exact absurd h (by simp)
theorem rw_lw1 (hV : VB f) (hq : 1 ≤ q ∧ q ≤ f 1) : ∀ (n : Nat) (v : Int) (st : Ly), 0 ≤ v → v + n ≤ f 10 → 0 ≤ st.2.1 → 0 ≤ st.2.2.1 → (lwF (rwF f q) n v st).1 = true → lwF f n v st = lwF (rwF f q) n v st := by
  intro n
  induction n with
  | zero => intro v st _ _ _ _ _; rfl
  | succ n ih =>
    intro v st h0 h1 h2 h3 h
    unfold lwF at h ⊢
    rw [rw_wn h0] at h ⊢
    have hwn := hV.wn h0 (show v < f 10 by omega)
    by_cases c : (fpF (rwF f q) (wnF f v) FP0 st.2.1 st.2.2.1).1 = true
    · have e := rw_fp1 hq.2 (wnF f v) FP0 st.2.1 st.2.2.1 h2 h3 c
      obtain ⟨a1, a2, a3, a4, a5⟩ := fpF_ok FP0 _ _ h2 h3 c
      rw [if_pos c] at h ⊢
      rw [e, if_pos c]
      exact ih (v + 1) _ (by omega) (by omega) (by show 0 ≤ (fpF (rwF f q) (wnF f v) FP0 st.2.1 st.2.2.1).2.1; omega) (by show 0 ≤ (fpF (rwF f q) (wnF f v) FP0 st.2.1 st.2.2.1).2.2 + wnF f v + 1; omega) h
    · rw [if_neg c] at h; exact absurd h (by simp)
/-- rows never go up -/
theorem lw_up (hV : VB f) : ∀ (n : Nat) (v : Int) (st : Ly), 0 ≤ v → v + n ≤ f 10 → 0 ≤ st.2.1 → 0 ≤ st.2.2.1 → st.2.1 ≤ (lwF f n v st).2.2.1 := by
  intro n
  induction n with
  | zero => intro v st _ _ _ _; exact Int.le_refl _
  | succ n ih =>
    intro v st h0 h1 h2 h3
    have hwn := hV.wn h0 (show v < f 10 by omega)
    unfold lwF
    by_cases c : (fpF f (wnF f v) FP0 st.2.1 st.2.2.1).1 = true
    · obtain ⟨a1, a2, a3, a4, a5⟩ := fpF_ok FP0 _ _ h2 h3 c
      rw [if_pos c]
      have := ih (v + 1) (v + 1, (fpF f (wnF f v) FP0 st.2.1 st.2.2.1).2.1, (fpF f (wnF f v) FP0 st.2.1 st.2.2.1).2.2 + wnF f v + 1, upd1 st.2.2.2.1 v (fpF f (wnF f v) FP0 st.2.1 st.2.2.1).2.1, upd1 st.2.2.2.2 v (fpF f (wnF f v) FP0 st.2.1 st.2.2.1).2.2) (by omega) (by omega) (by show 0 ≤ (fpF f (wnF f v) FP0 st.2.1 st.2.2.1).2.1; omega) (by show 0 ≤ (fpF f (wnF f v) FP0 st.2.1 st.2.2.1).2.2 + wnF f v + 1; omega)
      exact Int.le_trans a1 this
    · rw [if_neg c]; exact Int.le_refl _
theorem rw_lw2 (hV : VB f) (hq : 1 ≤ q ∧ q ≤ f 1) : ∀ (n : Nat) (v : Int) (st : Ly), 0 ≤ v → v + n ≤ f 10 → 0 ≤ st.2.1 → 0 ≤ st.2.2.1 → (lwF f n v st).1 = true → (lwF f n v st).2.2.1 < q → lwF (rwF f q) n v st = lwF f n v st := by
  intro n
  induction n with
  | zero => intro v st _ _ _ _ _ _; rfl
  | succ n ih =>
    intro v st h0 h1 h2 h3 h h4
    have hwn := hV.wn h0 (show v < f 10 by omega)
    unfold lwF at h h4 ⊢
    rw [rw_wn h0]
    by_cases c : (fpF f (wnF f v) FP0 st.2.1 st.2.2.1).1 = true
    · obtain ⟨a1, a2, a3, a4, a5⟩ := fpF_ok FP0 _ _ h2 h3 c
      rw [if_pos c] at h h4 ⊢
      have hu := lw_up hV n (v + 1) (v + 1, (fpF f (wnF f v) FP0 st.2.1 st.2.2.1).2.1, (fpF f (wnF f v) FP0 st.2.1 st.2.2.1).2.2 + wnF f v + 1, upd1 st.2.2.2.1 v (fpF f (wnF f v) FP0 st.2.1 st.2.2.1).2.1, upd1 st.2.2.2.2 v (fpF f (wnF f v) FP0 st.2.1 st.2.2.1).2.2) (by omega) (by omega) (by show 0 ≤ (fpF f (wnF f v) FP0 st.2.1 st.2.2.1).2.1; omega) (by show 0 ≤ (fpF f (wnF f v) FP0 st.2.1 st.2.2.1).2.2 + wnF f v + 1; omega)
      have hlt : (fpF f (wnF f v) FP0 st.2.1 st.2.2.1).2.1 < q := Int.lt_of_le_of_lt hu h4
      rw [rw_fp2 hq.2 (wnF f v) FP0 st.2.1 st.2.2.1 h2 h3 c hlt, if_pos c]
      exact ih (v + 1) _ (by omega) (by omega) (by show 0 ≤ (fpF f (wnF f v) FP0 st.2.1 st.2.2.1).2.1; omega) (by show 0 ≤ (fpF f (wnF f v) FP0 st.2.1 st.2.2.1).2.2 + wnF f v + 1; omega) h h4
    · rw [if_neg c] at h; exact absurd h (by simp)
/-- with rows above the end alone, names move alike -/
theorem rw_may (hq : q ≤ f 1) {R C : Int → Int} {a b d : Int} (ha : 0 ≤ a) (hd : 0 ≤ d) (hR : ∀ i, a ≤ i → i < b → (0 ≤ R i ∧ R i < q) ∧ 0 ≤ C i) : mayF (rwF f q) R C a b d = mayF f R C a b d := by
  unfold mayF
  refine allb_congr _ _ fun i i0 i1 => ?_
  obtain ⟨h1, h2⟩ := hR i i0 (by omega)
  show fitF (rwF f q) (C i + d) (R i) (wnF (rwF f q) i) = fitF f (C i + d) (R i) (wnF f i)
  rw [rw_wn (by omega), rw_fit hq (by omega) h1]
theorem rw_mb (hq : q ≤ f 1) {R C : Int → Int} {a b : Int} (ha : 0 ≤ a) (hR : ∀ i, a ≤ i → i < b → (0 ≤ R i ∧ R i < q) ∧ 0 ≤ C i) : ∀ n : Nat, mbF (rwF f q) R C a b n = mbF f R C a b n := by
  intro n
  induction n with
  | zero => rfl
  | succ n ih =>
    unfold mbF
    rw [rw_may hq ha (by omega) hR, ih]
theorem rw_mr (hq : q ≤ f 1) {R C : Int → Int} {a b : Int} (ha : 0 ≤ a) (hab : a < b) (hR : ∀ i, a ≤ i → i < b → (0 ≤ R i ∧ R i < q) ∧ 0 ≤ C i) : mrF (rwF f q) R C a b = mrF f R C a b := by
  unfold mrF
  funext j
  rw [rw_mb hq ha hR, rwF_n (f := f) (q := q) (show (0 : Int) ≠ 1 by decide), rw_wn (by omega)]
theorem rw_ce (hq : q ≤ f 1) {R : Int → Int} {to : Int} : ∀ (n : Nat) (a x : Int) (C : Int → Int), 0 ≤ a → a < x → x ≤ to → (∀ i, a ≤ i → i < to → (0 ≤ R i ∧ R i < q) ∧ 0 ≤ C i) → ceF (rwF f q) R to n a x C = ceF f R to n a x C := by
  intro n
  induction n with
  | zero => intro a x C _ _ _ _; rfl
  | succ n ih =>
    intro a x C h0 h1 h2 h3
    unfold ceF
    rw [rw_mr hq h0 h1 (fun i i0 i1 => h3 i i0 (by omega))]
    by_cases c : x < to ∧ R x = R a
    · rw [if_pos c, if_pos c]; exact ih a (x + 1) C h0 (by omega) (by omega) h3
    · rw [if_neg c, if_neg c]
      by_cases c2 : x < to
      · rw [if_pos c2, if_pos c2]
        refine ih x (x + 1) _ (by omega) (by omega) (by omega) (fun i i0 i1 => ⟨(h3 i (by omega) i1).1, ?_⟩)
        unfold mrF
        rw [if_neg (by omega)]; exact (h3 i (by omega) i1).2
      · rw [if_neg c2, if_neg c2]
/-- a part that is laid with fewer rows is laid alike with more, and the other way round -/
theorem rw_lp (hV : VB f) (hq : 1 ≤ q ∧ q ≤ f 1) {p : Int} {st : Ly} (h0 : 0 ≤ p) (h1 : p < f 9) (hS : VS f (firF f p) st) (hq2 : ∀ i, 0 ≤ i → i < firF f p → st.2.2.2.1 i < q)
    (h : (lpF (rwF f q) p st).1 = true ∨ ((lpF f p st).1 = true ∧ ∀ i, 0 ≤ i → i < firF f (p + 1) → (lpF f p st).2.2.2.2.1 i < q)) :
    lpF (rwF f q) p st = lpF f p st ∧ (lpF f p st).1 = true ∧ ∀ i, 0 ≤ i → i < firF f (p + 1) → (lpF f p st).2.2.2.2.1 i < q := by
  have hps := hV.ps h0 h1
  have hfn := firF_next hV h0 h1
  have hn : ((psF f p).toNat : Int) = psF f p := Int.toNat_of_nonneg (by omega)
  have e1 : st.1 = firF f p := hS.1
  have ep : psF (rwF f q) p = psF f p := rwF_n (by omega)
  have ek : pkF (rwF f q) p = pkF f p := rwF_n (by omega)
  have eg : rwF f q 2 = f 2 := rwF_n (by omega)
  have hst := firF_step (f := f) h0
  have hw := lwF_ok hV (psF f p).toNat (firF f p) st hfn.1 (by omega) hS
  rw [hn] at hw
  have hrow : ∀ (g : Rw), (lpF g p st).1 = true ↔ (lwF g (psF g p).toNat st.1 st).1 = true := fun g => by
    unfold lpF
    by_cases c : (lwF g (psF g p).toNat st.1 st).1 = true
    · rw [if_pos c]; exact ⟨fun _ => c, fun _ => rfl⟩
    · rw [if_neg c]
  -- the words
  have hwords : (lwF f (psF f p).toNat (firF f p) st).1 = true ∧ (lwF f (psF f p).toNat (firF f p) st).2.2.1 < q ∧ lwF (rwF f q) (psF f p).toNat (firF f p) st = lwF f (psF f p).toNat (firF f p) st := by
    rcases h with h | ⟨h, h4⟩
    · have h3 := (hrow _).mp h
      rw [ep, e1] at h3
      have e := rw_lw1 hV hq (psF f p).toNat (firF f p) st hfn.1 (by omega) hS.2.2.1.1 hS.2.2.2.1.1 h3
      refine ⟨by rw [e]; exact h3, ?_, e.symm⟩
      rw [e]
      have hVq := rwF_VB hV hq
      have : ∀ (n : Nat) (v : Int) (st : Ly), 1 ≤ n → 0 ≤ v → v + n ≤ f 10 → 0 ≤ st.2.1 → 0 ≤ st.2.2.1 → (lwF (rwF f q) n v st).1 = true → (lwF (rwF f q) n v st).2.2.1 < q := by
        intro n
        induction n with
        | zero => intro v st h _ _ _ _ _; exact absurd h (by omega)
        | succ n ih =>
          intro v st _ v0 v1 s0 s1 hok
          have hwn := hV.wn v0 (show v < f 10 by omega)
          unfold lwF at hok ⊢
          rw [rw_wn v0] at hok ⊢
          by_cases c : (fpF (rwF f q) (wnF f v) FP0 st.2.1 st.2.2.1).1 = true
          · obtain ⟨a1, a2, a3, a4, a5⟩ := fpF_ok FP0 _ _ s0 s1 c
            rw [rwF_1] at a2
            rw [if_pos c] at hok ⊢
            by_cases hn1 : n = 0
            · subst hn1; exact a2
            · exact ih (v + 1) _ (by omega) (by omega) (by omega) (by show 0 ≤ (fpF (rwF f q) (wnF f v) FP0 st.2.1 st.2.2.1).2.1; omega) (by show 0 ≤ (fpF (rwF f q) (wnF f v) FP0 st.2.1 st.2.2.1).2.2 + wnF f v + 1; omega) hok
          · rw [if_neg c] at hok; exact absurd hok (by simp)
      exact this (psF f p).toNat (firF f p) st (by omega) hfn.1 (by omega) hS.2.2.1.1 hS.2.2.2.1.1 h3
    · have h3 := (hrow _).mp h
      rw [e1] at h3
      have hlt : (lwF f (psF f p).toNat (firF f p) st).2.2.1 < q := by
        have hR : (lpF f p st).2.2.2.2.1 = (lwF f (psF f p).toNat (firF f p) st).2.2.2.2.1 := by
          unfold lpF; rw [e1, if_pos h3]
        rw [hR] at h4
        have : ∀ (n : Nat) (v : Int) (st : Ly), 1 ≤ n → (lwF f n v st).1 = true → (lwF f n v st).2.2.1 = (lwF f n v st).2.2.2.2.1 (v + n - 1) := by
          intro n
          induction n with
          | zero => intro v st h; exact absurd h (by omega)
          | succ n ih =>
            intro v st _ hok
            unfold lwF at hok ⊢
            by_cases c : (fpF f (wnF f v) FP0 st.2.1 st.2.2.1).1 = true
            · rw [if_pos c] at hok ⊢
              by_cases hn1 : n = 0
              · subst hn1
                show (fpF f (wnF f v) FP0 st.2.1 st.2.2.1).2.1 = upd1 st.2.2.2.1 v (fpF f (wnF f v) FP0 st.2.1 st.2.2.1).2.1 (v + ((0 + 1 : Nat) : Int) - 1)
                rw [show v + ((0 + 1 : Nat) : Int) - 1 = v by omega, upd1_s]
              · rw [ih (v + 1) _ (by omega) hok]
                exact congrArg _ (by omega)
            · rw [if_neg c] at hok; exact absurd hok (by simp)
        rw [this (psF f p).toNat (firF f p) st (by omega) h3]
        exact h4 _ (by omega) (by omega)
      exact ⟨h3, hlt, rw_lw2 hV hq (psF f p).toNat (firF f p) st hfn.1 (by omega) hS.2.2.1.1 hS.2.2.2.1.1 h3 hlt⟩
  obtain ⟨g1, g2, g3⟩ := hwords
  have hVS := hw.1 g1
  have hRq : ∀ i, 0 ≤ i → i < firF f (p + 1) → (lwF f (psF f p).toNat (firF f p) st).2.2.2.2.1 i < q := fun i i0 i1 => by
    have := hVS.2.2.2.2.1 i i0 (by omega)
    omega
  have hRl : (lpF f p st).2.2.2.2.1 = (lwF f (psF f p).toNat (firF f p) st).2.2.2.2.1 := by
    unfold lpF; rw [e1, if_pos g1]
  refine ⟨?_, (hrow f).mpr (by rw [e1]; exact g1), by rw [hRl]; exact hRq⟩
  unfold lpF
  rw [ep, ek, eg, e1, g3, if_pos g1]
  rw [rw_ce hq.2 100 (firF f p) (firF f p + 1) _ hfn.1 (by omega) (by omega) (fun i i0 i1 => by
    obtain ⟨x1, x2, x3, x4⟩ := hVS.2.1.1 i (by omega) i1
    exact ⟨⟨x1, hRq i (by omega) (by omega)⟩, x3⟩)]
  rw [if_pos g1]
end RWS
