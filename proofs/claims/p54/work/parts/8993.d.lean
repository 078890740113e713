/-! ===== sums over cells; all stands ===== -/
theorem sm_addf (a b : Int → Int) : ∀ n : Nat, sm (fun i => a i + b i) n = sm a n + sm b n
  | 0 => rfl
  | n + 1 => by show sm (fun i => a i + b i) n + (a n + b n) = (sm a n + a n) + (sm b n + b n); rw [sm_addf a b n]; omega
theorem sm_zero {g : Int → Int} : ∀ n : Nat, (∀ i : Int, 0 ≤ i → i < n → g i = 0) → sm g n = 0
  | 0, _ => rfl
  | n + 1, h => by show sm g n + g n = 0; rw [sm_zero n (fun i i0 i1 => h i i0 (by omega)), h n (by omega) (by omega)]; rfl
theorem sm_swap (g : Int → Int → Int) (n : Nat) : ∀ m : Nat, sm (fun x => sm (fun v => g x v) n) m = sm (fun v => sm (fun x => g x v) m) n
  | 0 => (sm_zero n (fun _ _ _ => rfl)).symm
  | m + 1 => by
    show sm (fun x => sm (fun v => g x v) n) m + sm (fun v => g m v) n = sm (fun v => sm (fun x => g x v) m + g m v) n
    rw [sm_swap g n m, sm_addf]
theorem sm_one {g : Int → Int} {u : Int} : ∀ n : Nat, 0 ≤ u → u < n → (∀ i : Int, 0 ≤ i → i < n → i ≠ u → g i = 0) → sm g n = g u
  | 0, h0, h1, _ => absurd h1 (by omega)
  | n + 1, h0, h1, h => by
    show sm g n + g n = g u
    by_cases c : u = n
    · rw [sm_zero n (fun i i0 i1 => h i i0 (by omega) (by omega)), c]; omega
    · rw [sm_one n h0 (by omega) (fun i i0 i1 ne => h i i0 (by omega) ne), h n (by omega) (by omega) (fun e => c e.symm)]; omega
theorem sm_itv {a l : Int} (h : 0 ≤ a ∧ 0 ≤ l) : ∀ n : Nat, sm (fun x => if a ≤ x ∧ x < a + l then 1 else 0) n = max 0 (min ((n : Int) - a) l)
  | 0 => by show (0 : Int) = _; omega
  | n + 1 => by
    show sm (fun x => if a ≤ x ∧ x < a + l then 1 else 0) n + (if a ≤ (n : Int) ∧ (n : Int) < a + l then 1 else 0) = _
    rw [sm_itv h n]
    split <;> omega
def covF (f : Rw) (x y v : Int) : Int := if rLF f v = y ∧ cLF f v ≤ x ∧ x < cLF f v + wnF f v then 1 else 0
def letF (f : Rw) (y x : Int) : Int := if 0 < celF f x y then 1 else 0
def flN1 (f : Rw) (y x : Int) : Int := if flF f x y = true then 1 else 0
theorem cov_sum {f : Rw} (hV : VB f) (x y : Int) : sm (covF f x y) (nLF f).toNat = if woF f x y = -1 then 0 else 1 := by
  have hn := nL_rng hV
  rcases woF_rng hV x y with ⟨d1, d2⟩ | ⟨d1, d2, d3, d4, d5⟩
  · rw [if_pos d1]
    exact sm_zero _ fun i i0 i1 => if_neg (d2 i i0 (by omega))
  · rw [if_neg (by omega)]
    have hu : covF f x y (woF f x y) = 1 := if_pos ⟨d3, d4, d5⟩
    refine (sm_one (u := woF f x y) _ d1 (by omega) fun i i0 i1 ne => if_neg fun hc => ?_).trans hu
    have := wo_at hV (v := i) (k := x - cLF f i) ⟨i0, by omega⟩ ⟨by omega, by omega⟩
    rw [show cLF f i + (x - cLF f i) = x by omega, hc.1] at this
    exact ne this.symm
theorem let_cov {f : Rw} (hV : VB f) (x y : Int) : letF f y x = sm (covF f x y) (nLF f).toNat := by
  rw [cov_sum hV]
  have hn := nL_rng hV
  unfold letF celF
  rcases woF_rng hV x y with ⟨d1, d2⟩ | ⟨d1, d2, d3, d4, d5⟩
  · rw [if_pos d1, if_pos d1]
    split <;> rfl
  · have hfl := fit_nofl hV (v := woF f x y) (k := x - cLF f (woF f x y)) ⟨d1, d2⟩ ⟨by omega, by omega⟩
    rw [show cLF f (woF f x y) + (x - cLF f (woF f x y)) = x by omega, d3] at hfl
    rw [hfl, if_neg (show ¬ (false = true) by decide), if_neg (show ¬ woF f x y = -1 by omega), if_neg (show ¬ woF f x y = -1 by omega)]
    have hb := hV.wb (v := woF f x y) (k := x - cLF f (woF f x y)) d1 (by omega) (by omega) (by omega)
    unfold isB at hb
    exact if_pos (show (0 : Int) < _ by omega)
/-- as many cells with a letter as laid letters -/
theorem let_all {f : Rw} (hV : VB f) : sm (fun y => sm (letF f y) (f 0).toNat) (f 1).toNat = laF f (nLF f) := by
  have hn := nL_rng hV
  have hc := hV.c
  have hr := hV.r
  have e1 : sm (fun y => sm (letF f y) (f 0).toNat) (f 1).toNat = sm (fun y => sm (fun v => sm (fun x => covF f x y v) (f 0).toNat) (nLF f).toNat) (f 1).toNat := by
    refine sm_congr _ fun y y0 y1 => ?_
    rw [← sm_swap (fun x v => covF f x y v)]
    exact sm_congr _ fun x x0 x1 => let_cov hV x y
  rw [e1, sm_swap (fun y v => sm (fun x => covF f x y v) (f 0).toNat)]
  unfold laF
  refine sm_congr _ fun v v0 v1 => ?_
  have hrc := rc_rng hV (v := v) ⟨v0, by omega⟩
  refine (sm_one (u := rLF f v) _ hrc.1 (by omega) fun y y0 y1 ne => sm_zero _ fun x x0 x1 => if_neg fun hh => ne hh.1.symm).trans ?_
  have e2 : sm (fun x => covF f x (rLF f v) v) (f 0).toNat = sm (fun x => if cLF f v ≤ x ∧ x < cLF f v + wnF f v then 1 else 0) (f 0).toNat := by
    refine sm_congr _ fun x x0 x1 => ?_
    show (if rLF f v = rLF f v ∧ cLF f v ≤ x ∧ x < cLF f v + wnF f v then (1 : Int) else 0) = _
    by_cases c : cLF f v ≤ x ∧ x < cLF f v + wnF f v
    · rw [if_pos c, if_pos ⟨rfl, c⟩]
    · rw [if_neg c, if_neg (fun q => c q.2)]
  refine Eq.trans e2 ?_
  rw [sm_itv ⟨by omega, by omega⟩]
  omega
theorem sm_cut {g : Int → Int} {m : Nat} : ∀ n : Nat, m ≤ n → (∀ i : Int, (m : Int) ≤ i → i < n → g i = 0) → sm g n = sm g m
  | 0, h, _ => by rw [show m = 0 by omega]
  | n + 1, h, hz => by
    by_cases c : m = n + 1
    · rw [c]
    · show sm g n + g n = sm g m
      rw [sm_cut n (by omega) (fun i i0 i1 => hz i i0 (by omega)), hz n (by omega) (by omega)]; omega
/-- as many cells with a flaw as flaws -/
theorem fl_all {f : Rw} (hV : VB f) (hK : ∀ c r, 0 ≤ c → c < 24 → 0 ≤ r → r < 12 → fcF f c r = 1 → isCF f c r = true) : sm (fun y => sm (flN1 f y) (f 0).toNat) (f 1).toNat = nfF f := by
  have hc := hV.c
  have hr := hV.r
  have hz : ∀ c r, 0 ≤ c → c < 24 → 0 ≤ r → r < 12 → ¬ (c < f 0 ∧ r < f 1) → fcF f c r = 0 := by
    intro c r c0 c1 r0 r1 hn
    rcases hV.fc c0 c1 r0 r1 with e | e
    · exact e
    · have := of_decide_eq_true (hK c r c0 c1 r0 r1 e); exact absurd ⟨this.2.1, this.2.2.2⟩ hn
  have e1 : nfF f = sm (rowN f) 12 := nf_rows f 12
  rw [e1, sm_cut (g := rowN f) (m := (f 1).toNat) 12 (by omega) (fun r r0 r1 => sm_zero 24 fun c c0 c1 => hz c r c0 c1 (by omega) r1 (by omega))]
  refine sm_congr _ fun r r0 r1 => ?_
  unfold rowN
  rw [sm_cut (g := fun c => fcF f c r) (m := (f 0).toNat) 24 (by omega) (fun c c0 c1 => hz c r (by omega) c1 r0 (by omega) (by omega))]
  refine sm_congr _ fun c c0 c1 => ?_
  have hcell : isCF f c r = true := decide_eq_true ⟨c0, by omega, r0, by omega⟩
  show (if flF f c r = true then (1 : Int) else 0) = fcF f c r
  unfold flF
  rw [hcell, Bool.true_and]
  rcases hV.fc (c := c) (r := r) c0 (by omega) r0 (by omega) with e | e <;> rw [e] <;> rfl
def lefF (f : Rw) (n : Int) : Int := if n < f 8 then 0 else cosF f n
theorem lef_sum {f : Rw} (h8 : 0 ≤ f 8) : ∀ n : Nat, sm (lefF f) n = sm (cosF f) n - sm (cosF f) (min (f 8).toNat n)
  | 0 => by rw [Nat.min_zero]; rfl
  | n + 1 => by
    show sm (lefF f) n + lefF f n = sm (cosF f) n + cosF f n - _
    rw [lef_sum h8 n]
    unfold lefF
    by_cases c : (n : Int) < f 8
    · rw [if_pos c, show min (f 8).toNat n = n by omega, show min (f 8).toNat (n + 1) = n + 1 by omega]
      show _ = _ - (sm (cosF f) n + cosF f n)
      omega
    · rw [if_neg c, show min (f 8).toNat n = (f 8).toNat by omega, show min (f 8).toNat (n + 1) = (f 8).toNat by omega]; omega
section ST
variable {k na : Nat} {wC wM : Wd}
theorem st190 (h : RR k na wC wM) {v : Int} (hv : 0 ≤ v ∧ v < nLF (gA wM 51)) (k75 : Int → Int → Int → Int → Int → Int → Int → Wd → Option (Int × Wd)) (x3 : Int) : ∀ (m n : Nat) (j : Int), 0 ≤ j → j + m = wnF (gA wM 51) v → m < n →
    p_L_stands_190 k75 n (nLF (gA wM 51)) (laF (gA wM 51) v + j) x3 (sm (lefF (gA wM 51)) (laF (gA wM 51) v + j).toNat) (sm (deF (gA wM 51)) (laF (gA wM 51) v + j).toNat) ((gA wM 51) 8) v (cLF (gA wM 51) v) (rLF (gA wM 51) v) (sm (strF (gA wM 51) v) j.toNat) (max 0 (min ((gA wM 51) 8 - laF (gA wM 51) v) j)) j wC =
    p_L_stands_339 k75 (nLF (gA wM 51)) (laF (gA wM 51) v + wnF (gA wM 51) v) x3 (sm (lefF (gA wM 51)) (laF (gA wM 51) v + wnF (gA wM 51) v).toNat) (sm (deF (gA wM 51)) (laF (gA wM 51) v + wnF (gA wM 51) v).toNat) ((gA wM 51) 8) v (cLF (gA wM 51) v) (rLF (gA wM 51) v) (sm (strF (gA wM 51) v) (wnF (gA wM 51) v).toNat) (max 0 (min ((gA wM 51) 8 - laF (gA wM 51) v) (wnF (gA wM 51) v))) wC := by
  have hn := nL_rng h.B
  have hw := h.B.w
  have hc := h.B.c
  have hr := h.B.r
  have hrc := rc_rng h.B hv
  have hla := laF_rng h.B hv.1 (show v ≤ (gA wM 51) 10 by omega)
  obtain ⟨vB, v1, v3, v4, v5, v6, v7, v8⟩ := h.V
  have h288 := (lF_ok h.B).2.2.2
  have hle := laF_mono h.B (show v + 1 ≤ nLF (gA wM 51) by omega) hn.2.1
  rw [laF_step hv.1] at hle
  intro m
  induction m with
  | zero =>
    intro n j j0 j1 hmn
    obtain ⟨n', rfl⟩ : ∃ n', n = n' + 1 := ⟨n - 1, by omega⟩
    have hj : j = wnF (gA wM 51) v := by omega
    subst hj
    unfold p_L_stands_190
    rw [y_w1 h (by omega), Option.bind_some]
    simp (disch := omega) only [lt32_o]
    rw [if_neg (by omega)]
  | succ m ih =>
    intro n j j0 j1 hmn
    obtain ⟨n', rfl⟩ : ∃ n', n = n' + 1 := ⟨n - 1, by omega⟩
    have hjw : 0 ≤ j ∧ j < wnF (gA wM 51) v := ⟨j0, by omega⟩
    have hwo := wo_at h.B hv hjw
    have hfl := fit_nofl h.B hv hjw
    have hb := h.B.wb hv.1 (show v < (gA wM 51) 10 by omega) j0 hjw.2
    have hpl := plain_rng (x := wbF (gA wM 51) v j)
    have hwl : wlF (gA wM 51) (laF (gA wM 51) v + j) = v := wl_uniq h.B ⟨hv.1, by omega⟩ (by omega) (by omega)
    have hcos : cosF (gA wM 51) (laF (gA wM 51) v + j) = strF (gA wM 51) v j := by
      unfold cosF; rw [hwl, show laF (gA wM 51) v + j - laF (gA wM 51) v = j by omega]
    have hde : deF (gA wM 51) (laF (gA wM 51) v + j) = strF (gA wM 51) v j - plainF (wbF (gA wM 51) v j) := by
      unfold deF strF
      rw [hwl, show laF (gA wM 51) v + j - laF (gA wM 51) v = j by omega]
      split <;> omega
    have hstr := str_rng (f := (gA wM 51)) (v := v) (k := j)
    have hs1 := sm_step (g := strF (gA wM 51) v) j0
    have hs2 := sm_step (g := lefF (gA wM 51)) (x := laF (gA wM 51) v + j) (by omega)
    have hs3 := sm_step (g := deF (gA wM 51)) (x := laF (gA wM 51) v + j) (by omega)
    have hb' := hb
    unfold isB at hb'
    have hcel : celF (gA wM 51) (cLF (gA wM 51) v + j) (rLF (gA wM 51) v) = wbF (gA wM 51) v j := by
      unfold celF
      rw [hfl, hwo, if_neg (by decide), if_neg (by omega), show cLF (gA wM 51) v + j - cLF (gA wM 51) v = j by omega]
    unfold p_L_stands_190
    rw [y_w1 h (by omega), Option.bind_some]
    simp (disch := omega) only [lt32_o]
    rw [if_pos hjw.2, y_let h (by omega) hjw, Option.bind_some]
    dsimp only
    rw [y_cell h (by omega) (by omega), Option.bind_some, hcel]
    dsimp only
    rw [if_pos (eq_self _), y_wat h (by omega) (by omega), Option.bind_some, hwo]
    dsimp only
    rw [if_pos (eq_self _), y_touch h (by omega) (by omega), Option.bind_some]
    simp only [eq32_b2]
    rw [y_plain hb, Option.bind_some]
    have key : p_L_stands_275 k75 (p_L_stands_190 k75 n') (nLF (gA wM 51)) (laF (gA wM 51) v + j) x3 (sm (lefF (gA wM 51)) (laF (gA wM 51) v + j).toNat) (sm (deF (gA wM 51)) (laF (gA wM 51) v + j).toNat) ((gA wM 51) 8) v (cLF (gA wM 51) v) (rLF (gA wM 51) v) (sm (strF (gA wM 51) v) j.toNat) (max 0 (min ((gA wM 51) 8 - laF (gA wM 51) v) j)) j (wbF (gA wM 51) v j) (strF (gA wM 51) v j) wC = p_L_stands_190 k75 n' (nLF (gA wM 51)) (laF (gA wM 51) v + (j + 1)) x3 (sm (lefF (gA wM 51)) (laF (gA wM 51) v + (j + 1)).toNat) (sm (deF (gA wM 51)) (laF (gA wM 51) v + (j + 1)).toNat) ((gA wM 51) 8) v (cLF (gA wM 51) v) (rLF (gA wM 51) v) (sm (strF (gA wM 51) v) (j + 1).toNat) (max 0 (min ((gA wM 51) 8 - laF (gA wM 51) v) (j + 1))) (j + 1) wC := by
      rw [show laF (gA wM 51) v + (j + 1) = laF (gA wM 51) v + j + 1 by omega, hs1, hs2, hs3, hde]
      unfold p_L_stands_275 p_L_stands_310 p_L_stands_327
      rw [y_plain hb, Option.bind_some]
      simp (disch := omega) only [lt32_o]
      unfold lefF
      by_cases c : laF (gA wM 51) v + j < (gA wM 51) 8
      · rw [if_pos c, if_pos c, if_pos c, Int.add_zero, show max 0 (min ((gA wM 51) 8 - laF (gA wM 51) v) j) + 1 = max 0 (min ((gA wM 51) 8 - laF (gA wM 51) v) (j + 1)) by omega]
      · rw [if_neg c, if_neg c, if_neg c, Int.add_zero, hcos, show max 0 (min ((gA wM 51) 8 - laF (gA wM 51) v) j) = max 0 (min ((gA wM 51) 8 - laF (gA wM 51) v) (j + 1)) by omega]
    rw [← ih n' (j + 1) (by omega) (by omega) (by omega), ← key]
    unfold strF
    cases tchF (gA wM 51) (cLF (gA wM 51) v + j) (rLF (gA wM 51) v) with
    | false => rfl
    | true => rfl
/-- from one laid word to the next -/
theorem st339 (h : RR k na wC wM) {v : Int} (hv : 0 ≤ v ∧ v < nLF (gA wM 51)) (k75 : Int → Int → Int → Int → Int → Int → Int → Wd → Option (Int × Wd)) (x2 x3 x4 x5 : Int) :
    p_L_stands_339 k75 (nLF (gA wM 51)) x2 x3 x4 x5 ((gA wM 51) 8) v (cLF (gA wM 51) v) (rLF (gA wM 51) v) (sm (strF (gA wM 51) v) (wnF (gA wM 51) v).toNat) (max 0 (min ((gA wM 51) 8 - laF (gA wM 51) v) (wnF (gA wM 51) v))) wC = k75 (nLF (gA wM 51)) x2 (x3 + sm (strF (gA wM 51) v) (wnF (gA wM 51) v).toNat) x4 x5 ((gA wM 51) 8) (v + 1) wC := by
  have hn := nL_rng h.B
  have hrc := rc_rng h.B hv
  have hg := h.B.g
  obtain ⟨g1, g2⟩ := lF_g h.B
  have h468 : ∀ (same before : Int), (same = 1 ∧ True) ∨ (same = 0 ∧ (0 < v → before = rLF (gA wM 51) (v - 1) ∧ rLF (gA wM 51) (v - 1) + ((gA wM 51) 2 + 1) ≤ rLF (gA wM 51) v ∧ 0 ≤ rLF (gA wM 51) (v - 1) ∧ rLF (gA wM 51) (v - 1) < 12)) → p_L_stands_468 k75 (nLF (gA wM 51)) x2 (x3 + sm (strF (gA wM 51) v) (wnF (gA wM 51) v).toNat) x4 x5 ((gA wM 51) 8) v (rLF (gA wM 51) v) same before wC = k75 (nLF (gA wM 51)) x2 (x3 + sm (strF (gA wM 51) v) (wnF (gA wM 51) v).toNat) x4 x5 ((gA wM 51) 8) (v + 1) wC := by
    intro same before hs
    unfold p_L_stands_468 p_L_stands_495
    simp (disch := omega) only [lt32_o]
    by_cases c : 0 < v
    · rw [if_pos c]
      rcases hs with ⟨rfl, _⟩ | ⟨rfl, hs⟩
      · rw [if_neg (by decide +kernel)]
      · obtain ⟨rfl, q1, q2, q3⟩ := hs c
        rw [if_pos (by decide +kernel), y_p3 h, Option.bind_some]
        dsimp only
        rw [if_neg (by rw [lt32_o (by omega)]; omega)]
    · rw [if_neg c]
  unfold p_L_stands_339
  rw [y_w4 h (by omega), Option.bind_some, if_pos hv.2]
  dsimp only
  rw [if_pos (eq_self _), y_w5 h (by omega), Option.bind_some]
  dsimp only
  rw [if_pos (eq_self _)]
  simp (disch := omega) only [lt32_o]
  by_cases c : 0 < v
  · have hrc1 := rc_rng h.B (v := v - 1) ⟨by omega, by omega⟩
    have hmono := ((lF_ok h.B).2.2.1).2 (v - 1) v (by omega) (by omega) hv.2
    obtain ⟨p1, e1, p10, p11, p12, p13⟩ := y_w0 h (v := v - 1) ⟨by omega, by omega⟩
    obtain ⟨p2, e2, p20, p21, p22, p23⟩ := y_w0 h (v := v) ⟨by omega, by omega⟩
    have hp10 := h.B.p
    rw [if_pos c, e1, Option.bind_some]
    dsimp only
    rw [e2, Option.bind_some]
    simp (disch := omega) only [eq32_o]
    by_cases d : p1 = p2
    · rw [if_pos d]
      unfold p_L_stands_399
      simp (disch := omega) only [lt32_o]
      rw [if_pos c, y_w2 h (by omega), Option.bind_some, if_pos (show v - 1 < nLF (gA wM 51) by omega)]
      unfold p_L_stands_419
      rw [if_neg (by decide +kernel)]
      simp (disch := omega) only [lt32_o, eq32_o]
      rw [if_neg (by omega)]
      by_cases e : rLF (gA wM 51) v = rLF (gA wM 51) (v - 1)
      · have hg1 := g1 (v - 1) v (by omega) (by omega) hv.2 e.symm
        rw [if_pos e, y_w3 h (by omega), Option.bind_some, if_pos (show v - 1 < nLF (gA wM 51) by omega)]
        dsimp only
        rw [y_w1 h (by omega), Option.bind_some]
        simp (disch := omega) only [lt32_o]
        rw [if_neg (by omega)]
        exact h468 1 _ (Or.inl ⟨rfl, trivial⟩)
      · rw [if_neg e]
        exact h468 1 _ (Or.inl ⟨rfl, trivial⟩)
    · rw [if_neg d]
      have hv2 : firF (gA wM 51) p2 = v := by
        rcases Int.lt_or_le p1 p2 with q | q
        · have := firF_mono h.B (show p1 + 1 ≤ p2 by omega) (by omega); omega
        · have := firF_mono h.B (show p2 + 1 ≤ p1 by omega) (by omega); omega
      have hg2 := g2 p2 p20 p21 (by omega) (by omega)
      rw [hv2] at hg2
      unfold p_L_stands_398 p_L_stands_399
      simp (disch := omega) only [lt32_o]
      rw [if_pos c, y_w2 h (by omega), Option.bind_some, if_pos (show v - 1 < nLF (gA wM 51) by omega)]
      unfold p_L_stands_419
      rw [if_pos (by decide +kernel)]
      exact h468 0 _ (Or.inr ⟨rfl, fun _ => ⟨rfl, hg2, hrc1.1, hrc1.2.1⟩⟩)
  · rw [if_neg c]
    unfold p_L_stands_398 p_L_stands_399
    simp (disch := omega) only [lt32_o]
    rw [if_neg c]
    unfold p_L_stands_419
    rw [if_pos (by decide +kernel)]
    exact h468 0 _ (Or.inr ⟨rfl, fun q => absurd q c⟩)
/-- all words -/
theorem st75 (h : RR k na wC wM) : ∀ (m n : Nat) (v : Int), 0 ≤ v → v + m = (gA wM 51) 10 → m < n →
    p_L_stands_75 n (nLF (gA wM 51)) (laF (gA wM 51) (min v (nLF (gA wM 51)))) (sm (cosF (gA wM 51)) (laF (gA wM 51) (min v (nLF (gA wM 51)))).toNat) (sm (lefF (gA wM 51)) (laF (gA wM 51) (min v (nLF (gA wM 51)))).toNat) (sm (deF (gA wM 51)) (laF (gA wM 51) (min v (nLF (gA wM 51)))).toNat) ((gA wM 51) 8) v wC =
    p_L_stands_501 (laF (gA wM 51) (nLF (gA wM 51))) (sm (cosF (gA wM 51)) (laF (gA wM 51) (nLF (gA wM 51))).toNat) (sm (lefF (gA wM 51)) (laF (gA wM 51) (nLF (gA wM 51))).toNat) (sm (deF (gA wM 51)) (laF (gA wM 51) (nLF (gA wM 51))).toNat) ((gA wM 51) 8) wC := by
  have hn := nL_rng h.B
  have hw := h.B.w
  obtain ⟨vB, v1, v3, v4, v5, v6, v7, v8⟩ := h.V
  intro m
  induction m with
  | zero =>
    intro n v v0 v9 hmn
    obtain ⟨n', rfl⟩ : ∃ n', n = n' + 1 := ⟨n - 1, by omega⟩
    unfold p_L_stands_75
    rw [y_p5 h, Option.bind_some]
    simp (disch := omega) only [lt32_o]
    rw [if_neg (by omega), show min v (nLF (gA wM 51)) = nLF (gA wM 51) by omega]
  | succ m ih =>
    intro n v v0 v9 hmn
    obtain ⟨n', rfl⟩ : ∃ n', n = n' + 1 := ⟨n - 1, by omega⟩
    have hvv : 0 ≤ v ∧ v < (gA wM 51) 10 := ⟨v0, by omega⟩
    unfold p_L_stands_75
    rw [y_p5 h, Option.bind_some]
    simp (disch := omega) only [lt32_o]
    rw [if_pos hvv.2, y_w3 h hvv, Option.bind_some]
    dsimp only
    rw [y_w2 h hvv, Option.bind_some]
    dsimp only
    by_cases c : v < nLF (gA wM 51)
    · have hrc := rc_rng h.B ⟨v0, c⟩
      have hwn := h.B.wn v0 hvv.2
      have hla := laF_rng h.B v0 (show v ≤ (gA wM 51) 10 by omega)
      have h288 := (lF_ok h.B).2.2.2
      have hle := laF_mono h.B (show v + 1 ≤ nLF (gA wM 51) by omega) hn.2.1
      rw [laF_step v0] at hle
      have hss := strokesW_sum h.B ⟨v0, c⟩ (wnF (gA wM 51) v).toNat (by omega)
      rw [Int.toNat_of_nonneg (show 0 ≤ wnF (gA wM 51) v by omega)] at hss
      rw [if_pos c, if_pos c, if_neg (by rw [lt32_o (by omega)]; omega)]
      unfold p_L_stands_113
      rw [if_pos (by rw [lt32_o (by omega)]; exact c)]
      unfold p_L_stands_124
      rw [if_pos (by decide +kernel), if_neg (by rw [lt32_o (by omega)]; omega)]
      unfold p_L_stands_137
      rw [if_pos (by rw [lt32_o (by omega)]; exact c)]
      unfold p_L_stands_148
      rw [if_pos (by decide +kernel), if_pos (by rw [lt32_o (by omega)]; exact c), show min v (nLF (gA wM 51)) = v by omega]
      have h190 := st190 h ⟨v0, c⟩ (p_L_stands_75 n') (sm (cosF (gA wM 51)) (laF (gA wM 51) v).toNat) (wnF (gA wM 51) v).toNat FU 0 (Int.le_refl 0) (by omega) (by have : FU = 1000000 := rfl; omega)
      rw [Int.add_zero, show max 0 (min ((gA wM 51) 8 - laF (gA wM 51) v) 0) = 0 by omega, show sm (strF (gA wM 51) v) (0 : Int).toNat = 0 from rfl] at h190
      rw [h190, st339 h ⟨v0, c⟩, ← hss, ← laF_step v0]
      have h2 := ih n' (v + 1) (by omega) (by omega) (by omega)
      rw [show min (v + 1) (nLF (gA wM 51)) = v + 1 by omega] at h2
      exact h2
    · have hge := laF_mono h.B (show nLF (gA wM 51) ≤ v by omega) (by omega)
      have hwn := h.B.wn v0 hvv.2
      rw [if_neg c, if_neg c, if_pos (by decide +kernel)]
      unfold p_L_stands_113
      rw [if_neg (by rw [lt32_o (by omega)]; exact c)]
      unfold p_L_stands_124
      rw [if_pos (by decide +kernel), if_pos (by decide +kernel)]
      unfold p_L_stands_137
      rw [if_neg (by rw [lt32_o (by omega)]; exact c)]
      unfold p_L_stands_148
      rw [if_pos (by decide +kernel), if_neg (by rw [lt32_o (by omega)]; exact c), y_w4 h hvv, Option.bind_some, if_neg c]
      dsimp only
      rw [if_pos (by decide +kernel), y_w5 h hvv, Option.bind_some]
      dsimp only
      rw [show max 0 (min ((gA wM 51) 8 - laF (gA wM 51) v) (wnF (gA wM 51) v)) = 0 by omega, if_pos (by decide +kernel)]
      unfold p_L_stands_495
      have h2 := ih n' (v + 1) (by omega) (by omega) (by omega)
      rw [show min (v + 1) (nLF (gA wM 51)) = nLF (gA wM 51) by omega] at h2
      rw [show min v (nLF (gA wM 51)) = nLF (gA wM 51) by omega]
      exact h2
theorem cel_0 {f : Rw} (hV : VB f) (x y : Int) : eq32 (celF f x y) 0 = decide (flF f x y = false ∧ woF f x y = -1) := by
  unfold celF
  by_cases c1 : flF f x y = true
  · rw [if_pos c1, c1, decide_eq_false (fun q => absurd q.1 (by decide))]; decide +kernel
  · rw [if_neg c1, bfF c1]
    by_cases c2 : woF f x y = -1
    · rw [if_pos c2, decide_eq_true ⟨rfl, c2⟩]; decide +kernel
    · rw [if_neg c2, decide_eq_false (fun q => c2 q.2)]
      rcases woF_rng hV x y with d | ⟨d1, d2, d3, d4, d5⟩
      · exact absurd d.1 c2
      · have hn := nL_rng hV
        have hb := hV.wb (v := woF f x y) (k := x - cLF f (woF f x y)) d1 (by omega) (by omega) (by omega)
        unfold isB at hb
        exact eqf (by omega) (by omega)
theorem cel_rng {f : Rw} (hV : VB f) (x y : Int) : -1 ≤ celF f x y ∧ celF f x y ≤ 122 := by
  unfold celF
  split
  · omega
  · split
    · omega
    · rename_i c2
      rcases woF_rng hV x y with d | ⟨d1, d2, d3, d4, d5⟩
      · exact absurd d.1 c2
      · have hn := nL_rng hV
        have hb := hV.wb (v := woF f x y) (k := x - cLF f (woF f x y)) d1 (by omega) (by omega) (by omega)
        unfold isB at hb
        omega
/-- the cells of a row -/
theorem st526 (h : RR k na wC wM) {y : Int} (hy : 0 ≤ y ∧ y < (gA wM 51) 1) (k510 : Int → Int → Int → Int → Int → Int → Int → Int → Wd → Option (Int × Wd)) (x2 x3 x4 x5 x6 A B : Int) : ∀ (m n : Nat) (x : Int), 0 ≤ x → x + m = (gA wM 51) 0 → m < n →
    p_L_stands_526 k510 n x2 x3 x4 x5 x6 (A + sm (letF (gA wM 51) y) x.toNat) (B + sm (flN1 (gA wM 51) y) x.toNat) y (sm (freF (gA wM 51) y) x.toNat) x wC = k510 x2 x3 x4 x5 x6 (A + sm (letF (gA wM 51) y) ((gA wM 51) 0).toNat) (B + sm (flN1 (gA wM 51) y) ((gA wM 51) 0).toNat) (y + 1) wC := by
  have hc := h.B.c
  have hr := h.B.r
  intro m
  induction m with
  | zero =>
    intro n x x0 x1 hmn
    obtain ⟨n', rfl⟩ : ∃ n', n = n' + 1 := ⟨n - 1, by omega⟩
    have hx : x = (gA wM 51) 0 := by omega
    unfold p_L_stands_526
    rw [y_p0 h, Option.bind_some]
    simp (disch := omega) only [lt32_o]
    rw [if_neg (by omega)]
    unfold p_L_stands_606
    rw [y_free h hy, Option.bind_some, hx]
    dsimp only
    rw [if_pos (eq_self _)]
  | succ m ih =>
    intro n x x0 x1 hmn
    obtain ⟨n', rfl⟩ : ∃ n', n = n' + 1 := ⟨n - 1, by omega⟩
    have hxx : 0 ≤ x ∧ x < (gA wM 51) 0 := ⟨x0, by omega⟩
    have hs1 := sm_step (g := letF (gA wM 51) y) x0
    have hs2 := sm_step (g := flN1 (gA wM 51) y) x0
    have hs3 := sm_step (g := freF (gA wM 51) y) x0
    have hcr := cel_rng h.B x y
    have e := ih n' (x + 1) (by omega) (by omega) (by omega)
    rw [hs1, hs2, hs3] at e
    have e1 : letF (gA wM 51) y x = if 0 < celF (gA wM 51) x y then 1 else 0 := rfl
    have e2 : flN1 (gA wM 51) y x = if flF (gA wM 51) x y = true then 1 else 0 := rfl
    have e3 : freF (gA wM 51) y x = if flF (gA wM 51) x y = false ∧ woF (gA wM 51) x y = -1 then 1 else 0 := rfl
    have h576 : ∀ A' B' : Int, p_L_stands_576 k510 (p_L_stands_526 k510 n') x2 x3 x4 x5 x6 A' y (sm (freF (gA wM 51) y) x.toNat) x (if flF (gA wM 51) x y = true then 1 else 0) B' wC = p_L_stands_526 k510 n' x2 x3 x4 x5 x6 A' (B' + flN1 (gA wM 51) y x) y (sm (freF (gA wM 51) y) x.toNat + freF (gA wM 51) y x) (x + 1) wC := by
      intro A' B'
      unfold p_L_stands_576
      rw [y_cell h hxx hy, Option.bind_some]
      dsimp only
      rw [cel_0 h.B, e2, e3]
      by_cases q : flF (gA wM 51) x y = false ∧ woF (gA wM 51) x y = -1
      · rw [decide_eq_true q, if_pos rfl, if_pos q]; rfl
      · rw [decide_eq_false q, if_neg (by decide), if_neg q]; rfl
    have h554 : ∀ s0 : Int, s0 = letF (gA wM 51) y x → p_L_stands_554 k510 (p_L_stands_526 k510 n') x2 x3 x4 x5 x6 (B + sm (flN1 (gA wM 51) y) x.toNat) y (sm (freF (gA wM 51) y) x.toNat) x s0 (A + sm (letF (gA wM 51) y) x.toNat) wC = p_L_stands_526 k510 n' x2 x3 x4 x5 x6 (A + (sm (letF (gA wM 51) y) x.toNat + letF (gA wM 51) y x)) (B + (sm (flN1 (gA wM 51) y) x.toNat + flN1 (gA wM 51) y x)) y (sm (freF (gA wM 51) y) x.toNat + freF (gA wM 51) y x) (x + 1) wC := by
      rintro s0 rfl
      unfold p_L_stands_554
      rw [y_cell h hxx hy, Option.bind_some]
      dsimp only
      rw [cel_fl h.B, ← Int.add_assoc, ← Int.add_assoc, ← h576]
      cases flF (gA wM 51) x y <;> rfl
    unfold p_L_stands_526
    rw [y_p0 h, Option.bind_some]
    simp (disch := omega) only [lt32_o]
    rw [if_pos hxx.2, y_cell h hxx hy, Option.bind_some]
    dsimp only
    rw [← e]
    by_cases q : 0 < celF (gA wM 51) x y
    · rw [if_pos (by rw [lt32_o (by omega)]; exact q)]
      exact h554 1 (by rw [e1, if_pos q])
    · rw [if_neg (by rw [lt32_o (by omega)]; exact q)]
      exact h554 0 (by rw [e1, if_neg q])
/-- all rows -/
theorem st510 (h : RR k na wC wM) (x2 x3 x4 x5 x6 : Int) : ∀ (m n : Nat) (y : Int), 0 ≤ y → y + m = (gA wM 51) 1 → m < n →
    p_L_stands_510 n x2 x3 x4 x5 x6 (sm (fun y => sm (letF (gA wM 51) y) ((gA wM 51) 0).toNat) y.toNat) (sm (fun y => sm (flN1 (gA wM 51) y) ((gA wM 51) 0).toNat) y.toNat) y wC = p_L_stands_625 x2 x3 x4 x5 x6 (laF (gA wM 51) (nLF (gA wM 51))) (nfF (gA wM 51)) wC := by
  have hc := h.B.c
  have hr := h.B.r
  intro m
  induction m with
  | zero =>
    intro n y y0 y1 hmn
    obtain ⟨n', rfl⟩ : ∃ n', n = n' + 1 := ⟨n - 1, by omega⟩
    have hy : y = (gA wM 51) 1 := by omega
    unfold p_L_stands_510
    rw [y_p1 h, Option.bind_some]
    simp (disch := omega) only [lt32_o]
    rw [if_neg (by omega), hy, let_all h.B, fl_all h.B h.S.2.2.2.2.2.2]
  | succ m ih =>
    intro n y y0 y1 hmn
    obtain ⟨n', rfl⟩ : ∃ n', n = n' + 1 := ⟨n - 1, by omega⟩
    have hyy : 0 ≤ y ∧ y < (gA wM 51) 1 := ⟨y0, by omega⟩
    have e := ih n' (y + 1) (by omega) (by omega) (by omega)
    rw [sm_step (g := fun y => sm (letF (gA wM 51) y) ((gA wM 51) 0).toNat) y0, sm_step (g := fun y => sm (flN1 (gA wM 51) y) ((gA wM 51) 0).toNat) y0] at e
    have h5 := st526 h hyy (p_L_stands_510 n') x2 x3 x4 x5 x6 (sm (fun y => sm (letF (gA wM 51) y) ((gA wM 51) 0).toNat) y.toNat) (sm (fun y => sm (flN1 (gA wM 51) y) ((gA wM 51) 0).toNat) y.toNat) ((gA wM 51) 0).toNat FU 0 (Int.le_refl 0) (by omega) (by have : FU = 1000000 := rfl; omega)
    rw [show sm (letF (gA wM 51) y) (0 : Int).toNat = 0 from rfl, show sm (flN1 (gA wM 51) y) (0 : Int).toNat = 0 from rfl, show sm (freF (gA wM 51) y) (0 : Int).toNat = 0 from rfl, Int.add_zero, Int.add_zero] at h5
    unfold p_L_stands_510
    rw [y_p1 h, Option.bind_some]
    simp (disch := omega) only [lt32_o]
    rw [if_pos hyy.2, h5]
    exact e
/-- all stands -/
theorem stands_o (h : RR k na wC wM) : p_L_stands wC = some (1, wC) := by
  have hn := nL_rng h.B
  have hw := h.B.w
  have hr := h.B.r
  obtain ⟨vB, v1, v3, v4, v5, v6, v7, v8⟩ := h.V
  have h288 := (lF_ok h.B).2.2.2
  have hcs := cs_rng (gA wM 51) (laF (gA wM 51) (nLF (gA wM 51))).toNat
  have h716 : ∀ v : UInt32, fcm v v = 0 → p_L_stands_716 v v wC = some (1, wC) := by
    intro v hv
    unfold p_L_stands_716
    rw [hv, if_pos (eq_self _), y_p9 h, Option.bind_some]
    dsimp only
    rw [if_neg (by rw [lt32_o (by omega)]; omega), y_p9 h, Option.bind_some]
    dsimp only
    rw [y_p10 h, Option.bind_some]
    dsimp only
    rw [if_neg (by rw [lt32_o (by omega)]; omega)]
  have h694 : ∀ v : UInt64, dcm v v = 0 → p_L_stands_694 (laF (gA wM 51) (nLF (gA wM 51))) ((gA wM 51) 8) v v wC = some (1, wC) := by
    intro v hv
    unfold p_L_stands_694
    rw [hv, if_pos (eq_self _)]
    unfold p_X8_carvedShare
    rw [h.T.1, show gF wC 100 11 = (gA wM 51) 8 from h.S.1.2.2.2.2.2]
    simp (disch := omega) only [eq32_o]
    by_cases c : laF (gA wM 51) (nLF (gA wM 51)) = 0
    · rw [if_pos c, Option.bind_some]
      dsimp only
      rw [if_pos c]
      exact h716 _ f1_self
    · obtain ⟨v, u, hv, hu⟩ := fdv_some (a := (gA wM 51) 8) (b := laF (gA wM 51) (nLF (gA wM 51))) ⟨v8.1, by omega⟩ ⟨by omega, by omega⟩
      rw [if_neg c, hv, Option.bind_some, Option.bind_some]
      dsimp only
      rw [if_neg c, Option.bind_some]
      exact h716 _ (fdv_self hv)
  have h625 : p_L_stands_625 (laF (gA wM 51) (nLF (gA wM 51))) (sm (cosF (gA wM 51)) (laF (gA wM 51) (nLF (gA wM 51))).toNat) (sm (lefF (gA wM 51)) (laF (gA wM 51) (nLF (gA wM 51))).toNat) (sm (deF (gA wM 51)) (laF (gA wM 51) (nLF (gA wM 51))).toNat) ((gA wM 51) 8) (laF (gA wM 51) (nLF (gA wM 51))) (nfF (gA wM 51)) wC = some (1, wC) := by
    unfold p_L_stands_625
    rw [if_pos (eq_self _), y_p7 h, Option.bind_some]
    dsimp only
    rw [if_pos (eq_self _), y_p2 h, Option.bind_some]
    dsimp only
    rw [if_pos (eq_self _), if_neg (by rw [lt32_o (by omega)]; omega), y_left h, Option.bind_some]
    dsimp only
    rw [lef_sum v8.1, show min ((gA wM 51) 8).toNat (laF (gA wM 51) (nLF (gA wM 51))).toNat = ((gA wM 51) 8).toNat by omega, if_pos (eq_self _), y_dear h, Option.bind_some]
    dsimp only
    rw [if_pos (eq_self _)]
    unfold p_X8_meanStrokes
    rw [h.T.1, costsOf_o h ⟨Int.le_refl _, by omega, Int.le_refl _⟩, Option.bind_some, show sm (cosF (gA wM 51)) (0 : Int).toNat = 0 from rfl, Int.sub_zero]
    dsimp only
    rw [h.T.1]
    simp (disch := omega) only [eq32_o]
    by_cases c : laF (gA wM 51) (nLF (gA wM 51)) = 0
    · rw [if_pos c, Option.bind_some]
      dsimp only
      rw [if_pos c]
      exact h694 _ d0_self
    · obtain ⟨v, hv⟩ := ddv_some (a := sm (cosF (gA wM 51)) (laF (gA wM 51) (nLF (gA wM 51))).toNat) (b := laF (gA wM 51) (nLF (gA wM 51))) ⟨by omega, by omega⟩ ⟨by omega, by omega⟩
      rw [if_neg c, hv, Option.bind_some, Option.bind_some]
      dsimp only
      rw [if_neg c, Option.bind_some]
      exact h694 _ (ddv_self hv)
  have hend : p_L_stands_72 (nLF (gA wM 51)) 0 0 0 0 ((gA wM 51) 8) wC = some (1, wC) := by
    unfold p_L_stands_72
    have h75 := st75 h ((gA wM 51) 10).toNat FU 0 (Int.le_refl 0) (by omega) (by have : FU = 1000000 := rfl; omega)
    rw [show min 0 (nLF (gA wM 51)) = 0 by omega, laF_0, show sm (cosF (gA wM 51)) (0 : Int).toNat = 0 from rfl, show sm (lefF (gA wM 51)) (0 : Int).toNat = 0 from rfl, show sm (deF (gA wM 51)) (0 : Int).toNat = 0 from rfl] at h75
    rw [h75]
    unfold p_L_stands_501
    have h51 := st510 h (laF (gA wM 51) (nLF (gA wM 51))) (sm (cosF (gA wM 51)) (laF (gA wM 51) (nLF (gA wM 51))).toNat) (sm (lefF (gA wM 51)) (laF (gA wM 51) (nLF (gA wM 51))).toNat) (sm (deF (gA wM 51)) (laF (gA wM 51) (nLF (gA wM 51))).toNat) ((gA wM 51) 8) ((gA wM 51) 1).toNat FU 0 (Int.le_refl 0) (by omega) (by have : FU = 1000000 := rfl; omega)
    exact h51.trans h625
  unfold p_L_stands
  rw [y_p6 h, Option.bind_some]
  dsimp only
  rw [y_p8 h, Option.bind_some]
  dsimp only
  rw [y_first h, Option.bind_some]
  dsimp only
  have h38 : ∀ s0 s1 : Int, s0 = s1 → p_L_stands_38 (nLF (gA wM 51)) 0 0 0 0 ((gA wM 51) 8) s0 wC = if eq32 (nLF (gA wM 51)) ((gA wM 51) 10) = true then p_L_stands_52 (nLF (gA wM 51)) 0 0 0 0 ((gA wM 51) 8) 1 s1 wC else p_L_stands_52 (nLF (gA wM 51)) 0 0 0 0 ((gA wM 51) 8) 0 s1 wC := by
    rintro s0 s1 rfl
    unfold p_L_stands_38
    rw [y_p5 h, Option.bind_some]
  have h52 : ∀ s : Int, p_L_stands_52 (nLF (gA wM 51)) 0 0 0 0 ((gA wM 51) 8) s s wC = some (1, wC) := by
    intro s
    unfold p_L_stands_52
    rw [if_pos (eq_self _), y_first h, Option.bind_some]
    dsimp only
    rw [y_first h, Option.bind_some]
    dsimp only
    by_cases c : nLF (gA wM 51) < (gA wM 51) 10
    · rw [if_pos c, if_neg (by rw [lt32_o (by omega)]; omega), if_pos (eq_self _)]
      exact hend
    · rw [if_neg c, if_pos (by decide +kernel)]
      exact hend
  by_cases c : nLF (gA wM 51) < (gA wM 51) 10
  · rw [if_pos c, if_neg (by rw [eq32_o (by omega)]; omega), h38 0 0 rfl, if_neg (by rw [eq32_o (by omega)]; omega)]
    exact h52 0
  · rw [if_neg c, if_pos (by decide +kernel), h38 1 1 rfl, if_pos (by rw [eq32_o (by omega)]; omega)]
    exact h52 1
end ST
