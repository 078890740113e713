/-! ===== rows cut ===== -/
def cuV (f : Rw) (n : Int) (v : Bool) (j : Int) : Int := if v = true then (if (j - 11) / 24 + n < f 1 then f (j + 24 * n) else 0) else (if (j - 11) / 24 < f 1 - n then f j else 0)
def cuP (f : Rw) (n : Int) (v : Bool) (P : Int) : Rw := fun j => if (11 ≤ j ∧ j < P) ∧ (j - 11) % 24 < f 0 ∧ (j - 11) / 24 < f 1 then cuV f n v j else f j
def cuF (f : Rw) (n : Int) (v : Bool) : Rw := upd1 (cuP f n v (11 + 24 * f 1)) 1 (f 1 - n)
section CU
variable {f : Rw} {n : Int} {v : Bool}
theorem cuP_n {P i : Int} (hi : i < 11 ∨ 299 ≤ i) (hP : P ≤ 299) : cuP f n v P i = f i := if_neg (by omega)
theorem cuF_n {i : Int} (hV : VB f) (hi : (i < 11 ∨ 299 ≤ i) ∧ i ≠ 1) : cuF f n v i = f i := by
  have := hV.r
  unfold cuF
  rw [upd1_n _ _ hi.2, cuP_n hi.1 (by omega)]
theorem cuF_1 : cuF f n v 1 = f 1 - n := upd1_s _ _ _
theorem cuF_c (hV : VB f) (hn : 1 ≤ n ∧ n ≤ f 1 - 2) (hK : ∀ c r, 0 ≤ c → c < 24 → 0 ≤ r → r < 12 → fcF f c r = 1 → isCF f c r = true) {c r : Int} (hc : 0 ≤ c ∧ c < 24) (hr : 0 ≤ r ∧ r < 12) :
    fcF (cuF f n v) c r = if r < f 1 - n then fcF f c (r + if v = true then n else 0) else 0 := by
  have h1 := hV.c
  have h2 := hV.r
  have e1 : (11 + 24 * r + c - 11) % 24 = c := by omega
  have e2 : (11 + 24 * r + c - 11) / 24 = r := by omega
  unfold fcF cuF
  rw [upd1_n _ _ (by omega)]
  unfold cuP cuV
  rw [e1, e2]
  by_cases d : c < f 0 ∧ r < f 1
  · rw [if_pos ⟨by omega, d⟩]
    cases v with
    | true =>
      rw [if_pos rfl, if_pos rfl]
      by_cases e : r < f 1 - n
      · rw [if_pos (by omega), if_pos e]; exact congrArg f (by omega)
      · rw [if_neg (by omega), if_neg e]
    | false =>
      rw [if_neg (show ¬ (false = true) by decide), if_neg (show ¬ (false = true) by decide)]
      by_cases e : r < f 1 - n
      · rw [if_pos e, if_pos e]; exact congrArg f (by omega)
      · rw [if_neg e, if_neg e]
  · rw [if_neg (fun h => d h.2)]
    have z : ∀ r', 0 ≤ r' → r' < 12 → ¬ (c < f 0 ∧ r' < f 1) → f (11 + 24 * r' + c) = 0 := fun r' a b g => by
      rcases hV.fc (c := c) (r := r') hc.1 hc.2 a b with q | q
      · exact q
      · have := of_decide_eq_true (hK c r' hc.1 hc.2 a b q)
        exact absurd ⟨this.2.1, this.2.2.2⟩ g
    rw [z r hr.1 hr.2 d]
    by_cases e : r < f 1 - n
    · rw [if_pos e]
      cases v with
      | true => rw [if_pos rfl]; exact (z (r + n) (by omega) (by omega) (by omega)).symm
      | false => rw [if_neg (by decide), Int.add_zero]; exact (z r hr.1 hr.2 d).symm
    · rw [if_neg e]
theorem cuF_VB (hV : VB f) (hn : 1 ≤ n ∧ n ≤ f 1 - 2) (hK : ∀ c r, 0 ≤ c → c < 24 → 0 ≤ r → r < 12 → fcF f c r = 1 → isCF f c r = true) : VB (cuF f n v) := by
  have h2 := hV.r
  refine VB_of hV (fun i hi => cuF_n hV (by omega)) (cuF_n hV (by omega)) (by rw [cuF_1]; omega) (by rw [cuF_n hV (by omega)]; exact hV.g) (fun c r c0 c1 r0 r1 => ?_)
  rw [cuF_c hV hn hK ⟨c0, c1⟩ ⟨r0, r1⟩]
  by_cases e : r < f 1 - n
  · rw [if_pos e]
    cases v with
    | true => rw [if_pos rfl]; exact hV.fc c0 c1 (by omega) (by omega)
    | false => rw [if_neg (by decide)]; exact hV.fc c0 c1 (by omega) (by omega)
  · rw [if_neg e]; exact Or.inl rfl
theorem cuF_Z (hV : VB f) (hZ : Z0 f) : Z0 (cuF f n v) := fun i hi => by rw [cuF_n hV (by omega)]; exact hZ i hi
/-- the model cuts -/
theorem cut9 (hV : VB f) (hn : 1 ≤ n ∧ n ≤ f 1 - 2) {w : Wd} (hp : gP w 50 3 = 51) (h51 : gA w 51 = f) : ∃ w', p_X9_cut n (b2 v) w = some w' ∧ frm S0 (fun o => o = 51) w w' ∧ gA w' 51 = cuF f n v := by
  have h1 := hV.c
  have h2 := hV.r
  have st : ∀ P : Int, 11 ≤ P → P < 299 → (P - 11) % 24 < f 0 → (P - 11) / 24 < f 1 → upd1 (cuP f n v P) P (cuV f n v P) = cuP f n v (P + 1) := fun P p0 p1 p2 p3 => funext fun j => by
    unfold upd1 cuP
    by_cases d : j = P
    · rw [if_pos d, d, if_pos ⟨by omega, p2, p3⟩]
    · rw [if_neg d]
      by_cases e : (11 ≤ j ∧ j < P) ∧ (j - 11) % 24 < f 0 ∧ (j - 11) / 24 < f 1
      · rw [if_pos e, if_pos ⟨by omega, e.2⟩]
      · rw [if_neg e, if_neg (fun q => e ⟨by omega, q.2⟩)]
  have sk : ∀ r : Int, 0 ≤ r → r < 12 → cuP f n v (11 + 24 * r + f 0) = cuP f n v (11 + 24 * (r + 1)) := fun r r0 r1 => funext fun j => by
    unfold cuP
    by_cases e : (11 ≤ j ∧ j < 11 + 24 * r + f 0) ∧ (j - 11) % 24 < f 0 ∧ (j - 11) / 24 < f 1
    · rw [if_pos e, if_pos ⟨by omega, e.2⟩]
    · rw [if_neg e, if_neg (fun q => e ⟨by omega, q.2⟩)]
  unfold p_X9_cut
  obtain ⟨w1, a1, a2, a3, a4⟩ := loop_up (lp := fun m r w => p_X9_cut_2 m n (b2 v) r w) (fin := p_X9_cut_117 n) (b := f 1) (I := fun r w' => 0 ≤ r ∧ frm S0 (fun o => o = 51) w w' ∧ gA w' 51 = cuP f n v (11 + 24 * r))
    (fun m r w' hr hI => by
      obtain ⟨i0, i1, i2⟩ := hI
      have hp' : gP w' 50 3 = 51 := (i1.2.2 _ _).trans hp
      have hh : p_X9_high w' = some (f 1, w') := by
        unfold p_X9_high; rw [if_neg (by decide), hp', i2]; exact congrArg (fun q => some (q, w')) (cuP_n (by omega) (by omega))
      simp (disch := omega) only [p_X9_cut_2, hh, Option.bind_some, lt32_o, hr, if_true]
      obtain ⟨w2, b1, b2', b3, b4⟩ := loop_up (lp := fun m' c w => p_X9_cut_13 (p_X9_cut_2 m) m' n (b2 v) r c w) (fin := fun w => p_X9_cut_2 m n (b2 v) (r + 1) w) (b := f 0) (I := fun c w2 => 0 ≤ c ∧ frm S0 (fun o => o = 51) w w2 ∧ gA w2 51 = cuP f n v (11 + 24 * r + c))
        (fun m' c w2 hc hJ => by
          obtain ⟨j0, j1, j2⟩ := hJ
          have hp2 : gP w2 50 3 = 51 := (j1.2.2 _ _).trans hp
          have hw2 : p_X9_wide w2 = some (f 0, w2) := by
            unfold p_X9_wide; rw [if_neg (by decide), hp2, j2]; exact congrArg (fun q => some (q, w2)) (cuP_n (by omega) (by omega))
          have hh2 : p_X9_high w2 = some (f 1, w2) := by
            unfold p_X9_high; rw [if_neg (by decide), hp2, j2]; exact congrArg (fun q => some (q, w2)) (cuP_n (by omega) (by omega))
          have e1 : (11 + 24 * r + c - 11) % 24 = c := by omega
          have e2 : (11 + 24 * r + c - 11) / 24 = r := by omega
          have hst := st (11 + 24 * r + c) (by omega) (by omega) (by omega) (by omega)
          have hfin : ∀ z : Int, z = cuV f n v (11 + 24 * r + c) → ∃ s', p_X9_cut_102 (p_X9_cut_2 m) (p_X9_cut_13 (p_X9_cut_2 m) m') n (b2 v) r c z r c w2 = p_X9_cut_13 (p_X9_cut_2 m) m' n (b2 v) r (c + 1) s' ∧ 0 ≤ c + 1 ∧ frm S0 (fun o => o = 51) w s' ∧ gA s' 51 = cuP f n v (11 + 24 * r + (c + 1)) := fun z hz => by
            refine ⟨sA w2 51 (11 + 24 * r + c) z, ?_, by omega, frm_sA j1 rfl, ?_⟩
            · unfold p_X9_cut_102 p_X9_putFlaw
              rw [if_neg (by rw [inb_f (by omega)]; exact id), hp2, Option.bind_some]
            · rw [gA_upd, j2, hz, hst]; exact congrArg (cuP f n v) (by omega)
          simp (disch := omega) only [p_X9_cut_13, hw2, Option.bind_some, lt32_o, hc, if_true, eq32_b2]
          unfold p_X9_cut_33 p_X9_cut_71
          simp only [hh2, Option.bind_some, eq32_b2]
          cases v with
          | false =>
            rw [if_pos rfl, if_pos rfl]
            simp (disch := omega) only [lt32_o]
            by_cases d : r < f 1 - n
            · rw [if_pos d, if_neg e10, if_neg (by rw [inb_f (by omega)]; exact id), hp2, j2]
              refine hfin _ ?_
              unfold cuV
              rw [if_neg (by decide), e2, if_pos d]
              exact if_neg (by omega)
            · rw [if_neg d, if_pos e00]
              refine hfin _ ?_
              unfold cuV
              rw [if_neg (by decide), e2, if_neg d]
          | true =>
            rw [if_neg (by decide), if_neg (by decide)]
            simp (disch := omega) only [lt32_o]
            by_cases d : r + n < f 1
            · rw [if_pos d, if_neg e10, if_neg (by rw [inb_f (by omega)]; exact id), hp2, j2]
              refine hfin _ ?_
              unfold cuV
              rw [if_pos rfl, e2, if_pos d]
              unfold cuP
              rw [if_neg (by omega)]
              exact congrArg f (by omega)
            · rw [if_neg d, if_pos e00]
              refine hfin _ ?_
              unfold cuV
              rw [if_pos rfl, e2, if_neg d])
        (fun m' w2 hJ => by
          obtain ⟨j0, j1, j2⟩ := hJ
          have hp2 : gP w2 50 3 = 51 := (j1.2.2 _ _).trans hp
          have hw2 : p_X9_wide w2 = some (f 0, w2) := by
            unfold p_X9_wide; rw [if_neg (by decide), hp2, j2]; exact congrArg (fun q => some (q, w2)) (cuP_n (by omega) (by omega))
          simp (disch := omega) only [p_X9_cut_13, p_X9_cut_111, hw2, Option.bind_some, lt32_o, Int.lt_irrefl, if_false])
        FU 0 w' (by omega) ⟨Int.le_refl _, i1, by rw [Int.add_zero]; exact i2⟩ (by have : FU = 1000000 := rfl; omega)
      exact ⟨w2, b1, by omega, b3, by rw [b4]; exact sk r i0 (by omega)⟩)
    (fun m w' hI => by
      obtain ⟨i0, i1, i2⟩ := hI
      have hp' : gP w' 50 3 = 51 := (i1.2.2 _ _).trans hp
      have hh : p_X9_high w' = some (f 1, w') := by
        unfold p_X9_high; rw [if_neg (by decide), hp', i2]; exact congrArg (fun q => some (q, w')) (cuP_n (by omega) (by omega))
      simp (disch := omega) only [p_X9_cut_2, hh, Option.bind_some, lt32_o, Int.lt_irrefl, if_false])
    FU 0 w (by omega) ⟨Int.le_refl _, frm_refl w, by
      rw [h51]
      funext j
      exact (if_neg (by omega)).symm⟩ (by have : FU = 1000000 := rfl; omega)
  have hp1 : gP w1 50 3 = 51 := (a3.2.2 _ _).trans hp
  rw [a1]
  unfold p_X9_cut_117
  rw [if_neg (by decide), if_neg (by decide), hp1, a4, show cuP f n v (11 + 24 * f 1) 1 = f 1 from cuP_n (by omega) (by omega)]
  exact ⟨_, rfl, frm_sA a3 rfl, by rw [gA_upd, a4]; rfl⟩
/-- the class cuts -/
theorem cutC (hV : VB f) (hn : 1 ≤ n ∧ n ≤ f 1 - 2) {w : Wd} (hS : RS w 116 f) : ∃ w', p_X6_cutFlaws 116 n (b2 v) w = some w' ∧ frm (fun o _ => o = 116) (fun o => o = 118) w w' ∧ RS w' 116 (cuF f n v) := by
  have h1 := hV.c
  have h2 := hV.r
  have e1 : gF w 116 1 = f 1 := hS.1.2.1
  have h9 : p_X6_cutFlaws 116 n (b2 v) w = p_X6_cutFlaws_23 116 FU (if v = true then n else 0) 0 (sF w 116 1 (f 1 - n)) := by
    unfold p_X6_cutFlaws p_X6_cutFlaws_9
    simp only [eq32_b2]
    rw [e1]
    cases v <;> rfl
  rw [h9]
  generalize hsv : (if v = true then n else 0) = s
  have hs : s = 0 ∨ s = n := by rw [← hsv]; cases v; exact Or.inl rfl; exact Or.inr rfl
  obtain ⟨w', a1, a2, a3, a4, a5, a6⟩ := loop_up (lp := fun m r w => p_X6_cutFlaws_23 116 m s r w) (fin := some) (b := 12)
    (I := fun r w' => 0 ≤ r ∧ frm (fun o _ => o = 116) (fun o => o = 118) w w' ∧ (∀ k, gF w' 116 k = if k = 1 then f 1 - n else gF w 116 k) ∧ (∀ r', 0 ≤ r' → r' < r → gA w' 118 r' = if r' < f 1 - n then mkC w 116 (r' + s) else 0) ∧ (∀ r', r ≤ r' → gA w' 118 r' = gA w 118 r'))
    (fun m r w' hr hI => by
      obtain ⟨i0, i1, i2, i3, i4⟩ := hI
      have hF1 : gF w' 116 1 = f 1 - n := by rw [i2]; rfl
      have hfin : ∀ z : Int, z = (if r < f 1 - n then mkC w 116 (r + s) else 0) → ∃ s', p_X6_cutFlaws_60 116 (p_X6_cutFlaws_23 116 m) s r z r w' = p_X6_cutFlaws_23 116 m s (r + 1) s' ∧ 0 ≤ r + 1 ∧ frm (fun o _ => o = 116) (fun o => o = 118) w s' ∧ (∀ k, gF s' 116 k = if k = 1 then f 1 - n else gF w 116 k) ∧ (∀ r', 0 ≤ r' → r' < r + 1 → gA s' 118 r' = if r' < f 1 - n then mkC w 116 (r' + s) else 0) ∧ (∀ r', r + 1 ≤ r' → gA s' 118 r' = gA w 118 r') := fun z hz => by
        refine ⟨sA w' 118 r z, ?_, by omega, frm_sA i1 rfl, i2, fun r' a b => ?_, fun r' a => ?_⟩
        · unfold p_X6_cutFlaws_60
          rw [put_in (o := 117) ⟨i0, by rw [show ln (117 + 1) = 12 from SLo_1.l2]; omega⟩, Option.bind_some]
        · rw [gA_sA]
          by_cases d : r' = r
          · rw [if_pos ⟨rfl, d⟩, d]; exact hz
          · rw [if_neg (fun h => d h.2)]; exact i3 r' a (by omega)
        · rw [gA_sA, if_neg (by omega)]; exact i4 r' (by omega)
      simp (disch := omega) only [p_X6_cutFlaws_23, lt32_o, hr, if_true, hF1]
      by_cases d : r < f 1 - n
      · rw [if_pos d]
        have ha : p_X5_at 117 (r + s) w' = some (mkC w 116 (r + s), w') := by
          rw [show p_X5_at 117 (r + s) w' = _ from at_in (o := 117) ⟨by omega, by rw [show ln (117 + 1) = 12 from SLo_1.l2]; omega⟩]
          rw [i4 (r + s) (by omega)]
          unfold mkC
          rw [if_pos (by omega)]
        rw [ha, Option.bind_some]
        exact hfin _ (if_pos d).symm
      · rw [if_neg d]
        exact hfin _ (if_neg d).symm)
    (fun m w' hI => by simp (disch := omega) only [p_X6_cutFlaws_23, lt32_o, Int.lt_irrefl, if_false])
    FU 0 (sF w 116 1 (f 1 - n)) (by decide) ⟨Int.le_refl _, frm_sF (frm_refl w) rfl, fun k => by
      rw [gF_sF]
      by_cases d : k = 1
      · rw [if_pos ⟨rfl, d⟩, if_pos d]
      · rw [if_neg (fun h => d h.2), if_neg d], fun r' a b => absurd b (by omega), fun _ _ => rfl⟩ (by decide)
  refine ⟨w', a1, a3, ?_⟩
  have hK := hS.2.2.2.2.2.2
  refine hS.of (fun i hi => cuF_n hV (by omega)) ?_ ?_ ?_ (fun k k0 k1 => by rw [a4, if_neg (by omega)]) (fun k => a3.1 _ k (by show ¬ (116 + 11 = 116); decide)) (fun d hd hd2 i => a3.2.1 _ (by omega) i) (fun r r0 r1 i hi => ?_) (fun c r c0 c1 r0 r1 hh => ?_)
  · rw [a4, cuF_n hV (by omega)]; exact hS.1.1
  · rw [a4, cuF_1]; rfl
  · rw [a4, cuF_n hV (by omega)]; exact hS.1.2.2.1
  · rw [show gA w' (116 + 2) r = _ from a5 r r0 r1]
    by_cases e : i < 24
    · rw [cuF_c hV hn hK (by omega) ⟨r0, r1⟩, hsv]
      by_cases d : r < f 1 - n
      · rw [if_pos d, if_pos d, mkC_b hS hi, decide_eq_true (show 0 ≤ r + s ∧ r + s < 12 by omega), Bool.true_and]
      · rw [if_neg d, if_neg d, bI_0]; simp
    · rw [decide_eq_false e, Bool.false_and]
      by_cases d : r < f 1 - n
      · rw [if_pos d, mkC_b hS hi, decide_eq_false e]; simp
      · rw [if_neg d, bI_0]
  · rw [cuF_c hV hn hK ⟨c0, c1⟩ ⟨r0, r1⟩, hsv] at hh
    by_cases d : r < f 1 - n
    · rw [if_pos d] at hh
      have := of_decide_eq_true (hK c (r + s) c0 c1 (by omega) (by omega) hh)
      unfold isCF
      rw [cuF_1, cuF_n hV (by omega)]
      exact decide_eq_true (by omega)
    · rw [if_neg d] at hh; exact absurd hh (by decide)
end CU
section WL
variable {k na : Nat} {wC wM : Wd} {xs : Nat → Int32} {i : Int}
theorem cut_both (h : RR k na wC wM) {x : Int} (hx : rng x) (v : Bool) :
    ∃ z, (((p_X8_cutRows x (b2 v) na wC).bind (wrL (hnd2 2 1) (fun r w => sA w 34 0 (w32 r)))).bind fun z1 => (p_X9_cutRows x (b2 v) wM).bind fun m3 => (p_X9_thrown m3.2).bind fun m4 => if eq32 m4.1 z1.1 = true then (if eq32 z1.1 0 = true then (if eq32 (lcm64 (gA z1.2.2 34 0) (w32 m3.1)) 0 = true then (some (z1.2.1, z1.2.2, m4.2)) else (none)) else (some (z1.2.1, z1.2.2, m4.2))) else (none)) = some z ∧ RR (k + 1) z.1 z.2.1 z.2.2 := by
  obtain ⟨vB, v1, v3, v4, v5, v6, v7, v8⟩ := h.V
  have h288 := (lF_ok h.B).2.2.2
  have hr := h.B.r
  have hx' := hx
  unfold rng at hx'
  have e1 : gF wC 100 1 = gA wM 51 1 := h.S.1.2.1
  have e11 : gF wC 100 11 = gA wM 51 8 := h.S.1.2.2.2.2.2
  have hM0 : p_X9_cutRows x (b2 v) wM = p_X9_cutRows_33 x (b2 v) (b2 (!v || decide (gA wM 51 8 = 0))) (b2 (decide (1 ≤ x ∧ x ≤ gA wM 51 1 - 2))) wM := by
    unfold p_X9_cutRows p_X9_cutRows_28
    rw [high_o h.f, Option.bind_some]
    dsimp only
    rw [w32_o hx', w32_o (by omega), in_o (by omega), Option.bind_some]
    simp only [eq32_b2]
    cases v with
    | false => rw [if_pos rfl]; rfl
    | true =>
      rw [if_neg (by decide), if_neg (by decide)]
      by_cases d : gA wM 51 8 = 0
      · rw [if_pos (by rw [d]; exact e00), decide_eq_true d]; rfl
      · rw [if_neg (by rw [eq32_o (by omega)]; exact d), decide_eq_false d]; rfl
  have h80 : p_X8_cutRows x (b2 v) na wC = if ¬ (1 ≤ x ∧ x ≤ gA wM 51 1 - 2) then some (.inr 2, na, wC) else if (!v || decide (gA wM 51 8 = 0)) = true then p_X8_cutRows_48 x (b2 v) na wC else some (.inr 1, na, wC) := by
    unfold p_X8_cutRows p_X8_cutRows_18
    rw [e1, e11]
    simp (disch := omega) only [lt32_o, eq32_b2]
    by_cases c1 : x < 1
    · rw [if_pos c1, if_pos (by omega)]
    · by_cases c2 : gA wM 51 1 - 2 < x
      · rw [if_neg c1, if_pos c2, if_pos (by omega)]
      · rw [if_neg c1, if_neg c2, if_neg (show ¬ ¬ (1 ≤ x ∧ x ≤ gA wM 51 1 - 2) by omega)]
        cases v with
        | false => rfl
        | true =>
          rw [if_neg (by decide)]
          by_cases d : gA wM 51 8 = 0
          · rw [if_neg (by omega), decide_eq_true d]; rfl
          · rw [if_pos (by omega), decide_eq_false d]; rfl
  rw [hM0, h80]
  unfold p_X9_cutRows_33
  rw [passes2_o, Option.bind_some]
  simp only [eq32_b2]
  by_cases c : 1 ≤ x ∧ x ≤ gA wM 51 1 - 2
  · rw [if_neg (by simpa using c), decide_eq_true c]
    by_cases g : (!v || decide (gA wM 51 8 = 0)) = true
    · rw [if_pos g, g, if_neg (show ¬ (true && true) = false by decide)]
      obtain ⟨w1, a1, a2, a3, a4⟩ := h.cp
      obtain ⟨w2, b1, b2', b3⟩ := cutC (v := v) h.B c a4
      have hK := h.S.2.2.2.2.2.2
      obtain ⟨m1, c1, c2, c3, c3', c4⟩ := begin_o h (frmM_0 wM 0)
      obtain ⟨e1', e2', e3'⟩ := h.ny c2
      obtain ⟨m2, d1, d2, d3⟩ := cut9 (v := v) h.B c e2' e3'
      have hfr2 : frm SCf TCf wC w2 := frm_trans a3 (frm_mono b2' (fun o k h => by unfold SCf; omega) (fun o h => by unfold TCf; omega))
      have hst := op_stay h (wC1 := w2) (wM1 := m2) (f' := cuF (gA wM 51) x v) hfr2 b3 (frm_trans (frm_5 c2) (frm_mono d2 (fun _ _ h => absurd h id) (fun o h => Or.inr h)))
        ⟨(d2.1 50 16 id).trans c3.1, fun u u0 u1 => ⟨(d2.2.1 57 (by decide) u).trans (c3.2 u u0 u1).1, (d2.2.1 58 (by decide) u).trans (c3.2 u u0 u1).2.1, fun j j0 j1 => (d2.2.1 59 (by decide) _).trans ((c3.2 u u0 u1).2.2 j j0 j1)⟩⟩
        (fun i i0 i1 => (d2.2.1 55 (by decide) i).trans (c3' i i0 i1)) d3 (cuF_VB h.B c hK) (cuF_Z h.B h.z) (by rw [cuF_1]; omega) (fun i i0 i1 => cuF_n h.B (by omega)) (fun n13 w14 => some (Sum.inl (gF w14 10 4), n13, w14))
      have hm1 : p_X9_beginChange (sF wM 50 0 (if true = true then if true = true then 0 else 2 else 1)) = some m1 := c1
      rw [hm1, Option.bind_some, d1, Option.bind_some]
      unfold p_X8_cutRows_48
      rw [a1, Option.bind_some, b1, Option.bind_some]
      rcases hst with ⟨na', wC', wM', s1, s2, s3, s4, s5, s6⟩ | ⟨wC', wM', s1, s2, s3⟩
      · rw [s2, Option.bind_some]
        dsimp only
        have hp2 := passes2_l (q := true) (w := wM')
        rw [show (1 : Int) = b2 true from rfl] at hp2 ⊢
        rw [hp2, Option.bind_some]
        refine wok (r := nLF (cuF (gA wM 51) x v)) (na' := na') (wC' := wC') (wM' := sF wM' 50 0 0) ?_ ?_ rfl (s3.fr (frm_refl _) (frmM_0 _ _))
        · rw [s1, show gF wC' 10 4 = nLF (cuF (gA wM 51) x v) by rw [← s4]; exact s3.L.1.1]
        · dsimp only
          rw [if_neg (show ¬ eq32 (b2 true) 0 = true by decide +kernel), ← s5]; rfl
      · rw [s2, Option.bind_some]
        dsimp only
        have hp2 := passes2_l (q := false) (w := wM')
        rw [show (0 : Int) = b2 false from rfl] at hp2 ⊢
        rw [hp2, Option.bind_some]
        exact wex (h := hnd2 2 1) (f := fun r w => sA w 34 (b2 false) (w32 r)) (e := 1) (c := 2) (na' := na) (wC' := wC') (r := b2 false) (wM' := sF wM' 50 0 2) s1 rfl rfl (Or.inr rfl) rfl ((s3.fr (frm_refl _) (frmM_0 _ _)).mono (Nat.le_succ k))
    · rw [if_neg g, bfF g, if_pos (show (true && false) = false from rfl)]
      exact wex (h := hnd2 2 1) (e := 1) (na' := na) (wC' := wC) rfl rfl rfl (Or.inr rfl) rfl ((h.fr (frm_refl _) (frmM_0 _ _)).mono (Nat.le_succ k))
  · rw [if_pos c, decide_eq_false c, if_pos (show (false && (!v || decide (gA wM 51 8 = 0))) = false from rfl)]
    exact wex (h := hnd2 2 1) (e := 2) (na' := na) (wC' := wC) rfl rfl rfl (Or.inl rfl) rfl ((h.fr (frm_refl _) (frmM_0 _ _)).mono (Nat.le_succ k))
theorem op40 (h : RR k na wC wM) : ∃ z, p_op_40 xs i na wC wM = some z ∧ RR (k + 1) z.1 z.2.1 z.2.2 := by
  unfold p_op_40 p_L_cutRows
  by_cases c : eq32 (sc xs (i + 2)) 0 = true
  · simp only [c, if_true]
    exact cut_both h (sc_rng xs (i + 1)) false
  · rw [if_neg c]
    simp only [bfF c, Bool.false_eq_true, if_false]
    exact cut_both h (sc_rng xs (i + 1)) true
end WL
