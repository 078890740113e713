/-! ===== the slab turned ===== -/
def otF (f : Rw) (j : Int) : Int := 11 + 24 * (f 1 - 1 - (j - 11) / 24) + (f 0 - 1 - (j - 11) % 24)
def rcF (f : Rw) (j : Int) : Prop := 11 ≤ j ∧ (j - 11) % 24 < f 0 ∧ (j - 11) / 24 < f 1
theorem ot_rc {f : Rw} (hV : VB f) {j : Int} (h : rcF f j) : rcF f (otF f j) ∧ otF f (otF f j) = j ∧ (otF f j < 299 ∧ j < 299) := by
  have h1 := hV.c
  have h2 := hV.r
  unfold rcF at *
  have e1 : (otF f j - 11) % 24 = f 0 - 1 - (j - 11) % 24 := by unfold otF; omega
  have e2 : (otF f j - 11) / 24 = f 1 - 1 - (j - 11) / 24 := by unfold otF; omega
  refine ⟨⟨by unfold otF; omega, by omega, by omega⟩, ?_, by unfold otF; omega, by omega⟩
  have : otF f (otF f j) = 11 + 24 * (f 1 - 1 - (otF f j - 11) / 24) + (f 0 - 1 - (otF f j - 11) % 24) := rfl
  rw [this, e1, e2]
  omega
def tuP (f : Rw) (P : Int) : Rw := fun j => if (11 ≤ j ∧ (j - 11) % 24 < f 0 ∧ (j - 11) / 24 < f 1) ∧ (j < P ∨ otF f j < P) then f (otF f j) else f j
def tuF (f : Rw) : Rw := tuP f (11 + 24 * f 1)
section TU
variable {f : Rw}
theorem tuP_n (hV : VB f) {P i : Int} (hi : i < 11 ∨ 299 ≤ i) : tuP f P i = f i := by
  have h2 := hV.r
  exact if_neg (by omega)
theorem tuF_c (hV : VB f) {c r : Int} (hc : 0 ≤ c ∧ c < 24) (hr : 0 ≤ r ∧ r < 12) : fcF (tuF f) c r = if c < f 0 ∧ r < f 1 then fcF f (f 0 - 1 - c) (f 1 - 1 - r) else fcF f c r := by
  have e1 : (11 + 24 * r + c - 11) % 24 = c := by omega
  have e2 : (11 + 24 * r + c - 11) / 24 = r := by omega
  have e3 : otF f (11 + 24 * r + c) = 11 + 24 * (f 1 - 1 - r) + (f 0 - 1 - c) := by unfold otF; rw [e1, e2]
  unfold fcF tuF tuP
  rw [e1, e2, e3]
  by_cases d : c < f 0 ∧ r < f 1
  · rw [if_pos ⟨⟨by omega, d⟩, Or.inl (by omega)⟩, if_pos d]
  · rw [if_neg (fun h => d h.1.2), if_neg d]
theorem tuF_VB (hV : VB f) : VB (tuF f) := by
  have h1 := hV.c
  have h2 := hV.r
  refine VB_of hV (fun i hi => tuP_n hV (by omega)) (tuP_n hV (by omega)) ?_ ?_ (fun c r c0 c1 r0 r1 => ?_)
  · rw [show tuF f 1 = f 1 from tuP_n hV (by omega)]; exact hV.r
  · rw [show tuF f 2 = f 2 from tuP_n hV (by omega)]; exact hV.g
  · rw [tuF_c hV ⟨c0, c1⟩ ⟨r0, r1⟩]
    by_cases d : c < f 0 ∧ r < f 1
    · rw [if_pos d]; exact hV.fc (by omega) (by omega) (by omega) (by omega)
    · rw [if_neg d]; exact hV.fc c0 c1 r0 r1
theorem tuF_Z (hV : VB f) (hZ : Z0 f) : Z0 (tuF f) := fun i hi => by rw [show tuF f i = f i from tuP_n hV (by omega)]; exact hZ i hi
theorem tu_step (hV : VB f) {P : Int} (hP : rcF f P) (h : P < otF f P) : upd1 (upd1 (tuP f P) P (f (otF f P))) (otF f P) (f P) = tuP f (P + 1) := funext fun j => by
  obtain ⟨q1, q2, q3⟩ := ot_rc hV hP
  unfold upd1 tuP
  by_cases d : j = otF f P
  · rw [if_pos d, d, if_pos ⟨q1, Or.inr (by rw [q2]; omega)⟩, q2]
  · rw [if_neg d]
    by_cases d2 : j = P
    · rw [if_pos d2, d2, if_pos ⟨hP, Or.inl (by omega)⟩]
    · rw [if_neg d2]
      by_cases e : (11 ≤ j ∧ (j - 11) % 24 < f 0 ∧ (j - 11) / 24 < f 1) ∧ (j < P ∨ otF f j < P)
      · rw [if_pos e, if_pos ⟨e.1, by omega⟩]
      · rw [if_neg e, if_neg (fun q => e ⟨q.1, by
          have hj := (ot_rc hV (j := j) q.1).2.1
          rcases q.2 with q | q
          · omega
          · by_cases g : otF f j = P
            · rw [g] at hj; exact absurd hj.symm d
            · omega⟩)]
theorem tu_same (hV : VB f) {P : Int} (hP : rcF f P) (h : ¬ P < otF f P) : tuP f P = tuP f (P + 1) := funext fun j => by
  obtain ⟨q1, q2, q3⟩ := ot_rc hV hP
  unfold tuP
  by_cases e : (11 ≤ j ∧ (j - 11) % 24 < f 0 ∧ (j - 11) / 24 < f 1) ∧ (j < P ∨ otF f j < P)
  · rw [if_pos e, if_pos ⟨e.1, by omega⟩]
  · rw [if_neg e]
    by_cases g : (11 ≤ j ∧ (j - 11) % 24 < f 0 ∧ (j - 11) / 24 < f 1) ∧ (j < P + 1 ∨ otF f j < P + 1)
    · rw [if_pos g]
      have hj : rcF f j := g.1
      have h2 := (ot_rc hV hj).2.1
      have : otF f j = j := by
        rcases g.2 with q | q
        · have hjp : j = P := Int.le_antisymm (by omega) (by
            rcases Int.lt_or_le j P with a | a
            · exact absurd ⟨g.1, Or.inl a⟩ e
            · exact a)
          rw [hjp] at e ⊢
          rcases Int.lt_or_le (otF f P) P with a | a
          · exact absurd ⟨hP, Or.inr a⟩ e
          · omega
        · have hop : otF f j = P := Int.le_antisymm (by omega) (by
            rcases Int.lt_or_le (otF f j) P with a | a
            · exact absurd ⟨g.1, Or.inr a⟩ e
            · exact a)
          rw [hop] at h2
          have : P ≤ j := by
            rcases Int.lt_or_le j P with a | a
            · exact absurd ⟨g.1, Or.inl a⟩ e
            · exact a
          omega
      rw [this]
    · rw [if_neg g]
theorem tu_skip (hV : VB f) {r : Int} (hr : 0 ≤ r ∧ r < 12) : tuP f (11 + 24 * r + f 0) = tuP f (11 + 24 * (r + 1)) := funext fun j => by
  unfold tuP
  by_cases e : (11 ≤ j ∧ (j - 11) % 24 < f 0 ∧ (j - 11) / 24 < f 1) ∧ (j < 11 + 24 * r + f 0 ∨ otF f j < 11 + 24 * r + f 0)
  · have h1 := hV.c
    rw [if_pos e, if_pos ⟨e.1, by omega⟩]
  · rw [if_neg e, if_neg (fun q => e ⟨q.1, by
      have h1 := hV.c
      obtain ⟨a1, a2, a3⟩ := ot_rc hV q.1
      have a4 : 11 ≤ otF f j ∧ (otF f j - 11) % 24 < f 0 ∧ (otF f j - 11) / 24 < f 1 := a1
      have a5 := q.1
      omega⟩)]
theorem turn9 (hV : VB f) {w : Wd} (hp : gP w 50 3 = 51) (h51 : gA w 51 = f) : ∃ w', p_X9_turn w = some w' ∧ frm S0 (fun o => o = 51) w w' ∧ gA w' 51 = tuF f := by
  have h1 := hV.c
  have h2 := hV.r
  unfold p_X9_turn
  obtain ⟨w1, a1, a2, a3, a4⟩ := loop_up (lp := fun m r w => p_X9_turn_2 m r w) (fin := some) (b := f 1) (I := fun r w' => 0 ≤ r ∧ frm S0 (fun o => o = 51) w w' ∧ gA w' 51 = tuP f (11 + 24 * r))
    (fun m r w' hr hI => by
      obtain ⟨i0, i1, i2⟩ := hI
      have hp' : gP w' 50 3 = 51 := (i1.2.2 _ _).trans hp
      have hh : p_X9_high w' = some (f 1, w') := by
        unfold p_X9_high; rw [if_neg (by decide), hp', i2]; exact congrArg (fun q => some (q, w')) (tuP_n hV (by omega))
      simp (disch := omega) only [p_X9_turn_2, hh, Option.bind_some, lt32_o, hr, if_true]
      obtain ⟨w2, b1, b2', b3, b4⟩ := loop_up (lp := fun m' c w => p_X9_turn_12 (p_X9_turn_2 m) m' r c w) (fin := fun w => p_X9_turn_2 m (r + 1) w) (b := f 0) (I := fun c w2 => 0 ≤ c ∧ frm S0 (fun o => o = 51) w w2 ∧ gA w2 51 = tuP f (11 + 24 * r + c))
        (fun m' c w2 hc hJ => by
          obtain ⟨j0, j1, j2⟩ := hJ
          have hp2 : gP w2 50 3 = 51 := (j1.2.2 _ _).trans hp
          have hw2 : p_X9_wide w2 = some (f 0, w2) := by
            unfold p_X9_wide; rw [if_neg (by decide), hp2, j2]; exact congrArg (fun q => some (q, w2)) (tuP_n hV (by omega))
          have hh2 : p_X9_high w2 = some (f 1, w2) := by
            unfold p_X9_high; rw [if_neg (by decide), hp2, j2]; exact congrArg (fun q => some (q, w2)) (tuP_n hV (by omega))
          have hrc : rcF f (11 + 24 * r + c) := ⟨by omega, by omega, by omega⟩
          obtain ⟨q1, q2, q3⟩ := ot_rc hV hrc
          have hot : otF f (11 + 24 * r + c) = 11 + 24 * (f 1 - 1 - r) + f 0 - 1 - c := by
            unfold otF
            rw [show (11 + 24 * r + c - 11) % 24 = c by omega, show (11 + 24 * r + c - 11) / 24 = r by omega]; omega
          simp (disch := omega) only [p_X9_turn_12, p_X9_turn_91, hw2, hh2, Option.bind_some, lt32_o, hc, if_true]
          rw [← hot]
          by_cases d : 11 + 24 * r + c < otF f (11 + 24 * r + c)
          · rw [if_pos d]
            rw [if_neg (show ¬ inb (11 + 24 * r + c) 1099 = false by rw [inb_f (by omega)]; exact id), if_neg (show ¬ inb (otF f (11 + 24 * r + c)) 1099 = false by rw [inb_f (by omega)]; exact id), if_neg (show ¬ inb (11 + 24 * r + c) 1099 = false by rw [inb_f (by omega)]; exact id), if_neg (show ¬ inb (otF f (11 + 24 * r + c)) 1099 = false by rw [inb_f (by omega)]; exact id)]
            have hp3 : ∀ z : Int, gP (sA w2 51 (11 + 24 * r + c) z) 50 3 = 51 := fun _ => hp2
            rw [hp2, hp3, j2]
            have v1 : tuP f (11 + 24 * r + c) (11 + 24 * r + c) = f (11 + 24 * r + c) := if_neg (by omega)
            have v2 : tuP f (11 + 24 * r + c) (otF f (11 + 24 * r + c)) = f (otF f (11 + 24 * r + c)) := if_neg (by rw [q2]; omega)
            rw [v1, v2]
            refine ⟨_, rfl, by omega, frm_sA (frm_sA j1 rfl) rfl, ?_⟩
            rw [gA_upd, gA_upd, j2, tu_step hV hrc d]
            exact congrArg (tuP f) (by omega)
          · rw [if_neg d]
            refine ⟨w2, rfl, by omega, j1, ?_⟩
            rw [j2, tu_same hV hrc d]
            exact congrArg (tuP f) (by omega))
        (fun m' w2 hJ => by
          obtain ⟨j0, j1, j2⟩ := hJ
          have hp2 : gP w2 50 3 = 51 := (j1.2.2 _ _).trans hp
          have hw2 : p_X9_wide w2 = some (f 0, w2) := by
            unfold p_X9_wide; rw [if_neg (by decide), hp2, j2]; exact congrArg (fun q => some (q, w2)) (tuP_n hV (by omega))
          simp (disch := omega) only [p_X9_turn_12, p_X9_turn_97, hw2, Option.bind_some, lt32_o, Int.lt_irrefl, if_false])
        FU 0 w' (by omega) ⟨Int.le_refl _, i1, by rw [Int.add_zero]; exact i2⟩ (by have : FU = 1000000 := rfl; omega)
      exact ⟨w2, b1, by omega, b3, by rw [b4]; exact tu_skip hV ⟨i0, by omega⟩⟩)
    (fun m w' hI => by
      obtain ⟨i0, i1, i2⟩ := hI
      have hp' : gP w' 50 3 = 51 := (i1.2.2 _ _).trans hp
      have hh : p_X9_high w' = some (f 1, w') := by
        unfold p_X9_high; rw [if_neg (by decide), hp', i2]; exact congrArg (fun q => some (q, w')) (tuP_n hV (by omega))
      simp (disch := omega) only [p_X9_turn_2, hh, Option.bind_some, lt32_o, Int.lt_irrefl, if_false])
    FU 0 w (by omega) ⟨Int.le_refl _, frm_refl w, by
      rw [h51]
      funext j
      refine (if_neg (fun q => ?_)).symm
      obtain ⟨a1, a2, a3⟩ := ot_rc hV q.1
      have a4 := a1.1
      have a5 := q.1
      omega⟩ (by have : FU = 1000000 := rfl; omega)
  exact ⟨w1, a1, a3, a4⟩
/-- the class's trial, with so many cells turned -/
def tcP (f : Rw) (P : Int) : Rw := fun j => if 11 ≤ j ∧ j < 299 then (if ((j - 11) % 24 < f 0 ∧ (j - 11) / 24 < f 1) ∧ otF f j < P then f (otF f j) else 0) else f j
theorem tcP_n {P i : Int} (hi : i < 11 ∨ 299 ≤ i) : tcP f P i = f i := if_neg (by omega)
theorem tcP_VB (hV : VB f) (P : Int) : VB (tcP f P) := by
  have h1 := hV.c
  have h2 := hV.r
  refine VB_of hV (fun i hi => tcP_n (by omega)) (tcP_n (by omega)) ?_ ?_ (fun c r c0 c1 r0 r1 => ?_)
  · rw [show tcP f P 1 = f 1 from tcP_n (by omega)]; exact hV.r
  · rw [show tcP f P 2 = f 2 from tcP_n (by omega)]; exact hV.g
  · have e1 : (11 + 24 * r + c - 11) % 24 = c := by omega
    have e2 : (11 + 24 * r + c - 11) / 24 = r := by omega
    unfold fcF tcP
    rw [if_pos (by omega), e1, e2]
    by_cases d : (c < f 0 ∧ r < f 1) ∧ otF f (11 + 24 * r + c) < P
    · rw [if_pos d]
      have := hV.fc (c := f 0 - 1 - c) (r := f 1 - 1 - r) (by omega) (by omega) (by omega) (by omega)
      have e3 : otF f (11 + 24 * r + c) = 11 + 24 * (f 1 - 1 - r) + (f 0 - 1 - c) := by unfold otF; rw [e1, e2]
      rw [e3]; exact this
    · rw [if_neg d]; exact Or.inl rfl
theorem tc_step (hV : VB f) {c r : Int} (hc : 0 ≤ c ∧ c < f 0) (hr : 0 ≤ r ∧ r < f 1) : mkF (tcP f (11 + 24 * r + c)) (f 0 - 1 - c) (f 1 - 1 - r) (b2 (flF f c r)) = tcP f (11 + 24 * r + c + 1) := funext fun j => by
  have h1 := hV.c
  have h2 := hV.r
  have hrc : rcF f (11 + 24 * r + c) := ⟨by omega, by omega, by omega⟩
  obtain ⟨q1, q2, q3⟩ := ot_rc hV hrc
  have hot : otF f (11 + 24 * r + c) = 11 + 24 * (f 1 - 1 - r) + (f 0 - 1 - c) := by
    unfold otF
    rw [show (11 + 24 * r + c - 11) % 24 = c by omega, show (11 + 24 * r + c - 11) / 24 = r by omega]
  unfold mkF
  rw [← hot]
  unfold upd1
  by_cases d : j = otF f (11 + 24 * r + c)
  · rw [if_pos d, d]
    unfold tcP
    rw [if_pos ⟨q1.1, q3.1⟩, q2, if_pos ⟨q1.2, by omega⟩]
    unfold flF
    rw [show isCF f c r = true from decide_eq_true (by omega), Bool.true_and]
    show b2 (decide (f (11 + 24 * r + c) = 1)) = f (11 + 24 * r + c)
    rcases hV.fc (c := c) (r := r) hc.1 (by omega) hr.1 (by omega) with z | z
    · have z' : f (11 + 24 * r + c) = 0 := z
      rw [z']; rfl
    · have z' : f (11 + 24 * r + c) = 1 := z
      rw [z']; rfl
  · rw [if_neg d]
    unfold tcP
    by_cases e : 11 ≤ j ∧ j < 299
    · rw [if_pos e, if_pos e]
      by_cases g : ((j - 11) % 24 < f 0 ∧ (j - 11) / 24 < f 1) ∧ otF f j < 11 + 24 * r + c
      · rw [if_pos g, if_pos ⟨g.1, by omega⟩]
      · rw [if_neg g, if_neg (fun q => g ⟨q.1, by
          by_cases g2 : otF f j = 11 + 24 * r + c
          · have := (ot_rc hV (j := j) ⟨e.1, q.1⟩).2.1
            rw [g2] at this
            exact absurd this.symm d
          · omega⟩)]
    · rw [if_neg e, if_neg e]
theorem tc_skip (hV : VB f) {r : Int} : tcP f (11 + 24 * r + f 0) = tcP f (11 + 24 * (r + 1)) := funext fun j => by
  have h1 := hV.c
  unfold tcP
  by_cases e : 11 ≤ j ∧ j < 299
  · rw [if_pos e, if_pos e]
    by_cases g : ((j - 11) % 24 < f 0 ∧ (j - 11) / 24 < f 1) ∧ otF f j < 11 + 24 * r + f 0
    · rw [if_pos g, if_pos ⟨g.1, by omega⟩]
    · rw [if_neg g, if_neg (fun q => g ⟨q.1, by
        obtain ⟨a1, a2, a3⟩ := ot_rc hV (j := j) ⟨e.1, q.1⟩
        have a4 : 11 ≤ otF f j ∧ (otF f j - 11) % 24 < f 0 ∧ (otF f j - 11) / 24 < f 1 := a1
        omega⟩)]
  · rw [if_neg e, if_neg e]
theorem turnC (hV : VB f) {w : Wd} (hS : RS w 116 f) (hS0 : RS w 100 f) : ∃ w', p_X6_turnFlaws 116 100 w = some w' ∧ frm S0 (fun o => o = 118) w w' ∧ RS w' 116 (tuF f) := by
  have h1 := hV.c
  have h2 := hV.r
  have hcl : p_X5_clear 117 w = some (setR w 118 (fun j => if 0 ≤ j ∧ j < 12 then 0 else gA w 118 j)) := clear_eq (o := 117)
  have e11 : tcP f (11 + 24 * 0) = noF f := funext fun j => by
    unfold tcP noF
    by_cases e : 11 ≤ j ∧ j < 299
    · rw [if_pos e, if_pos e, if_neg (fun q => by
        have a4 := (ot_rc hV (j := j) ⟨e.1, q.1⟩).1.1
        omega)]
    · rw [if_neg e, if_neg e]
  have hS' : RS (setR w 118 (fun j => if 0 ≤ j ∧ j < 12 then 0 else gA w 118 j)) 116 (tcP f (11 + 24 * 0)) := by
    rw [e11]
    refine hS.of (fun i hi => if_neg (by omega)) hS.1.1 hS.1.2.1 hS.1.2.2.1 (fun _ _ _ => rfl) (fun _ => rfl) (fun d hd hd2 i => by rw [gA_setR, if_neg (by omega)]) (fun r r0 r1 i hi => ?_) (fun c r c0 c1 r0 r1 hh => ?_)
    · rw [gA_setR, if_pos rfl, if_pos ⟨r0, r1⟩, bI_0]
      by_cases e : i < 24
      · rw [show fcF (noF f) i r = 0 from if_pos (by omega)]; simp
      · rw [decide_eq_false e]; rfl
    · rw [show fcF (noF f) c r = 0 from if_pos (by omega)] at hh
      exact absurd hh (by decide)
  unfold p_X6_turnFlaws
  rw [hcl, Option.bind_some]
  obtain ⟨w1, a1, a2, a3, a4⟩ := loop_up (lp := fun m r w => p_X6_turnFlaws_9 116 100 m r w) (fin := some) (b := f 1) (I := fun r w' => 0 ≤ r ∧ frm S0 (fun o => o = 118) w w' ∧ RS w' 116 (tcP f (11 + 24 * r)))
    (fun m r w' hr hI => by
      obtain ⟨i0, i1, i2⟩ := hI
      have e1 : gF w' 116 1 = f 1 := i2.1.2.1.trans (tcP_n (by omega))
      simp (disch := omega) only [p_X6_turnFlaws_9, e1, lt32_o, hr, if_true]
      obtain ⟨w2, b1, b2', b3, b4⟩ := loop_up (lp := fun m' c w => p_X6_turnFlaws_19 116 100 (p_X6_turnFlaws_9 116 100 m) m' r c w) (fin := fun w => p_X6_turnFlaws_9 116 100 m (r + 1) w) (b := f 0) (I := fun c w2 => 0 ≤ c ∧ frm S0 (fun o => o = 118) w w2 ∧ RS w2 116 (tcP f (11 + 24 * r + c)))
        (fun m' c w2 hc hJ => by
          obtain ⟨j0, j1, j2⟩ := hJ
          have e0' : gF w2 116 0 = f 0 := j2.1.1.trans (tcP_n (by omega))
          have e1' : gF w2 116 1 = f 1 := j2.1.2.1.trans (tcP_n (by omega))
          have hS2 : RS w2 100 f := hS0.fr j1 (fun d k _ => id) (fun d _ => by omega)
          simp (disch := omega) only [p_X6_turnFlaws_19, e0', e1', lt32_o, hc, if_true]
          rw [cflaw_o SLo_0 hV hS2 ⟨by omega, by omega⟩ ⟨by omega, by omega⟩, Option.bind_some]
          dsimp only
          obtain ⟨w3, c1, c2, c3⟩ := mark_o SLo_1 (tcP_VB hV _) j2 (x := f 0 - 1 - c) (y := f 1 - 1 - r) (by
            unfold isCF
            rw [tcP_n (by omega), tcP_n (by omega)]
            exact decide_eq_true (by omega)) (flF f c r)
          rw [c1, Option.bind_some]
          refine ⟨w3, rfl, by omega, frm_trans j1 (frm_mono c2 (fun _ _ h => h) (fun o h => h)), ?_⟩
          rw [tc_step hV ⟨j0, hc⟩ ⟨i0, hr⟩] at c3
          rw [show 11 + 24 * r + (c + 1) = 11 + 24 * r + c + 1 by omega]; exact c3)
        (fun m' w2 hJ => by
          obtain ⟨j0, j1, j2⟩ := hJ
          have e0' : gF w2 116 0 = f 0 := j2.1.1.trans (tcP_n (by omega))
          simp (disch := omega) only [p_X6_turnFlaws_19, p_X6_turnFlaws_59, e0', lt32_o, Int.lt_irrefl, if_false])
        FU 0 w' (by omega) ⟨Int.le_refl _, i1, by rw [Int.add_zero]; exact i2⟩ (by have : FU = 1000000 := rfl; omega)
      exact ⟨w2, b1, by omega, b3, by rw [← tc_skip hV]; exact b4⟩)
    (fun m w' hI => by
      obtain ⟨i0, i1, i2⟩ := hI
      have e1 : gF w' 116 1 = f 1 := i2.1.2.1.trans (tcP_n (by omega))
      simp (disch := omega) only [p_X6_turnFlaws_9, e1, lt32_o, Int.lt_irrefl, if_false])
    FU 0 _ (by omega) ⟨Int.le_refl _, frm_setR (frm_refl w) rfl, hS'⟩ (by have : FU = 1000000 := rfl; omega)
  refine ⟨w1, a1, a3, ?_⟩
  have hK := hS.2.2.2.2.2.2
  have e : tcP f (11 + 24 * f 1) = tuF f := funext fun j => by
    unfold tcP tuF tuP
    by_cases d : 11 ≤ j ∧ j < 299
    · rw [if_pos d]
      by_cases g : (j - 11) % 24 < f 0 ∧ (j - 11) / 24 < f 1
      · obtain ⟨x1, x2, x3⟩ := ot_rc hV (j := j) ⟨d.1, g⟩
        have x4 : 11 ≤ otF f j ∧ (otF f j - 11) % 24 < f 0 ∧ (otF f j - 11) / 24 < f 1 := x1
        rw [if_pos ⟨g, by omega⟩, if_pos ⟨⟨d.1, g⟩, Or.inr (by omega)⟩]
      · rw [if_neg (fun q => g q.1), if_neg (fun q => g q.1.2)]
        rcases hV.fc (c := (j - 11) % 24) (r := (j - 11) / 24) (by omega) (by omega) (by omega) (by omega) with z | z
        · exact (show f j = 0 from (congrArg f (show j = 11 + 24 * ((j - 11) / 24) + (j - 11) % 24 by omega)).trans z).symm
        · have := of_decide_eq_true (hK _ _ (by omega) (by omega) (by omega) (by omega) z)
          exact absurd ⟨this.2.1, this.2.2.2⟩ g
    · rw [if_neg d, if_neg (by omega)]
  rw [← e]; exact a4
end TU
