/-! ===== the pure side: a slab of the class, told as the model's row ===== -/
def RS (w : Wd) (o : Nat) (f : Rw) : Prop :=
  (gF w o 0 = f 0 ∧ gF w o 1 = f 1 ∧ gF w o 2 = f 2 ∧ gF w o 4 = f 9 ∧ gF w o 7 = f 10 ∧ gF w o 11 = f 8) ∧
  (gF w (o + 11) 0 = f 3 ∧ gF w (o + 11) 1 = f 4 ∧ gF w (o + 11) 2 = f 5 ∧ gF w (o + 11) 3 = f 6 ∧ gF w (o + 11) 4 = f 7) ∧
  (∀ r, 0 ≤ r → r < 12 → ∀ i : Nat, i < 32 → bI (gA w (o + 2) r) i = (decide (i < 24) && decide (fcF f i r = 1))) ∧
  (∀ p, 0 ≤ p → p < f 9 → gA w (o + 4) p = pkF f p ∧ gA w (o + 6) p = psF f p) ∧
  (∀ v, 0 ≤ v → v < f 10 → gA w (o + 8) v = wnF f v) ∧
  (∀ v k, 0 ≤ v → v < f 10 → 0 ≤ k → k < wnF f v → gA w (o + 10) (v * 12 + k) = wbF f v k) ∧
  (∀ c r, 0 ≤ c → c < 24 → 0 ≤ r → r < 12 → fcF f c r = 1 → isCF f c r = true)
/-- an object that is a slab -/
def SLo (o : Nat) : Prop := ∃ j, o = sl j
theorem SLo.l2 {o : Nat} (h : SLo o) : ln (o + 2) = 12 := by obtain ⟨j, rfl⟩ := h; exact ln_off j 2 (by decide)
theorem SLo.l4 {o : Nat} (h : SLo o) : ln (o + 4) = 10 := by obtain ⟨j, rfl⟩ := h; exact ln_off j 4 (by decide)
theorem SLo.l6 {o : Nat} (h : SLo o) : ln (o + 6) = 10 := by obtain ⟨j, rfl⟩ := h; exact ln_off j 6 (by decide)
theorem SLo.l8 {o : Nat} (h : SLo o) : ln (o + 8) = 60 := by obtain ⟨j, rfl⟩ := h; exact ln_off j 8 (by decide)
theorem SLo.l10 {o : Nat} (h : SLo o) : ln (o + 10) = 720 := by obtain ⟨j, rfl⟩ := h; exact ln_off j 10 (by decide)
theorem SLo_0 : SLo 100 := ⟨0, rfl⟩
theorem SLo_1 : SLo 116 := ⟨1, rfl⟩
/-- a frame keeps what is told of a slab that it doesn't reach -/
theorem RS.keep {w w' : Wd} {o : Nat} {f : Rw} (h : RS w o f) (hF : ∀ k, gF w' o k = gF w o k) (hC : ∀ k, gF w' (o + 11) k = gF w (o + 11) k) (hA : ∀ d, d < 12 → ∀ i, gA w' (o + d) i = gA w (o + d) i) : RS w' o f := by
  obtain ⟨h1, h2, h3, h4, h5, h6, h7⟩ := h
  refine ⟨?_, ?_, ?_, ?_, ?_, ?_, h7⟩
  · simp only [hF]; exact h1
  · simp only [hC]; exact h2
  · intro r a b i hi; rw [hA 2 (by decide)]; exact h3 r a b i hi
  · intro p a b; rw [hA 4 (by decide), hA 6 (by decide)]; exact h4 p a b
  · intro p a b; rw [hA 8 (by decide)]; exact h5 p a b
  · intro p k a b c d; rw [hA 10 (by decide)]; exact h6 p k a b c d
section C9
variable {f : Rw} {w : Wd} {o : Nat}
theorem at_in {o : Nat} {x : Int} {w : Wd} (h : 0 ≤ x ∧ x < (ln (o + 1) : Nat)) : p_X5_at o x w = some (gA w (o + 1) x, w) := by
  have := ln_lt (o + 1)
  rw [at_eq ⟨by omega, by omega⟩, if_pos h]
theorem put_in {o : Nat} {x v : Int} {w : Wd} (h : 0 ≤ x ∧ x < (ln (o + 1) : Nat)) : p_X5_put o x v w = some (sA w (o + 1) x v) := by
  have := ln_lt (o + 1)
  rw [put_eq ⟨by omega, by omega⟩, if_pos h]
/-- a slab's mask of flaws, 0 beyond -/
def mkC (w : Wd) (o : Nat) (r : Int) : Int := if 0 ≤ r ∧ r < 12 then gA w (o + 2) r else 0
theorem atM_o (ho : SLo o) {r : Int} (hr : rng r) : p_X5_at (o + 1) r w = some (mkC w o r, w) := by
  rw [at_eq hr, show ln (o + 1 + 1) = 12 from ho.l2]; rfl
theorem mkC_b (hS : RS w o f) {r : Int} {i : Nat} (hi : i < 32) : bI (mkC w o r) i = (decide (0 ≤ r ∧ r < 12) && (decide (i < 24) && decide (fcF f i r = 1))) := by
  unfold mkC
  by_cases c : 0 ≤ r ∧ r < 12
  · rw [if_pos c, decide_eq_true c, Bool.true_and]; exact hS.2.2.1 r c.1 c.2 i hi
  · rw [if_neg c, decide_eq_false c, Bool.false_and]; exact bI_0 i
theorem fl_bit (hV : VB f) (hK : ∀ c r, 0 ≤ c → c < 24 → 0 ≤ r → r < 12 → fcF f c r = 1 → isCF f c r = true) {i : Nat} {r : Int} : (decide (0 ≤ r ∧ r < 12) && (decide (i < 24) && decide (fcF f i r = 1))) = flF f i r := by
  have h1 := hV.c
  have h2 := hV.r
  unfold flF
  by_cases c : isCF f i r = true
  · have c2 : 0 ≤ (i : Int) ∧ (i : Int) < f 0 ∧ 0 ≤ r ∧ r < f 1 := of_decide_eq_true c
    rw [c, decide_eq_true (by omega), decide_eq_true (by omega)]; rfl
  · by_cases c2 : 0 ≤ r ∧ r < 12
    · by_cases c3 : i < 24
      · rcases hV.fc (c := i) (r := r) (by omega) (by omega) c2.1 c2.2 with h | h
        · rw [decide_eq_false (p := fcF f i r = 1) (by rw [h]; decide)]; simp
        · exact absurd (hK i r (by omega) (by omega) c2.1 c2.2 h) c
      · rw [decide_eq_false c3, bfF c]; simp
    · rw [decide_eq_false c2, bfF c]; rfl
theorem mkC_f (hV : VB f) (hS : RS w o f) {r : Int} {i : Nat} (hi : i < 32) : bI (mkC w o r) i = flF f i r := (mkC_b hS hi).trans (fl_bit hV hS.2.2.2.2.2.2)
theorem cflaw_o (ho : SLo o) (hV : VB f) (hS : RS w o f) {x y : Int} (hx : rng x) (hy : rng y) : p_X6_flawed o x y w = some (b2 (flF f x y), w) := by
  have h1 := hV.c
  have h2 := hV.r
  have e0 : gF w o 0 = f 0 := hS.1.1
  have e1 : gF w o 1 = f 1 := hS.1.2.1
  have hF : ∀ x1 x2, p_X6_flawed_28 o x1 x2 w = some (0, w) := by
    intro x1 x2; unfold p_X6_flawed_28 p_X6_flawed_29; rw [if_pos e00]
  unfold rng at hx hy
  unfold p_X6_flawed
  simp (disch := omega) only [lt32_o, hF, e0, e1]
  by_cases c : isCF f x y = true
  · have c2 : 0 ≤ x ∧ x < f 0 ∧ 0 ≤ y ∧ y < f 1 := of_decide_eq_true c
    rw [if_neg (by omega), if_pos (by omega), if_neg (by omega), if_pos (by omega)]
    unfold p_X6_flawed_29
    rw [if_neg e10, atM_o ho ⟨by omega, by omega⟩, Option.bind_some]
    obtain ⟨n, rfl⟩ := Int.eq_ofNat_of_zero_le c2.1
    show (if eq32 (an32 (sr32 (mkC w o y) n) 1) 1 = true then _ else _) = _
    rw [an1_o, bI_sr0 _ (by omega), mkC_f hV hS (by omega)]
    cases flF f n y <;> rfl
  · have c2 : ¬ (0 ≤ x ∧ x < f 0 ∧ 0 ≤ y ∧ y < f 1) := fun h => c (decide_eq_true h)
    rw [show flF f x y = false by unfold flF; rw [bfF c]; rfl]
    show _ = some (0, w)
    by_cases d1 : x < 0
    · rw [if_pos d1]
    · rw [if_neg d1]
      by_cases d2 : x < f 0
      · rw [if_pos d2]
        by_cases d3 : y < 0
        · rw [if_pos d3]
        · rw [if_neg d3, if_neg (by omega)]
      · rw [if_neg d2]
theorem touch_o (ho : SLo o) (hV : VB f) (hS : RS w o f) {x y : Int} (hx : 0 ≤ x ∧ x < 24) (hy : 0 ≤ y ∧ y < 12) : p_X6_touched o x y w = some (b2 (flF f (x - 1) y || flF f (x + 1) y || flF f x (y - 1) || flF f x (y + 1)), w) := by
  unfold p_X6_touched
  rw [atM_o ho ⟨by omega, by omega⟩, Option.bind_some]
  show ((p_X5_at (o + 1) (y - 1) w).bind _) = _
  rw [atM_o ho ⟨by omega, by omega⟩, Option.bind_some]
  show ((p_X5_at (o + 1) (y + 1) w).bind _) = _
  rw [atM_o ho ⟨by omega, by omega⟩, Option.bind_some]
  show (if eq32 (an32 (sr32 (or32 (or32 (or32 (sl32 (mkC w o y) 1) (sr32 (mkC w o y) 1)) (mkC w o (y - 1))) (mkC w o (y + 1))) x) 1) 1 = true then _ else _) = _
  obtain ⟨n, rfl⟩ := Int.eq_ofNat_of_zero_le hx.1
  rw [an1_o, bI_sr0 _ (by omega), bI_or, bI_or, bI_or, bI_sl _ (by decide) (by omega), bI_sr _ (by decide) (by omega)]
  rw [show (if (1 : Int).toNat + n < 32 then bI (mkC w o y) ((1 : Int).toNat + n) else bI (mkC w o y) 31) = flF f (n + 1 : Int) y by
    rw [if_pos (by show 1 + n < 32; omega), mkC_f hV hS (by show 1 + n < 32; omega)]
    rw [show (((1 : Int).toNat + n : Nat) : Int) = (n : Int) + 1 by show ((1 + n : Nat) : Int) = _; omega]]
  rw [show (decide ((1 : Int) ≤ (n : Nat)) && bI (mkC w o y) (n - (1 : Int).toNat)) = flF f (n - 1 : Int) y by
    by_cases c : 1 ≤ n
    · rw [decide_eq_true (by omega), Bool.true_and, mkC_f hV hS (by omega), show ((n - (1 : Int).toNat : Nat) : Int) = (n : Int) - 1 by show ((n - 1 : Nat) : Int) = _; omega]
    · rw [decide_eq_false (by omega), Bool.false_and]
      unfold flF isCF
      rw [decide_eq_false (by omega)]; rfl]
  rw [mkC_f hV hS (r := y - 1) (by omega), mkC_f hV hS (r := y + 1) (by omega)]
  generalize (flF f (n - 1 : Int) y || flF f (n + 1 : Int) y || flF f n (y - 1) || flF f n (y + 1)) = b
  cases b <;> rfl
theorem kindC_o (ho : SLo o) (hV : VB f) (hS : RS w o f) {p : Int} (h : 0 ≤ p ∧ p < f 9) : p_X5_at (o + 3) p w = some (pkF f p, w) := by
  have := hV.p
  rw [at_in ⟨h.1, by rw [show ln (o + 3 + 1) = 10 from ho.l4]; omega⟩]
  exact congrArg (fun x => some (x, w)) (hS.2.2.2.1 p h.1 h.2).1
theorem sizeC_o (ho : SLo o) (hV : VB f) (hS : RS w o f) {p : Int} (h : 0 ≤ p ∧ p < f 9) : p_X5_at (o + 5) p w = some (psF f p, w) := by
  have := hV.p
  rw [at_in ⟨h.1, by rw [show ln (o + 5 + 1) = 10 from ho.l6]; omega⟩]
  exact congrArg (fun x => some (x, w)) (hS.2.2.2.1 p h.1 h.2).2
theorem lenC_o (ho : SLo o) (hV : VB f) (hS : RS w o f) {v : Int} (h : 0 ≤ v ∧ v < f 10) : p_X5_at (o + 7) v w = some (wnF f v, w) := by
  have := hV.w
  rw [at_in ⟨h.1, by rw [show ln (o + 7 + 1) = 60 from ho.l8]; omega⟩]
  exact congrArg (fun x => some (x, w)) (hS.2.2.2.2.1 v h.1 h.2)
theorem byteC_o (ho : SLo o) (hV : VB f) (hS : RS w o f) {v k : Int} (h : 0 ≤ v ∧ v < f 10) (hk : 0 ≤ k ∧ k < wnF f v) : p_X6_byteOf o v k w = some (wbF f v k, w) := by
  have h1 := hV.w
  have h2 := hV.wn h.1 h.2
  unfold p_X6_byteOf
  rw [at_in ⟨by omega, by rw [show ln (o + 9 + 1) = 720 from ho.l10]; omega⟩, Option.bind_some]
  exact congrArg (fun x => some (x, w)) (hS.2.2.2.2.2.1 v k h.1 h.2 hk.1 hk.2)
theorem firstC_o (ho : SLo o) (hV : VB f) (hS : RS w o f) {p : Int} (h : 0 ≤ p ∧ p ≤ f 9) : p_X6_firstOf o p w = some (firF f p, w) := by
  have h9 := hV.p
  have h := sum_loop (lp := fun n x s => p_X6_firstOf_4 o n p s x w) (g := psF f) (b := p) (w := w) (fun n x s h0 h1 => by
      show p_X6_firstOf_4 o (n + 1) p s x w = p_X6_firstOf_4 o n p (s + psF f x) (x + 1) w
      simp (disch := omega) only [p_X6_firstOf_4, lt32_o, h1, if_true]
      rw [sizeC_o ho hV hS ⟨h0, by omega⟩, Option.bind_some])
    (fun n x s h0 => by
      subst h0
      show p_X6_firstOf_4 o (n + 1) x s x w = some (s, w)
      simp (disch := omega) only [p_X6_firstOf_4, lt32_o, Int.lt_irrefl, if_false]) FU 0 0 (by decide) h.1 (by have : FU = 1000000 := rfl; omega)
  unfold p_X6_firstOf
  refine h.trans (congrArg some (Prod.ext ?_ rfl))
  show 0 + (sm _ p.toNat - 0) = sm _ p.toNat
  omega
theorem aheadC_o (ho : SLo o) (hV : VB f) (hS : RS w o f) {p : Int} (h : 0 ≤ p ∧ p ≤ f 10) : p_X6_lettersAhead o p w = some (laF f p, w) := by
  have h9 := hV.w
  have h := sum_loop (lp := fun n x s => p_X6_lettersAhead_4 o n p s x w) (g := wnF f) (b := p) (w := w) (fun n x s h0 h1 => by
      show p_X6_lettersAhead_4 o (n + 1) p s x w = p_X6_lettersAhead_4 o n p (s + wnF f x) (x + 1) w
      simp (disch := omega) only [p_X6_lettersAhead_4, lt32_o, h1, if_true]
      rw [lenC_o ho hV hS ⟨h0, by omega⟩, Option.bind_some])
    (fun n x s h0 => by
      subst h0
      show p_X6_lettersAhead_4 o (n + 1) x s x w = some (s, w)
      simp (disch := omega) only [p_X6_lettersAhead_4, lt32_o, Int.lt_irrefl, if_false]) FU 0 0 (by decide) h.1 (by have : FU = 1000000 := rfl; omega)
  unfold p_X6_lettersAhead
  refine h.trans (congrArg some (Prod.ext ?_ rfl))
  show 0 + (sm _ p.toNat - 0) = sm _ p.toNat
  omega
end C9
