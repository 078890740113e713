theorem lm_t : ∀ o, o < 100 → lmain.getD o 0 ≤ 6594 := by decide +kernel
theorem ls_t : ∀ r, r < 16 → lslab.getD r 0 ≤ 6594 := by decide +kernel
theorem ln_max (o : Nat) : ln o ≤ 6594 := by
  unfold ln
  by_cases c : o < 100
  · rw [if_pos c]; exact lm_t o c
  · rw [if_neg c]; exact ls_t _ (by omega)
/-! ===== the pure side: rows ===== -/
def rng (x : Int) : Prop := -2147483648 ≤ x ∧ x < 2147483648
theorem lt32_r {a b : Int} (ha : rng a) (hb : rng b) : lt32 a b = decide (a < b) := by
  unfold lt32; rw [w32_id ha.1 ha.2, w32_id hb.1 hb.2]
theorem eq32_r {a b : Int} (ha : rng a) (hb : rng b) : eq32 a b = decide (a = b) := by
  unfold eq32; rw [w32_id ha.1 ha.2, w32_id hb.1 hb.2]
theorem rng_ln (o : Nat) : rng ((ln o : Nat) : Int) := ⟨by omega, by have := ln_lt o; omega⟩
theorem inb_t {i : Int} {n : Nat} (h : 0 ≤ i ∧ i < n) : inb i n = true := decide_eq_true h
/-- an array's whole content -/
def setR (w : Wd) (o : Nat) (f : Int → Int) : Wd := (w.1, fun a j => if a = o then f j else w.2.1 a j, w.2.2)
theorem gA_setR (w : Wd) (o : Nat) (f : Int → Int) (a : Nat) (j : Int) : gA (setR w o f) a j = if a = o then f j else gA w a j := rfl
theorem gF_setR (w : Wd) (o : Nat) (f : Int → Int) (a k : Nat) : gF (setR w o f) a k = gF w a k := rfl
theorem gP_setR (w : Wd) (o : Nat) (f : Int → Int) (a : Nat) (j : Int) : gP (setR w o f) a j = gP w a j := rfl
theorem setR_setR (w : Wd) (o : Nat) (f g : Int → Int) : setR (setR w o f) o g = setR w o g := by
  refine Prod.ext rfl (Prod.ext ?_ rfl)
  funext a j
  show (if a = o then g j else if a = o then f j else w.2.1 a j) = if a = o then g j else w.2.1 a j
  by_cases c : a = o
  · rw [if_pos c, if_pos c]
  · rw [if_neg c, if_neg c, if_neg c]
theorem setR_ext {w : Wd} {o : Nat} {f g : Int → Int} (h : ∀ j, f j = g j) : setR w o f = setR w o g := by rw [funext h]
theorem setR_self {w : Wd} {o : Nat} {f : Int → Int} (h : ∀ j, f j = gA w o j) : setR w o f = w := by
  refine Prod.ext rfl (Prod.ext ?_ rfl)
  funext a j
  show (if a = o then f j else w.2.1 a j) = w.2.1 a j
  by_cases c : a = o
  · rw [if_pos c, h, c]; rfl
  · rw [if_neg c]
theorem sA_setR (w : Wd) (o : Nat) (i v : Int) : sA w o i v = setR w o (fun j => if j = i then v else gA w o j) := by
  refine Prod.ext rfl (Prod.ext ?_ rfl)
  funext a j
  show (if a = o ∧ j = i then v else w.2.1 a j) = if a = o then (if j = i then v else gA w o j) else w.2.1 a j
  by_cases c : a = o
  · by_cases c2 : j = i
    · rw [if_pos ⟨c, c2⟩, if_pos c, if_pos c2]
    · rw [if_neg (fun h => c2 h.2), if_pos c, if_neg c2, c]; rfl
  · rw [if_neg (fun h => c h.1), if_neg c]
theorem at_eq {o : Nat} {x : Int} {w : Wd} (hx : rng x) : p_X5_at o x w = some (if 0 ≤ x ∧ x < (ln (o + 1) : Nat) then gA w (o + 1) x else 0, w) := by
  unfold p_X5_at
  rw [lt32_r hx ⟨by decide, by decide⟩, lt32_r hx (rng_ln _)]
  by_cases c : x < 0
  · rw [if_pos (decide_eq_true c), if_neg (by omega)]
  · rw [if_neg (by rw [decide_eq_true_iff]; exact c)]
    by_cases c2 : x < (ln (o + 1) : Nat)
    · rw [if_pos (decide_eq_true c2), inb_t ⟨by omega, c2⟩, if_neg (by decide), if_pos ⟨by omega, c2⟩]
    · rw [if_neg (by rw [decide_eq_true_iff]; exact c2), if_neg (by omega)]
theorem put_eq {o : Nat} {x v : Int} {w : Wd} (hx : rng x) : p_X5_put o x v w = some (if 0 ≤ x ∧ x < (ln (o + 1) : Nat) then sA w (o + 1) x v else w) := by
  unfold p_X5_put
  rw [lt32_r hx ⟨by decide, by decide⟩, lt32_r hx (rng_ln _)]
  by_cases c : x < 0
  · rw [if_pos (decide_eq_true c), if_neg (by omega)]
  · rw [if_neg (by rw [decide_eq_true_iff]; exact c)]
    by_cases c2 : x < (ln (o + 1) : Nat)
    · rw [if_pos (decide_eq_true c2), inb_t ⟨by omega, c2⟩, if_neg (by decide), if_pos ⟨by omega, c2⟩]
    · rw [if_neg (by rw [decide_eq_true_iff]; exact c2), if_neg (by omega)]
theorem clear_2 {o : Nat} : ∀ (n : Nat) (x : Int) (w : Wd), 0 ≤ x → x ≤ (ln (o + 1) : Nat) → (ln (o + 1) : Nat) - x < n →
    p_X5_clear_2 o n x w = some (setR w (o + 1) (fun j => if x ≤ j ∧ j < (ln (o + 1) : Nat) then 0 else gA w (o + 1) j)) := by
  intro n
  induction n with
  | zero => intro x w h0 h1 h2; exact absurd h2 (by omega)
  | succ n ih =>
    intro x w h0 h1 h2
    have hl := (rng_ln (o + 1)).2
    unfold p_X5_clear_2
    rw [lt32_r ⟨by omega, by omega⟩ (rng_ln _)]
    by_cases c : x < (ln (o + 1) : Nat)
    · rw [if_pos (decide_eq_true c), inb_t ⟨h0, c⟩, if_neg (by decide), ih (x + 1) _ (by omega) (by omega) (by omega), sA_setR, setR_setR]
      refine congrArg some (setR_ext fun j => ?_)
      rw [gA_setR, if_pos rfl]
      by_cases c1 : x + 1 ≤ j ∧ j < (ln (o + 1) : Nat)
      · rw [if_pos c1, if_pos ⟨by omega, c1.2⟩]
      · rw [if_neg c1]
        by_cases c2 : j = x
        · rw [if_pos c2, if_pos ⟨by omega, by omega⟩]
        · rw [if_neg c2, if_neg (by omega)]
    · rw [if_neg (by rw [decide_eq_true_iff]; exact c)]
      exact congrArg some (setR_self fun j => if_neg (by omega)).symm
theorem clear_eq {o : Nat} {w : Wd} : p_X5_clear o w = some (setR w (o + 1) (fun j => if 0 ≤ j ∧ j < (ln (o + 1) : Nat) then 0 else gA w (o + 1) j)) := by
  unfold p_X5_clear
  exact clear_2 FU 0 w (by decide) (by omega) (by
    have : ln (o + 1) ≤ 6594 := ln_max (o + 1)
    have : FU = 1000000 := rfl
    omega)
