/-! ===== the pure side: copies, the plain net ===== -/
theorem mn32_r {a b : Int} (ha : rng a) (hb : rng b) : mn32 a b = if b < a then b else a := by
  unfold mn32; rw [lt32_r hb ha]
  by_cases c : b < a
  · rw [if_pos (decide_eq_true c), if_pos c]
  · rw [if_neg (by rw [decide_eq_true_iff]; exact c), if_neg c]
theorem mx32_r {a b : Int} (ha : rng a) (hb : rng b) : mx32 a b = if a < b then b else a := by
  unfold mx32; rw [lt32_r ha hb]
  by_cases c : a < b
  · rw [if_pos (decide_eq_true c), if_pos c]
  · rw [if_neg (by rw [decide_eq_true_iff]; exact c), if_neg c]
theorem copy_16 {o0 o1 : Nat} (hne : o0 ≠ o1) : ∀ (n : Nat) (m x : Int) (w : Wd), 0 ≤ x → x ≤ m → m ≤ (ln (o0 + 1) : Nat) → m ≤ (ln (o1 + 1) : Nat) → m - x < n →
    p_X5_copy_16 o0 o1 n m x w = some (setR w (o0 + 1) (fun j => if x ≤ j ∧ j < m then gA w (o1 + 1) j else gA w (o0 + 1) j)) := by
  intro n
  induction n with
  | zero => intro m x w h0 h1 h2 h3 h4; exact absurd h4 (by omega)
  | succ n ih =>
    intro m x w h0 h1 h2 h3 h4
    have hl := (rng_ln (o0 + 1)).2
    unfold p_X5_copy_16
    rw [lt32_r ⟨by omega, by omega⟩ ⟨by omega, by omega⟩]
    by_cases c : x < m
    · rw [if_pos (decide_eq_true c), inb_t ⟨h0, by omega⟩, if_neg (by decide), inb_t ⟨h0, by omega⟩, if_neg (by decide), ih m (x + 1) _ (by omega) (by omega) h2 h3 (by omega), sA_setR, setR_setR]
      refine congrArg some (setR_ext fun j => ?_)
      rw [gA_setR, gA_setR, if_neg (show ¬ o1 + 1 = o0 + 1 by omega), if_pos (show o0 + 1 = o0 + 1 from rfl)]
      by_cases c1 : x + 1 ≤ j ∧ j < m
      · rw [if_pos c1, if_pos ⟨by omega, c1.2⟩]
      · rw [if_neg c1]
        by_cases c2 : j = x
        · rw [if_pos c2, if_pos ⟨by omega, by omega⟩, c2]
        · rw [if_neg c2, if_neg (by omega)]
    · rw [if_neg (by rw [decide_eq_true_iff]; exact c)]
      exact congrArg some (setR_self fun j => if_neg (by omega)).symm
theorem copy_eq {o0 o1 : Nat} {w : Wd} (hne : o0 ≠ o1) (hl : ln (o0 + 1) = ln (o1 + 1)) : p_X5_copy o0 o1 w = some (setR w (o0 + 1) (fun j => if 0 ≤ j ∧ j < (ln (o0 + 1) : Nat) then gA w (o1 + 1) j else gA w (o0 + 1) j)) := by
  unfold p_X5_copy
  rw [mn32_r (rng_ln _) (rng_ln _), hl, if_neg (by omega)]
  exact copy_16 hne FU _ 0 w (by decide) (by omega) (by omega) (by omega) (by
    have : ln (o1 + 1) ≤ 6594 := ln_max (o1 + 1)
    have : FU = 1000000 := rfl
    omega)
/-- the plain net, as an array -/
def plainR (f : Int → Int) : Int → Int := fun j => if j = 0 then 10 else if j = 1 then 4 else if j = 3 then 100 else if j = 4 then 10 else if j = 5 then 100 else if 0 ≤ j ∧ j < 1099 then 0 else f j
theorem lay22_eq {w : Wd} : p_X9_layPlain_22 w = some (setR w (gP w 50 3) (fun j => if j = 5 then 100 else if j = 4 then 10 else if j = 3 then 100 else if j = 1 then 4 else if j = 0 then 10 else gA w (gP w 50 3) j)) := by
  unfold p_X9_layPlain_22
  simp only [inb, Option.bind_some]
  simp only [sA_setR, gP_setR, setR_setR]
  exact congrArg some (setR_ext fun j => by simp only [gA_setR, if_true])
theorem lay2_eq : ∀ (n : Nat) (x : Int) (w : Wd), 0 ≤ x → x ≤ 1099 → 1099 - x < n →
    p_X9_layPlain_2 n x w = p_X9_layPlain_22 (setR w (gP w 50 3) (fun j => if x ≤ j ∧ j < 1099 then 0 else gA w (gP w 50 3) j)) := by
  intro n
  induction n with
  | zero => intro x w h0 h1 h2; exact absurd h2 (by omega)
  | succ n ih =>
    intro x w h0 h1 h2
    unfold p_X9_layPlain_2
    rw [lt32_r ⟨by omega, by omega⟩ ⟨by decide, by decide⟩]
    by_cases c : x < 1099
    · rw [if_pos (decide_eq_true c), inb_t ⟨h0, c⟩, if_neg (by decide), ih (x + 1) _ (by omega) (by omega) (by omega), sA_setR]
      simp only [gP_setR, setR_setR]
      refine congrArg _ (setR_ext fun j => ?_)
      rw [gA_setR, if_pos rfl]
      by_cases c1 : x + 1 ≤ j ∧ j < 1099
      · rw [if_pos c1, if_pos ⟨by omega, c1.2⟩]
      · rw [if_neg c1]
        by_cases c2 : j = x
        · rw [if_pos c2, if_pos ⟨by omega, by omega⟩]
        · rw [if_neg c2, if_neg (by omega)]
    · rw [if_neg (by rw [decide_eq_true_iff]; exact c)]
      exact congrArg _ (setR_self fun j => if_neg (by omega)).symm
theorem layPlain_eq {w : Wd} : p_X9_layPlain w = some (setR w (gP w 50 3) (plainR (gA w (gP w 50 3)))) := by
  unfold p_X9_layPlain
  rw [lay2_eq FU 0 w (by decide) (by decide) (by decide), lay22_eq]
  simp only [gP_setR, setR_setR]
  refine congrArg some (setR_ext fun j => ?_)
  rw [gA_setR, if_pos rfl]
  unfold plainR
  by_cases c5 : j = 5
  · subst c5; rfl
  by_cases c4 : j = 4
  · subst c4; rfl
  by_cases c3 : j = 3
  · subst c3; rfl
  by_cases c1 : j = 1
  · subst c1; rfl
  by_cases c0 : j = 0
  · subst c0; rfl
  rw [if_neg c5, if_neg c4, if_neg c3, if_neg c1, if_neg c0, if_neg c0, if_neg c1, if_neg c3, if_neg c4, if_neg c5]
/-- the model's world behind its constructor -/
def w9a : Wd := setR w9 51 (plainR (gA w9 51))
theorem lay_w9 : p_X9_layPlain w9 = some w9a := layPlain_eq
