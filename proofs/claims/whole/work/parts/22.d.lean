/-! ===== the pure side: one invariant is enough ===== -/
theorem law_run {R : Nat → Nat → Wd → Wd → Prop} {xs : Nat → Int32} {L : Nat} (hL : L ≤ 3072)
    (hstep : ∀ (k : Nat) (na : Nat) (wC wM : Wd), k < 512 → R k na wC wM → ∃ z, p_step xs (6 * (k : Int)) na wC wM = some z ∧ R (k + 1) z.1 z.2.1 z.2.2) :
    ∀ (n k : Nat) (i : Int) (na : Nat) (wC wM : Wd), i = 6 * (k : Int) → 6 * k ≤ L → L < 6 * k + 6 * n → R k na wC wM → p_law xs L n i na wC wM = some () := by
  intro n
  induction n with
  | zero => intro k i na wC wM hi h1 h2; exact absurd h2 (by omega)
  | succ n ih =>
    intro k i na wC wM hi h1 h2 hR
    unfold p_law
    rw [lt32_r ⟨by omega, by omega⟩ ⟨by omega, by omega⟩]
    by_cases c : (L : Int) - 6 < i
    · rw [if_pos (decide_eq_true c)]
    · rw [if_neg (by rw [decide_eq_true_iff]; exact c)]
      obtain ⟨z, hz, hR'⟩ := hstep k na wC wM (by omega) hR
      rw [hi, hz, Option.bind_some]
      exact ih (k + 1) _ z.1 z.2.1 z.2.2 (by omega) (by omega) (by omega) hR'
theorem main_of {R : Nat → Nat → Wd → Wd → Prop} (h0 : R 0 0 w8 w9a)
    (hstep : ∀ (xs : Nat → Int32) (k : Nat) (na : Nat) (wC wM : Wd), k < 512 → R k na wC wM → ∃ z, p_step xs (6 * (k : Int)) na wC wM = some z ∧ R (k + 1) z.1 z.2.1 z.2.2)
    (xs : Nat → Int32) (L : Nat) (hL : L ≤ 3072) : ∃ (w9' : Wd) (n : Nat), p_X9_layPlain w9 = some w9' ∧ p_law xs L n 0 0 w8 w9' = some () :=
  ⟨w9a, 513, lay_w9, law_run hL (hstep xs) 513 0 0 0 w8 w9a rfl (by omega) (by omega) h0⟩
