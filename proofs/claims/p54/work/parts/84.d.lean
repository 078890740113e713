/-! ===== a word asked for ===== -/
theorem sch_r {i : Nat} (hi : i < 9) {j : Nat} (hj : j < slen i) : 0 ≤ sch i (j : Int) ∧ sch i (j : Int) ≤ 127 :=
  (by decide +kernel : ∀ i, i < 9 → ∀ j : Nat, j < slen i → 0 ≤ sch i (j : Int) ∧ sch i (j : Int) ≤ 127) i hi j hj
theorem slen_r {i : Nat} (hi : i < 9) : 1 ≤ slen i ∧ slen i ≤ 20 := (by decide +kernel : ∀ i, i < 9 → 1 ≤ slen i ∧ slen i ≤ 20) i hi
def eqW (B : Int → Int) (s : Int) (o : Nat) : Nat → Nat → Bool
  | 0, _ => true
  | n + 1, x => decide (B (s + x) = sch o (x : Int)) && eqW B s o n (x + 1)
theorem says_o {w : Wd} {B : Int → Int} {N s e : Int} (hC : TXC w B N) (h0 : 0 ≤ s ∧ s ≤ e ∧ e ≤ N) (h2 : gF w 8 2 = s) (h3 : gF w 8 3 = e - s) {o : Nat} (ho : o < 9) : p_X7_says o w = some (b2 (decide (e - s = (slen o : Nat)) && eqW B s o (slen o) 0), w) := by
  have hN := hC.2.1
  have hsl := slen_r ho
  have hFU : FU = 1000000 := rfl
  unfold p_X7_says
  rw [h3]
  by_cases c : e - s = ((slen o : Nat) : Int)
  · rw [if_pos (show eq32 (e - s) ((slen o : Nat) : Int) = true by rw [eq32_o (by omega)]; exact c), decide_eq_true c, Bool.true_and]
    have hl : ∀ (j n x : Nat), x + j = slen o → j < n → p_X7_says_15 o n (x : Int) w = some (b2 (eqW B s o j x), w) := by
      intro j
      induction j with
      | zero =>
        intro n x hx hn
        obtain ⟨n', rfl⟩ : ∃ n', n = n' + 1 := ⟨n - 1, by omega⟩
        simp only [p_X7_says_15]
        rw [if_neg (show ¬ lt32 (x : Int) ((slen o : Nat) : Int) = true by rw [lt32_o (by omega)]; omega)]
        rfl
      | succ j ih =>
        intro n x hx hn
        obtain ⟨n', rfl⟩ : ∃ n', n = n' + 1 := ⟨n - 1, by omega⟩
        have hb := (hC.2.2 (s + x) (by omega) (by omega)).2
        have hs := sch_r ho (show x < slen o by omega)
        simp only [p_X7_says_15]
        rw [if_pos (show lt32 (x : Int) ((slen o : Nat) : Int) = true by rw [lt32_o (by omega)]; omega), h2, at3_o hC ⟨by omega, by omega⟩, Option.bind_some]
        dsimp only
        rw [if_neg (by rw [inb_f (by omega)]; exact id)]
        by_cases g : B (s + x) = sch o (x : Int)
        · rw [if_pos (show eq32 (B (s + x)) (sch o (x : Int)) = true by rw [eq32_o (by omega)]; exact g)]
          unfold eqW
          rw [decide_eq_true g, Bool.true_and]
          exact ih n' (x + 1) (by omega) (by omega)
        · rw [if_neg (show ¬ eq32 (B (s + x)) (sch o (x : Int)) = true by rw [eq32_o (by omega)]; exact g)]
          unfold eqW
          rw [decide_eq_false g]; rfl
    exact hl (slen o) FU 0 (by omega) (by omega)
  · rw [if_neg (show ¬ eq32 (e - s) ((slen o : Nat) : Int) = true by rw [eq32_o (by omega)]; exact c), decide_eq_false c]
    rfl
