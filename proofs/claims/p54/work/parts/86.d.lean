/-! ===== asked on both sides ===== -/
theorem semi_iff {w m : Wd} {B : Int → Int} {N s e K : Int} (h : TKat w m B N s e K) : (decide (e - s = (slen 1 : Nat)) && eqW B s 1 (slen 1) 0) = decide (K = 3 ∧ B s = 59) := by
  obtain ⟨h1, h2, h3, h4, h5, h6⟩ := h
  have e1 : slen 1 = 1 := by decide +kernel
  have e2 : sch 1 ((0 : Nat) : Int) = 59 := by decide +kernel
  have e3 : eqW B s 1 (slen 1) 0 = decide (B s = 59) := by
    rw [e1]
    show (decide (B (s + ((0 : Nat) : Int)) = sch 1 ((0 : Nat) : Int)) && true) = _
    rw [e2, Bool.and_true, show s + ((0 : Nat) : Int) = s by omega]
  rw [e3, e1, ← Bool.decide_and]
  refine decide_eq_decide.mpr ⟨fun q => ?_, fun q => ?_⟩
  · rcases h4 with h4 | h4
    · exact absurd q.1 (by omega)
    · refine ⟨?_, q.2⟩
      rw [h4.2.2.2.1, q.2]; decide +kernel
  · rcases h4 with h4 | h4
    · exact absurd q.1 (by omega)
    · have := h4.2.2.2.2.2 q.1
      exact ⟨by omega, q.2⟩
theorem comma_iff {w m : Wd} {B : Int → Int} {N s e K : Int} (h : TKat w m B N s e K) : (decide (e - s = (slen 3 : Nat)) && eqW B s 3 (slen 3) 0) = decide (K = 3 ∧ B s = 44) := by
  obtain ⟨h1, h2, h3, h4, h5, h6⟩ := h
  have e1 : slen 3 = 1 := by decide +kernel
  have e2 : sch 3 ((0 : Nat) : Int) = 44 := by decide +kernel
  have e3 : eqW B s 3 (slen 3) 0 = decide (B s = 44) := by
    rw [e1]
    show (decide (B (s + ((0 : Nat) : Int)) = sch 3 ((0 : Nat) : Int)) && true) = _
    rw [e2, Bool.and_true, show s + ((0 : Nat) : Int) = s by omega]
  rw [e3, e1, ← Bool.decide_and]
  refine decide_eq_decide.mpr ⟨fun q => ?_, fun q => ?_⟩
  · rcases h4 with h4 | h4
    · exact absurd q.1 (by omega)
    · refine ⟨?_, q.2⟩
      rw [h4.2.2.2.1, q.2]; decide +kernel
  · rcases h4 with h4 | h4
    · exact absurd q.1 (by omega)
    · have := h4.2.2.2.2.2 q.1
      exact ⟨by omega, q.2⟩
theorem word_iff {w m : Wd} {B : Int → Int} {N s e K : Int} (h : TKat w m B N s e K) {o : Nat} (ho : o < 9) (h1 : o ≠ 1 ∧ o ≠ 3) : (decide (e - s = (slen o : Nat)) && eqW B s o (slen o) 0) = (decide (K = 1) && (decide (e - s = (slen o : Nat)) && eqW B s o (slen o) 0)) := by
  obtain ⟨g1, g2, g3, g4, g5, g6⟩ := h
  have hsl := slen_r ho
  by_cases c : K = 1
  · rw [decide_eq_true c, Bool.true_and]
  · rw [decide_eq_false c, Bool.false_and]
    by_cases d : e - s = ((slen o : Nat) : Int)
    · rw [decide_eq_true d, Bool.true_and]
      obtain ⟨n, hn⟩ : ∃ n, slen o = n + 1 := ⟨slen o - 1, by omega⟩
      rw [hn]
      unfold eqW
      have hk : kdB (sch o ((0 : Nat) : Int)) = 1 := (by decide +kernel : ∀ o, o < 9 → (o ≠ 1 ∧ o ≠ 3) → kdB (sch o ((0 : Nat) : Int)) = 1) o ho h1
      have hne : ¬ B (s + ((0 : Nat) : Int)) = sch o ((0 : Nat) : Int) := fun q => by
        rw [show s + ((0 : Nat) : Int) = s by omega] at q
        rcases g4 with g4 | g4
        · omega
        · exact c (by rw [g4.2.2.2.1, q]; exact hk)
      rw [decide_eq_false hne, Bool.false_and]
    · rw [decide_eq_false d, Bool.false_and]
