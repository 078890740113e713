theorem good_o {w : Wd} (h : gF w 50 24 = 0) : p_X9_good w = some (1, w) := by
  unfold p_X9_good
  rw [h, if_pos e00]
theorem isWord_o {w : Wd} {B : Int → Int} {N s e K : Int} (hM : TXM w B N) (h0 : 0 ≤ s ∧ s ≤ e ∧ e ≤ N) (h21 : gF w 50 21 = s) (h20 : gF w 50 20 = e) (h22 : gF w 50 22 = K) (hK : 0 ≤ K ∧ K ≤ 3) (hg : gF w 50 24 = 0) {o : Nat} (ho : o < 9) :
    p_X9_isWord o w = some (b2 (decide (K = 1) && (decide (e - s = (slen o : Nat)) && eqW B s o (slen o) 0)), w) := by
  have hN := hM.2.1
  have hsl := slen_r ho
  have hFU : FU = 1000000 := rfl
  have h00 : ∀ (n : Nat) (x : Int), 0 ≤ x → x ≤ 100 → p_X9_isWord_39 o (n + 1) 0 x w = some (b2 false, w) := fun n x x0 x1 => by
    simp only [p_X9_isWord_39]
    by_cases c : lt32 x ((slen o : Nat) : Int) = true
    · rw [if_pos c, if_pos e00]; exact zr_b2 false w
    · rw [if_neg c]; exact zr_b2 false w
  have hz : p_X9_isWord_36 o 0 w = some (b2 false, w) := by
    unfold p_X9_isWord_36
    obtain ⟨n, hn⟩ : ∃ n, FU = n + 1 := ⟨999999, rfl⟩
    rw [hn]; exact h00 n 0 (Int.le_refl _) (by decide)
  unfold p_X9_isWord p_X9_isWord_35
  rw [good_o hg, Option.bind_some]
  dsimp only
  rw [if_neg (show ¬ eq32 1 0 = true by decide +kernel), h22, h20, h21, hz]
  by_cases cK : K = 1
  · rw [if_pos (show eq32 K 1 = true by rw [eq32_o (by omega)]; exact cK), decide_eq_true cK, Bool.true_and]
    by_cases c : e - s = ((slen o : Nat) : Int)
    · rw [if_pos (show eq32 (e - s) ((slen o : Nat) : Int) = true by rw [eq32_o (by omega)]; exact c), decide_eq_true c, Bool.true_and]
      have hl : ∀ (j n x : Nat), x + j = slen o → j < n → p_X9_isWord_39 o n 1 (x : Int) w = some (b2 (eqW B s o j x), w) := by
        intro j
        induction j with
        | zero =>
          intro n x hx hn
          obtain ⟨n', rfl⟩ : ∃ n', n = n' + 1 := ⟨n - 1, by omega⟩
          simp only [p_X9_isWord_39]
          rw [if_neg (show ¬ lt32 (x : Int) ((slen o : Nat) : Int) = true by rw [lt32_o (by omega)]; omega)]
          exact zr_b2 true w
        | succ j ih =>
          intro n x hx hn
          obtain ⟨n', rfl⟩ : ∃ n', n = n' + 1 := ⟨n - 1, by omega⟩
          have hb := hM.2.2 (s + x) (by omega) (by omega)
          have hs := sch_r ho (show x < slen o by omega)
          have hi : (i8 (B (s + x)) = sch o (x : Int)) ↔ B (s + x) = sch o (x : Int) := by
            have hv : i8 (B (s + x)) = if B (s + x) < 128 then B (s + x) else B (s + x) - 256 := by
              unfold i8
              simp only [Int.bmod_def]
              by_cases q : B (s + x) < 128
              · rw [if_pos q]; omega
              · rw [if_neg q]; omega
            rw [hv]
            by_cases q : B (s + x) < 128
            · rw [if_pos q]
            · rw [if_neg q]; exact ⟨fun h => by omega, fun h => by omega⟩
          have hr : -128 ≤ i8 (B (s + x)) ∧ i8 (B (s + x)) ≤ 127 := by
            unfold i8
            simp only [Int.bmod_def]
            omega
          simp only [p_X9_isWord_39]
          rw [if_pos (show lt32 (x : Int) ((slen o : Nat) : Int) = true by rw [lt32_o (by omega)]; omega), if_neg (show ¬ eq32 1 0 = true by decide +kernel), h21, if_neg (by rw [inb_f (by omega)]; exact id), if_neg (by rw [inb_f (by omega)]; exact id), hb.1]
          unfold p_X9_isWord_75
          by_cases g : B (s + x) = sch o (x : Int)
          · rw [if_pos (show eq32 (i8 (B (s + x))) (sch o (x : Int)) = true by rw [eq32_o (by omega)]; exact hi.mpr g)]
            unfold eqW
            rw [decide_eq_true g, Bool.true_and]
            exact ih n' (x + 1) (by omega) (by omega)
          · rw [if_neg (show ¬ eq32 (i8 (B (s + x))) (sch o (x : Int)) = true by rw [eq32_o (by omega)]; exact fun q => g (hi.mp q))]
            unfold eqW
            rw [decide_eq_false g, Bool.false_and]
            obtain ⟨n'', rfl⟩ : ∃ n'', n' = n'' + 1 := ⟨n' - 1, by omega⟩
            exact h00 n'' ((x : Int) + 1) (by omega) (by omega)
      exact hl (slen o) FU 0 (by omega) (by omega)
    · rw [if_neg (show ¬ eq32 (e - s) ((slen o : Nat) : Int) = true by rw [eq32_o (by omega)]; exact c), decide_eq_false c]
      rfl
  · rw [if_neg (show ¬ eq32 K 1 = true by rw [eq32_o (by omega)]; exact cK), decide_eq_false cK]
    rfl
