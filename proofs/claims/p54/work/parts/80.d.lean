/-! ===== words of the text ===== -/
def kdB (b : Int) : Int := if 97 ≤ b ∧ b ≤ 122 then 1 else if 48 ≤ b ∧ b ≤ 57 then 2 else 3
def skF (B : Int → Int) (N : Int) : Nat → Int → Int
  | 0, p => p
  | n + 1, p => if p < N ∧ (B p = 32 ∨ B p = 10) then skF B N n (p + 1) else p
def enF (B : Int → Int) (N k : Int) : Nat → Int → Int
  | 0, p => p
  | n + 1, p => if p < N ∧ kdB (B p) = k then enF B N k n (p + 1) else p
/-- the text as the class holds it -/
def TXC (w : Wd) (B : Int → Int) (N : Int) : Prop := gF w 2 1 = N ∧ (0 ≤ N ∧ N ≤ 500) ∧ ∀ i, 0 ≤ i → i < N → gA w 4 i = B i ∧ 0 ≤ B i ∧ B i ≤ 255
theorem skF_rng {B : Int → Int} {N : Int} : ∀ (m : Nat) (p : Int), p ≤ N → p ≤ skF B N m p ∧ skF B N m p ≤ N := by
  intro m
  induction m with
  | zero => intro p h; exact ⟨Int.le_refl _, h⟩
  | succ m ih =>
    intro p h
    unfold skF
    by_cases c : p < N ∧ (B p = 32 ∨ B p = 10)
    · rw [if_pos c]; have := ih (p + 1) (by omega); omega
    · rw [if_neg c]; omega
theorem enF_rng {B : Int → Int} {N k : Int} : ∀ (m : Nat) (p : Int), p ≤ N → p ≤ enF B N k m p ∧ enF B N k m p ≤ N := by
  intro m
  induction m with
  | zero => intro p h; exact ⟨Int.le_refl _, h⟩
  | succ m ih =>
    intro p h
    unfold enF
    by_cases c : p < N ∧ kdB (B p) = k
    · rw [if_pos c]; have := ih (p + 1) (by omega); omega
    · rw [if_neg c]; omega
theorem kindC_b {b : Int} (h : 0 ≤ b ∧ b ≤ 255) {w : Wd} : p_X7_kindOf b w = some (kdB b, w) := by
  unfold p_X7_kindOf p_X7_kindOf_14 kdB
  simp (disch := omega) only [lt32_o]
  by_cases c1 : b < 97
  · rw [if_pos c1, if_neg (show ¬ (97 ≤ b ∧ b ≤ 122) by omega)]
    by_cases c2 : b < 48
    · rw [if_pos c2, if_neg (by omega)]
    · rw [if_neg c2]
      by_cases c3 : 57 < b
      · rw [if_pos c3, if_neg (by omega)]
      · rw [if_neg c3, if_pos (by omega)]
  · rw [if_neg c1]
    by_cases c2 : 122 < b
    · rw [if_pos c2, if_neg (show ¬ (97 ≤ b ∧ b ≤ 122) by omega), if_neg (show ¬ b < 48 by omega), if_pos (show 57 < b by omega), if_neg (by omega)]
    · rw [if_neg c2, if_pos (show 97 ≤ b ∧ b ≤ 122 by omega)]
theorem at3_o {w : Wd} {B : Int → Int} {N : Int} (h : TXC w B N) {x : Int} (hx : 0 ≤ x ∧ x < N) : p_X5_at 3 x w = some (B x, w) := by
  have h1 := h.2.1
  rw [at_in ⟨hx.1, by rw [show ln (3 + 1) = 500 from rfl]; omega⟩, (h.2.2 x hx.1 hx.2).1]
theorem skip_o {w : Wd} {B : Int → Int} {N : Int} (h : TXC w B N) : ∀ (m n : Nat) (x : Int), 0 ≤ x → x ≤ N → N - x ≤ m → m < n → p_X7_step_10 n x w = p_X7_step_59 (skF B N m x) w := by
  have h1 := h.1
  have h2 := h.2.1
  intro m
  induction m with
  | zero =>
    intro n x x0 x1 x2 hn
    obtain ⟨n', rfl⟩ : ∃ n', n = n' + 1 := ⟨n - 1, by omega⟩
    simp (disch := omega) only [p_X7_step_10, h1, lt32_o]
    rw [if_neg (by omega)]; rfl
  | succ m ih =>
    intro n x x0 x1 x2 hn
    obtain ⟨n', rfl⟩ : ∃ n', n = n' + 1 := ⟨n - 1, by omega⟩
    simp (disch := omega) only [p_X7_step_10, h1, lt32_o]
    unfold skF
    by_cases c : x < N
    · have hb := (h.2.2 x x0 c).2
      rw [if_pos c, at3_o h ⟨x0, c⟩, Option.bind_some]
      dsimp only
      rw [at3_o h ⟨x0, c⟩, Option.bind_some]
      dsimp only
      unfold p_X7_step_53
      simp (disch := omega) only [eq32_o]
      by_cases d : B x = 32
      · rw [if_pos d, if_pos ⟨c, Or.inl d⟩]; exact ih n' (x + 1) (by omega) (by omega) (by omega) (by omega)
      · rw [if_neg d]
        by_cases e : B x = 10
        · rw [if_pos e, if_pos ⟨c, Or.inr e⟩]; exact ih n' (x + 1) (by omega) (by omega) (by omega) (by omega)
        · rw [if_neg e, if_neg (by omega)]
    · rw [if_neg c, if_neg (fun q => c q.1)]
theorem run_o {w : Wd} {B : Int → Int} {N k : Int} (h : TXC w B N) (hk : gF w 8 1 = k) (hk3 : 1 ≤ k ∧ k ≤ 2) : ∀ (m n : Nat) (x : Int), 0 ≤ x → x ≤ N → N - x ≤ m → m < n → p_X7_step_107 n x w = p_X7_step_153 (enF B N k m x) w := by
  have h1 := h.1
  have h2 := h.2.1
  intro m
  induction m with
  | zero =>
    intro n x x0 x1 x2 hn
    obtain ⟨n', rfl⟩ : ∃ n', n = n' + 1 := ⟨n - 1, by omega⟩
    simp (disch := omega) only [p_X7_step_107, h1, lt32_o]
    rw [if_neg (by omega)]; rfl
  | succ m ih =>
    intro n x x0 x1 x2 hn
    obtain ⟨n', rfl⟩ : ∃ n', n = n' + 1 := ⟨n - 1, by omega⟩
    simp (disch := omega) only [p_X7_step_107, h1, hk, lt32_o, eq32_o]
    unfold enF
    by_cases c : x < N
    · have hb := (h.2.2 x x0 c).2
      have hkd : 1 ≤ kdB (B x) ∧ kdB (B x) ≤ 3 := by
        unfold kdB
        by_cases q : 97 ≤ B x ∧ B x ≤ 122
        · rw [if_pos q]; decide
        · rw [if_neg q]
          by_cases q2 : 48 ≤ B x ∧ B x ≤ 57
          · rw [if_pos q2]; decide
          · rw [if_neg q2]; decide
      rw [if_pos c, if_neg (show ¬ k = 3 by omega), at3_o h ⟨x0, c⟩, Option.bind_some]
      dsimp only
      rw [kindC_b hb, Option.bind_some]
      dsimp only
      rw [hk]
      by_cases d : kdB (B x) = k
      · rw [if_pos (show eq32 (kdB (B x)) k = true by rw [eq32_o (by omega)]; exact d), if_pos ⟨c, d⟩]; exact ih n' (x + 1) (by omega) (by omega) (by omega) (by omega)
      · rw [if_neg (show ¬ eq32 (kdB (B x)) k = true by rw [eq32_o (by omega)]; exact d), if_neg (fun q => d q.2)]
    · rw [if_neg c, if_neg (fun q => c q.1)]
def tkS (B : Int → Int) (N p : Int) : Int := skF B N 500 p
def tkK (B : Int → Int) (N p : Int) : Int := if tkS B N p < N then kdB (B (tkS B N p)) else 0
def tkE (B : Int → Int) (N p : Int) : Int := if tkS B N p < N then (if kdB (B (tkS B N p)) = 3 then tkS B N p + 1 else enF B N (kdB (B (tkS B N p))) 500 (tkS B N p + 1)) else tkS B N p
theorem kdB_rng (b : Int) : 1 ≤ kdB b ∧ kdB b ≤ 3 := by
  unfold kdB
  by_cases q : 97 ≤ b ∧ b ≤ 122
  · rw [if_pos q]; decide
  · rw [if_neg q]
    by_cases q2 : 48 ≤ b ∧ b ≤ 57
    · rw [if_pos q2]; decide
    · rw [if_neg q2]; decide
/-- the class takes the next token -/
theorem step_o {w : Wd} {B : Int → Int} {N p : Int} (h : TXC w B N) (hp : gF w 8 2 + gF w 8 3 = p) (h0 : 0 ≤ p ∧ p ≤ N) : p_X7_step w = some (sF (sF (sF w 8 2 (tkS B N p)) 8 1 (tkK B N p)) 8 3 (tkE B N p - tkS B N p)) := by
  have h1 := h.1
  have h2 := h.2.1
  have hs := skF_rng (B := B) 500 p h0.2
  have hS : TXC (sF w 8 2 (tkS B N p)) B N := h
  have hFU : FU = 1000000 := rfl
  unfold p_X7_step
  rw [hp, skip_o h 500 FU p h0.1 h0.2 (by omega) (by omega)]
  unfold p_X7_step_59
  rw [show skF B N 500 p = tkS B N p from rfl] at hs ⊢
  have e1 : gF (sF w 8 2 (tkS B N p)) 2 1 = N := h1
  rw [e1]
  simp (disch := omega) only [lt32_o]
  unfold tkK tkE
  by_cases c : tkS B N p < N
  · have hb := (h.2.2 _ (show 0 ≤ tkS B N p by omega) c).2
    have hkd := kdB_rng (B (tkS B N p))
    rw [if_pos c, if_pos c, if_pos c, at3_o hS ⟨by omega, c⟩, Option.bind_some]
    dsimp only
    rw [kindC_b hb, Option.bind_some]
    dsimp only
    have hT : TXC (sF (sF w 8 2 (tkS B N p)) 8 1 (kdB (B (tkS B N p)))) B N := h
    have hk : gF (sF (sF w 8 2 (tkS B N p)) 8 1 (kdB (B (tkS B N p)))) 8 1 = kdB (B (tkS B N p)) := by rw [gF_sF, if_pos ⟨rfl, rfl⟩]
    have h153 : ∀ e, p_X7_step_153 e (sF (sF w 8 2 (tkS B N p)) 8 1 (kdB (B (tkS B N p)))) = some (sF (sF (sF w 8 2 (tkS B N p)) 8 1 (kdB (B (tkS B N p)))) 8 3 (e - tkS B N p)) := fun e => by
      unfold p_X7_step_153
      rw [show gF (sF (sF w 8 2 (tkS B N p)) 8 1 (kdB (B (tkS B N p)))) 8 2 = tkS B N p by rw [gF_sF, if_neg (by decide), gF_sF, if_pos ⟨rfl, rfl⟩]]
    by_cases d : kdB (B (tkS B N p)) = 3
    · rw [if_pos d, ← h153]
      obtain ⟨n, hn⟩ : ∃ n, FU = n + 1 := ⟨999999, rfl⟩
      rw [hn]
      unfold p_X7_step_107
      rw [hk, hT.1, if_pos (show eq32 (kdB (B (tkS B N p))) 3 = true by rw [d]; decide +kernel)]
      by_cases g : lt32 (tkS B N p + 1) N = true
      · rw [if_pos g]
      · rw [if_neg g]
    · rw [if_neg d, ← h153]
      exact run_o hT hk (by omega) 500 FU _ (by omega) (by omega) (by omega) (by omega)
  · rw [if_neg c, if_neg c, if_neg c, Option.bind_some, Int.sub_self]
