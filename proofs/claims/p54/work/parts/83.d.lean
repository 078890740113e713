/-! ===== the token that both sides stand at ===== -/
theorem enF_k {B : Int → Int} {N k : Int} : ∀ (m : Nat) (x i : Int), x ≤ i → i < enF B N k m x → kdB (B i) = k := by
  intro m
  induction m with
  | zero => intro x i a b; have b' : i < x := b; omega
  | succ m ih =>
    intro x i a b
    unfold enF at b
    by_cases c : x < N ∧ kdB (B x) = k
    · rw [if_pos c] at b
      by_cases d : i = x
      · rw [d]; exact c.2
      · exact ih (x + 1) i (by omega) b
    · rw [if_neg c] at b; omega
def TKat (w m : Wd) (B : Int → Int) (N s e K : Int) : Prop :=
  (0 ≤ s ∧ s ≤ e ∧ e ≤ N) ∧ (gF w 8 2 = s ∧ gF w 8 3 = e - s ∧ gF w 8 1 = K) ∧ (gF m 50 21 = s ∧ gF m 50 20 = e ∧ gF m 50 22 = K) ∧
  ((K = 0 ∧ s = N ∧ e = s) ∨ (1 ≤ K ∧ K ≤ 3 ∧ s < e ∧ K = kdB (B s) ∧ (K ≠ 3 → ∀ i, s ≤ i → i < e → kdB (B i) = K) ∧ (K = 3 → e = s + 1))) ∧
  (K = 2 → gF m 50 23 = min 9999 (vC B s (e - s).toNat)) ∧ (K = 3 → gF m 50 23 = B s)
theorem tk_spec {B : Int → Int} {N p : Int} (h0 : 0 ≤ p ∧ p ≤ N) : (0 ≤ tkS B N p ∧ tkS B N p ≤ tkE B N p ∧ tkE B N p ≤ N) ∧
    ((tkK B N p = 0 ∧ tkS B N p = N ∧ tkE B N p = tkS B N p) ∨ (1 ≤ tkK B N p ∧ tkK B N p ≤ 3 ∧ tkS B N p < tkE B N p ∧ tkK B N p = kdB (B (tkS B N p)) ∧ (tkK B N p ≠ 3 → ∀ i, tkS B N p ≤ i → i < tkE B N p → kdB (B i) = tkK B N p) ∧ (tkK B N p = 3 → tkE B N p = tkS B N p + 1))) := by
  have hs := skF_rng (B := B) 500 p h0.2
  rw [show skF B N 500 p = tkS B N p from rfl] at hs
  unfold tkK tkE
  generalize tkS B N p = s at *
  by_cases c : s < N
  · have hk := kdB_rng (B s)
    rw [if_pos c, if_pos c]
    by_cases d : kdB (B s) = 3
    · rw [if_pos d]
      exact ⟨by omega, Or.inr ⟨hk.1, hk.2, by omega, rfl, fun q => absurd d q, fun _ => rfl⟩⟩
    · rw [if_neg d]
      have he := enF_rng (B := B) (k := kdB (B s)) 500 (s + 1) (show s + 1 ≤ N by omega)
      refine ⟨by omega, Or.inr ⟨hk.1, hk.2, by omega, rfl, fun _ i i0 i1 => ?_, fun q => absurd q d⟩⟩
      by_cases g : i = s
      · rw [g]
      · exact enF_k 500 (s + 1) i (by omega) i1
  · rw [if_neg c, if_neg c]
    exact ⟨by omega, Or.inl ⟨rfl, by omega, rfl⟩⟩
/-- both sides go on to the next token -/
theorem next_o {w m : Wd} {B : Int → Int} {N p : Int} (hC : TXC w B N) (hM : TXM m B N) (h0 : 0 ≤ p ∧ p ≤ N) (hp : gF w 8 2 + gF w 8 3 = p) (hq : gF m 50 20 = p) :
    ∃ w' m', p_X7_step w = some w' ∧ p_X9_scan m = some m' ∧ frm (fun o _ => o = 8) T0 w w' ∧ frm Ssc T0 m m' ∧ TKat w' m' B N (tkS B N p) (tkE B N p) (tkK B N p) := by
  obtain ⟨m1, a1, a2, a3, a4, a5, a6, a7⟩ := scan_o hM hq h0
  obtain ⟨t1, t2⟩ := tk_spec (B := B) h0
  refine ⟨_, m1, step_o hC hp h0, a1, frm_sF (frm_sF (frm_sF (frm_refl w) rfl) rfl) rfl, a2, t1, ⟨?_, ?_, ?_⟩, ⟨a4, a3, a5⟩, t2, a6, a7⟩
  · rw [gF_sF, if_neg (by decide), gF_sF, if_neg (by decide), gF_sF, if_pos ⟨rfl, rfl⟩]
  · rw [gF_sF, if_pos ⟨rfl, rfl⟩]
  · rw [gF_sF, if_neg (by decide), gF_sF, if_pos ⟨rfl, rfl⟩]
/-- a number's value, the class -/
theorem value_o {w m : Wd} {B : Int → Int} {N s e : Int} (hC : TXC w B N) (h : TKat w m B N s e 2) : p_X7_value w = some (vC B s (e - s).toNat, w) ∧ (0 ≤ vC B s (e - s).toNat ∧ vC B s (e - s).toNat ≤ 10000) := by
  obtain ⟨h1, ⟨g1, g2, g3⟩, h3, h4, h5, h6⟩ := h
  have hd : ∀ i, s ≤ i → i < e → 48 ≤ B i ∧ B i ≤ 57 := fun i i0 i1 => by
    rcases h4 with h4 | h4
    · exact absurd h4.1 (by decide)
    · exact kd_2.mp (h4.2.2.2.2.1 (by decide) i i0 i1)
  have hr : ∀ j : Nat, s + j ≤ e → 0 ≤ vC B s j ∧ vC B s j ≤ 10000 := fun j hj => vC_rng j (fun i a b => (hd i a (by omega)).1)
  have h2 := hC.2.1
  refine ⟨?_, hr _ (by omega)⟩
  have hl : ∀ (j n : Nat) (t : Nat), (t : Int) + j = e - s → j < n → p_X7_value_4 n (vC B s t) (t : Int) w = some (vC B s (t + j), w) := by
    intro j
    induction j with
    | zero =>
      intro n t ht hn
      obtain ⟨n', rfl⟩ : ∃ n', n = n' + 1 := ⟨n - 1, by omega⟩
      simp only [p_X7_value_4]
      rw [g2, if_neg (show ¬ lt32 (t : Int) (e - s) = true by rw [lt32_o (by omega)]; omega)]
      rfl
    | succ j ih =>
      intro n t ht hn
      obtain ⟨n', rfl⟩ : ∃ n', n = n' + 1 := ⟨n - 1, by omega⟩
      have hr' := hr t (by omega)
      have hb := hd (s + t) (by omega) (by omega)
      simp only [p_X7_value_4]
      rw [g2, if_pos (show lt32 (t : Int) (e - s) = true by rw [lt32_o (by omega)]; omega), g1, at3_o hC ⟨by omega, by omega⟩, Option.bind_some]
      dsimp only
      rw [mn32_o (by omega)]
      have := ih n' (t + 1) (by omega) (by omega)
      rw [vC_s, show ((t + 1 : Nat) : Int) = (t : Int) + 1 by omega, show t + 1 + j = t + (j + 1) by omega] at this
      exact this
  have hFU : FU = 1000000 := rfl
  have := hl (e - s).toNat FU 0 (by omega) (by omega)
  rw [Nat.zero_add] at this
  exact this
