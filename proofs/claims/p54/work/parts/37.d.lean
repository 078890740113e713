/-! ===== the chisel: strokes left, how often sharpened, time ===== -/
abbrev Ch : Type := Int × Int × Int
def ctF (sh la s : Int) (c : Ch) : Ch := if c.1 < s ∧ c.1 < sh then (max 0 (sh - s), c.2.1 + 1, c.2.2 + (s + la)) else (max 0 (c.1 - s), c.2.1, c.2.2 + s)
def ctI (f : Rw) (sh la : Int) : Nat → Int → Ch → Ch
  | 0, _, c => c
  | n + 1, a, c => ctI f sh la n (a + 1) (ctF sh la (cosF f a) c)
theorem ctF_rng {sh la s : Int} {c : Ch} (h : 1 ≤ sh) (hs : 1 ≤ s) (hc : 0 ≤ c.1 ∧ c.1 ≤ sh) (hla : 0 ≤ la) : (0 ≤ (ctF sh la s c).1 ∧ (ctF sh la s c).1 ≤ sh) ∧ (c.2.1 ≤ (ctF sh la s c).2.1 ∧ (ctF sh la s c).2.1 ≤ c.2.1 + 1) ∧ (c.2.2 ≤ (ctF sh la s c).2.2 ∧ (ctF sh la s c).2.2 ≤ c.2.2 + (s + la)) := by
  unfold ctF
  split
  · refine ⟨⟨?_, ?_⟩, ⟨?_, ?_⟩, ⟨?_, ?_⟩⟩ <;> dsimp only <;> omega
  · refine ⟨⟨?_, ?_⟩, ⟨?_, ?_⟩, ⟨?_, ?_⟩⟩ <;> dsimp only <;> omega
theorem ctI_rng {f : Rw} {sh la : Int} (h : 1 ≤ sh) (hla : 0 ≤ la ∧ la ≤ 99) : ∀ (n : Nat) (a : Int) (c : Ch), 0 ≤ c.1 ∧ c.1 ≤ sh → (0 ≤ (ctI f sh la n a c).1 ∧ (ctI f sh la n a c).1 ≤ sh) ∧ (c.2.1 ≤ (ctI f sh la n a c).2.1 ∧ (ctI f sh la n a c).2.1 ≤ c.2.1 + n) ∧ (c.2.2 ≤ (ctI f sh la n a c).2.2 ∧ (ctI f sh la n a c).2.2 ≤ c.2.2 + 109 * n) := by
  intro n
  induction n with
  | zero => intro a c hc; exact ⟨hc, ⟨Int.le_refl _, by show c.2.1 ≤ c.2.1 + ((0 : Nat) : Int); omega⟩, Int.le_refl _, by show c.2.2 ≤ c.2.2 + 109 * ((0 : Nat) : Int); omega⟩
  | succ n ih =>
    intro a c hc
    have h1 := ctF_rng (s := cosF f a) (la := la) h cos_rng.1 hc hla.1
    have h2 := ih (a + 1) (ctF sh la (cosF f a) c) h1.1
    have h3 := cos_rng (f := f) (n := a)
    refine ⟨h2.1, ⟨?_, ?_⟩, ?_, ?_⟩
    · show c.2.1 ≤ (ctI f sh la n (a + 1) (ctF sh la (cosF f a) c)).2.1; omega
    · show (ctI f sh la n (a + 1) (ctF sh la (cosF f a) c)).2.1 ≤ _; omega
    · show c.2.2 ≤ (ctI f sh la n (a + 1) (ctF sh la (cosF f a) c)).2.2; omega
    · show (ctI f sh la n (a + 1) (ctF sh la (cosF f a) c)).2.2 ≤ _; omega
/-- a chisel's cell -/
def CHs (w : Wd) (o : Nat) (sh la : Int) (c : Ch) : Prop := gF w o 0 = sh ∧ gF w o 1 = la ∧ gF w o 2 = c.1 ∧ gF w o 4 = c.2.1 ∧ gF w o 3 = c.2.2
def SCH (q o k : Nat) : Prop := o = q ∧ (k = 2 ∨ k = 3 ∨ k = 4)
theorem cut_o {w : Wd} {q : Nat} {sh la s : Int} {c : Ch} (h : CHs w q sh la c) (h1 : 1 ≤ sh ∧ sh ≤ 999) (hc : 0 ≤ c.1 ∧ c.1 ≤ sh) (hs : 1 ≤ s ∧ s ≤ 10) : ∃ w', p_X1_cut q s w = some w' ∧ frm (SCH q) T0 w w' ∧ CHs w' q sh la (ctF sh la s c) := by
  obtain ⟨e0, e1, e2, e4, e3⟩ := h
  have h23 : ∀ (w1 : Wd) (L N T : Int), gF w1 q 0 = sh → gF w1 q 1 = la → gF w1 q 2 = L → gF w1 q 4 = N → gF w1 q 3 = T → 0 ≤ L ∧ L ≤ 999 → ∃ w', p_X1_cut_23 q s w1 = some w' ∧ frm (SCH q) T0 w1 w' ∧ CHs w' q sh la (max 0 (L - s), N, T + s) := by
    intro w1 L N T a0 a1 a2 a4 a3 hL
    refine ⟨sF (sF w1 q 3 (T + s)) q 2 (max 0 (L - s)), ?_, frm_sF (frm_sF (frm_refl w1) ⟨rfl, Or.inr (Or.inl rfl)⟩) ⟨rfl, Or.inl rfl⟩, ?_⟩
    · unfold p_X1_cut_23
      rw [Option.bind_some, a3]
      have e : gF (sF w1 q 3 (T + s)) q 2 = L := by rw [gF_sF, if_neg (by omega)]; exact a2
      rw [e, mx32_o (by omega)]
    · refine ⟨?_, ?_, ?_, ?_, ?_⟩
      · rw [gF_sF, if_neg (by omega), gF_sF, if_neg (by omega)]; exact a0
      · rw [gF_sF, if_neg (by omega), gF_sF, if_neg (by omega)]; exact a1
      · rw [gF_sF, if_pos ⟨rfl, rfl⟩]
      · rw [gF_sF, if_neg (by omega), gF_sF, if_neg (by omega)]; exact a4
      · rw [gF_sF, if_neg (by omega), gF_sF, if_pos ⟨rfl, rfl⟩]
  unfold p_X1_cut ctF
  simp (disch := omega) only [e0, e2, lt32_o]
  by_cases c1 : c.1 < s
  · by_cases c2 : c.1 < sh
    · rw [if_pos c1, if_pos c2, if_pos ⟨c1, c2⟩]
      unfold p_X1_hone
      rw [Option.bind_some, Option.bind_some, e0]
      have e3' : gF (sF w q 2 sh) q 3 = c.2.2 := by rw [gF_sF, if_neg (by omega)]; exact e3
      have e1' : gF (sF w q 2 sh) q 1 = la := by rw [gF_sF, if_neg (by omega)]; exact e1
      rw [e3', e1']
      have e4' : gF (sF (sF w q 2 sh) q 3 (c.2.2 + la)) q 4 = c.2.1 := by rw [gF_sF, if_neg (by omega), gF_sF, if_neg (by omega)]; exact e4
      rw [e4']
      have hfr : frm (SCH q) T0 w (sF (sF (sF w q 2 sh) q 3 (c.2.2 + la)) q 4 (c.2.1 + 1)) := frm_sF (frm_sF (frm_sF (frm_refl w) ⟨rfl, Or.inl rfl⟩) ⟨rfl, Or.inr (Or.inl rfl)⟩) ⟨rfl, Or.inr (Or.inr rfl)⟩
      obtain ⟨w', g1, g2, g3⟩ := h23 (sF (sF (sF w q 2 sh) q 3 (c.2.2 + la)) q 4 (c.2.1 + 1)) sh (c.2.1 + 1) (c.2.2 + la)
        (by rw [gF_sF, if_neg (by omega), gF_sF, if_neg (by omega), gF_sF, if_neg (by omega)]; exact e0)
        (by rw [gF_sF, if_neg (by omega), gF_sF, if_neg (by omega), gF_sF, if_neg (by omega)]; exact e1)
        (by rw [gF_sF, if_neg (by omega), gF_sF, if_neg (by omega), gF_sF, if_pos ⟨rfl, rfl⟩])
        (by rw [gF_sF, if_pos ⟨rfl, rfl⟩])
        (by rw [gF_sF, if_neg (by omega), gF_sF, if_pos ⟨rfl, rfl⟩]) (by omega)
      refine ⟨w', g1, frm_trans hfr g2, ?_⟩
      rw [show c.2.2 + (s + la) = c.2.2 + la + s by omega]
      exact g3
    · rw [if_pos c1, if_neg c2, if_neg (fun h => c2 h.2)]
      exact h23 w c.1 c.2.1 c.2.2 e0 e1 e2 e4 e3 (by omega)
  · rw [if_neg c1, if_neg (fun h => c1 h.1)]
    exact h23 w c.1 c.2.1 c.2.2 e0 e1 e2 e4 e3 (by omega)
theorem at17_o {f : Rw} {w : Wd} (hV : VB f) (hT : LT w 10 f) {n : Int} (h : 0 ≤ n ∧ n < laF f (nLF f)) : p_X5_at 17 n w = some (cosF f n, w) := by
  have h288 := (lF_ok hV).2.2.2
  rw [at_in ⟨h.1, by rw [show ln (17 + 1) = 288 from rfl]; omega⟩]
  exact congrArg (fun x => some (x, w)) (hT.2 n h.1 h.2).2
theorem LT.fr {S : Nat → Nat → Prop} {T : Nat → Prop} {w w' : Wd} {l : Nat} {f : Rw} (h : LT w l f) (hfr : frm S T w w') (hS : ¬ S l 5) (h6 : ¬ T (l + 6)) (h8 : ¬ T (l + 8)) : LT w' l f :=
  ⟨(hfr.1 _ _ hS).trans h.1, fun n n0 n1 => by rw [hfr.2.1 _ h6, hfr.2.1 _ h8]; exact h.2 n n0 n1⟩
theorem LY.fr {S : Nat → Nat → Prop} {T : Nat → Prop} {w w' : Wd} {l : Nat} {f : Rw} (h : LY w l f) (hfr : frm S T w w') (hS : ¬ S l 4) (h6 : ¬ T (l + 2)) (h8 : ¬ T (l + 4)) : LY w' l f :=
  ⟨⟨(hfr.1 _ _ hS).trans h.1.1, fun n n0 n1 => by rw [hfr.2.1 _ h6, hfr.2.1 _ h8]; exact h.1.2 n n0 n1⟩, fun n n0 n1 => by rw [hfr.2.1 _ h6, hfr.2.1 _ h8]; exact h.2 n n0 n1⟩
theorem tryL_o {f : Rw} (hV : VB f) {sh la : Int} (h1 : 1 ≤ sh ∧ sh ≤ 999) (hla : 0 ≤ la ∧ la ≤ 99) : ∀ (m n : Nat) (a b : Int) (c : Ch) (w : Wd), LT w 10 f → CHs w 30 sh la c → 0 ≤ c.1 ∧ c.1 ≤ sh → 0 ≤ a → a + m = b → b ≤ laF f (nLF f) → m < n →
    ∃ w', p_X8_tryLetters_2 n b a w = some w' ∧ frm (SCH 30) T0 w w' ∧ CHs w' 30 sh la (ctI f sh la m a c) := by
  have h288 := (lF_ok hV).2.2.2
  intro m
  induction m with
  | zero =>
    intro n a b c w hT hC hc a0 hab hb hn
    obtain ⟨n', rfl⟩ : ∃ n', n = n' + 1 := ⟨n - 1, by omega⟩
    simp (disch := omega) only [p_X8_tryLetters_2, lt32_o]
    rw [if_neg (by omega)]
    exact ⟨w, rfl, frm_refl w, hC⟩
  | succ m ih =>
    intro n a b c w hT hC hc a0 hab hb hn
    obtain ⟨n', rfl⟩ : ∃ n', n = n' + 1 := ⟨n - 1, by omega⟩
    simp (disch := omega) only [p_X8_tryLetters_2, lt32_o]
    rw [if_pos (by omega), at17_o hV hT (by omega), Option.bind_some]
    dsimp only
    obtain ⟨w1, q1, q2, q3⟩ := cut_o hC h1 hc (cos_rng (f := f) (n := a))
    rw [q1, Option.bind_some]
    obtain ⟨w', r1, r2, r3⟩ := ih n' (a + 1) b _ w1 (hT.fr q2 (fun q => by have := q.1; omega) id id) q3 (ctF_rng h1.1 cos_rng.1 hc hla.1).1 (by omega) (by omega) hb (by omega)
    exact ⟨w', r1, frm_trans q2 r2, r3⟩
/-! the model's -/
def S910 (o k : Nat) : Prop := o = 50 ∧ (k = 9 ∨ k = 10)
theorem AR9.fr {S : Nat → Nat → Prop} {T : Nat → Prop} {w w' : Wd} {n : Int} {R C : Int → Int} (h : AR9 w n R C) (hfr : frm S T w w') (hS : ¬ S 50 6) (h6 : ¬ T 53) (h8 : ¬ T 54) : AR9 w' n R C :=
  ⟨(hfr.1 _ _ hS).trans h.1, fun n n0 n1 => by rw [hfr.2.1 _ h6, hfr.2.1 _ h8]; exact h.2 n n0 n1⟩
theorem timeL_o {f : Rw} (hV : VB f) {w : Wd} (hf : cR w = f) (hA : AR9 w (nLF f) (rLF f) (cLF f)) {n sh L N T : Int} (h : 0 ≤ n ∧ n < laF f (nLF f)) (h1 : 1 ≤ sh ∧ sh ≤ 999) (hL : 0 ≤ L ∧ L ≤ sh) (h9 : gF w 50 9 = L) (h10 : gF w 50 10 = N) :
    ∃ w', p_X9_timeForLetter n sh w = some ((ctF sh (f 4) (cosF f n) (L, N, T)).2.2 - T, w') ∧ frm S910 T0 w w' ∧ gF w' 50 9 = (ctF sh (f 4) (cosF f n) (L, N, T)).1 ∧ gF w' 50 10 = (ctF sh (f 4) (cosF f n) (L, N, T)).2.1 := by
  have hs := cos_rng (f := f) (n := n)
  unfold p_X9_timeForLetter ctF
  rw [strokesOfLetter_o hf hV hA h, Option.bind_some]
  simp (disch := omega) only [h9, lt32_o]
  unfold p_X9_timeForLetter_51
  by_cases c1 : L < cosF f n
  · by_cases c2 : L < sh
    · rw [if_pos c1, if_pos c2, if_pos ⟨c1, c2⟩, Option.bind_some, if_neg (by decide)]
      have e10 : gF (sF w 50 9 sh) 50 10 = N := h10
      rw [e10]
      have e9 : gF (sF (sF w 50 9 sh) 50 10 (N + 1)) 50 9 = sh := rfl
      have e4 : gA (sF (sF w 50 9 sh) 50 10 (N + 1)) (gP (sF (sF w 50 9 sh) 50 10 (N + 1)) 50 3) 4 = f 4 := cRe hf 4
      rw [e9, e4, mx32_o (by omega)]
      refine ⟨_, congrArg (fun x => some (x, _)) (by dsimp only; omega), frm_sF (frm_sF (frm_sF (frm_refl w) ⟨rfl, Or.inl rfl⟩) ⟨rfl, Or.inr rfl⟩) ⟨rfl, Or.inl rfl⟩, rfl, rfl⟩
    · rw [if_pos c1, if_neg c2, if_neg (fun h => c2 h.2), h9, mx32_o (by omega)]
      exact ⟨_, congrArg (fun x => some (x, _)) (by dsimp only; omega), frm_sF (frm_refl w) ⟨rfl, Or.inl rfl⟩, rfl, h10⟩
  · rw [if_neg c1, if_neg (fun h => c1 h.1), h9, mx32_o (by omega)]
    exact ⟨_, congrArg (fun x => some (x, _)) (by dsimp only; omega), frm_sF (frm_refl w) ⟨rfl, Or.inl rfl⟩, rfl, h10⟩
theorem ctF_shift {sh la s L N T T' : Int} : (ctF sh la s (L, N, T)).2.2 - T = (ctF sh la s (L, N, T')).2.2 - T' ∧ (ctF sh la s (L, N, T)).1 = (ctF sh la s (L, N, T')).1 ∧ (ctF sh la s (L, N, T)).2.1 = (ctF sh la s (L, N, T')).2.1 := by
  unfold ctF
  dsimp only
  split
  · exact ⟨by dsimp only; omega, rfl, rfl⟩
  · exact ⟨by dsimp only; omega, rfl, rfl⟩
theorem ctI_shift {f : Rw} {sh la : Int} : ∀ (n : Nat) (a L N T N' T' : Int), (ctI f sh la n a (L, N, T)).2.2 - T = (ctI f sh la n a (L, N', T')).2.2 - T' ∧ (ctI f sh la n a (L, N, T)).1 = (ctI f sh la n a (L, N', T')).1 ∧ (ctI f sh la n a (L, N, T)).2.1 - N = (ctI f sh la n a (L, N', T')).2.1 - N' := by
  intro n
  induction n with
  | zero => intro a L N T N' T'; exact ⟨by show T - T = T' - T'; omega, rfl, by show N - N = N' - N'; omega⟩
  | succ n ih =>
    intro a L N T N' T'
    unfold ctI ctF
    dsimp only
    by_cases c : L < cosF f a ∧ L < sh
    · rw [if_pos c, if_pos c]
      obtain ⟨h1, h2, h3⟩ := ih (a + 1) (max 0 (sh - cosF f a)) (N + 1) (T + (cosF f a + la)) (N' + 1) (T' + (cosF f a + la))
      exact ⟨by omega, h2, by omega⟩
    · rw [if_neg c, if_neg c]
      obtain ⟨h1, h2, h3⟩ := ih (a + 1) (max 0 (L - cosF f a)) N (T + cosF f a) N' (T' + cosF f a)
      exact ⟨by omega, h2, h3⟩
theorem timeFT_o {f : Rw} (hV : VB f) {w : Wd} (hf : cR w = f) (hp : gP w 50 3 = 51) (hA : AR9 w (nLF f) (rLF f) (cLF f)) (h3 : 1 ≤ f 3 ∧ f 3 ≤ 999) (h5 : 0 ≤ f 5 ∧ f 5 ≤ f 3) {a b : Int} (h0 : 0 ≤ a ∧ a ≤ b ∧ b ≤ laF f (nLF f)) :
    ∃ w', p_X9_timeFromTo a b w = some ((ctI f (f 3) (f 4) (b - a).toNat a (f 5, 0, 0)).2.2, w') ∧ frm S910 T0 w w' ∧ gF w' 50 9 = (ctI f (f 3) (f 4) (b - a).toNat a (f 5, 0, 0)).1 ∧ gF w' 50 10 = (ctI f (f 3) (f 4) (b - a).toNat a (f 5, 0, 0)).2.1 := by
  have h288 := (lF_ok hV).2.2.2
  have hl : ∀ (m n : Nat) (x s : Int) (w : Wd) (c : Ch), cR w = f → gP w 50 3 = 51 → AR9 w (nLF f) (rLF f) (cLF f) → gF w 50 9 = c.1 → gF w 50 10 = c.2.1 → s = c.2.2 → 0 ≤ c.1 ∧ c.1 ≤ f 3 → 0 ≤ x → x + m = b → m < n →
      ∃ w', p_X9_timeFromTo_20 n b s x w = some ((ctI f (f 3) (f 4) m x c).2.2, w') ∧ frm S910 T0 w w' ∧ gF w' 50 9 = (ctI f (f 3) (f 4) m x c).1 ∧ gF w' 50 10 = (ctI f (f 3) (f 4) m x c).2.1 := by
    intro m
    induction m with
    | zero =>
      intro n x s w c hf hp hA g9 g10 hs hc x0 x1 hn
      obtain ⟨n', rfl⟩ : ∃ n', n = n' + 1 := ⟨n - 1, by omega⟩
      simp (disch := omega) only [p_X9_timeFromTo_20, lt32_o]
      rw [if_neg (by omega), hs]
      exact ⟨w, rfl, frm_refl w, g9, g10⟩
    | succ m ih =>
      intro n x s w c hf hp hA g9 g10 hs hc x0 x1 hn
      obtain ⟨n', rfl⟩ : ∃ n', n = n' + 1 := ⟨n - 1, by omega⟩
      simp (disch := omega) only [p_X9_timeFromTo_20, lt32_o]
      rw [if_pos (by omega), if_neg (by decide), cRe hf]
      obtain ⟨w1, q1, q2, q3, q4⟩ := timeL_o hV hf hA (n := x) (sh := f 3) (L := c.1) (N := c.2.1) (T := c.2.2) (by omega) h3 hc g9 g10
      rw [q1, Option.bind_some]
      dsimp only
      obtain ⟨w', r1, r2⟩ := ih n' (x + 1) (s + ((ctF (f 3) (f 4) (cosF f x) (c.1, c.2.1, c.2.2)).2.2 - c.2.2)) w1 (ctF (f 3) (f 4) (cosF f x) c) ((cR_frm q2 hp id).trans hf) ((q2.2.2 _ _).trans hp) (hA.fr q2 (by unfold S910; decide) id id) q3 q4 (by show s + ((ctF (f 3) (f 4) (cosF f x) c).2.2 - c.2.2) = _; omega)
        (by
          have hg := cos_rng (f := f) (n := x)
          unfold ctF; split <;> dsimp only <;> omega) (by omega) (by omega) (by omega)
      exact ⟨w', r1, frm_trans q2 r2.1, r2.2⟩
  unfold p_X9_timeFromTo
  rw [if_neg (by decide), cRe hf, Option.bind_some]
  have hfr : frm S910 T0 w (sF (sF w 50 9 (f 5)) 50 10 0) := frm_sF (frm_sF (frm_refl w) ⟨rfl, Or.inl rfl⟩) ⟨rfl, Or.inr rfl⟩
  obtain ⟨w', r1, r2⟩ := hl (b - a).toNat FU a 0 (sF (sF w 50 9 (f 5)) 50 10 0) (f 5, 0, 0) ((cR_frm hfr hp id).trans hf) hp (hA.fr hfr (by unfold S910; decide) id id) rfl rfl rfl h5 h0.1 (by omega) (by have : FU = 1000000 := rfl; omega)
  exact ⟨w', r1, frm_trans hfr r2.1, r2.2⟩
/-! ===== words in cells ===== -/
def woF (f : Rw) (x y : Int) : Int := fnd (fun v => decide (rLF f v = y ∧ cLF f v ≤ x ∧ x < cLF f v + wnF f v)) (nLF f).toNat 0
theorem woF_rng {f : Rw} (hV : VB f) (x y : Int) : (woF f x y = -1 ∧ ∀ v, 0 ≤ v → v < nLF f → ¬ (rLF f v = y ∧ cLF f v ≤ x ∧ x < cLF f v + wnF f v)) ∨ (0 ≤ woF f x y ∧ woF f x y < nLF f ∧ rLF f (woF f x y) = y ∧ cLF f (woF f x y) ≤ x ∧ x < cLF f (woF f x y) + wnF f (woF f x y)) := by
  have h1 := nL_rng hV
  rcases fnd_spec (p := fun v => decide (rLF f v = y ∧ cLF f v ≤ x ∧ x < cLF f v + wnF f v)) (nLF f).toNat 0 with ⟨h2, h3⟩ | ⟨h2, h3, h4⟩
  · exact Or.inl ⟨h2, fun v v0 v1 => of_decide_eq_false (h3 v v0 (by omega))⟩
  · exact Or.inr ⟨h2, by show woF f x y < nLF f; unfold woF; omega, of_decide_eq_true h4⟩
theorem wordIn_o {f : Rw} (hV : VB f) {w : Wd} (hf : cR w = f) (hA : AR9 w (nLF f) (rLF f) (cLF f)) {x y : Int} (hx : rng x) (hy : rng y) : p_X9_wordIn x y w = some (woF f x y, w) := by
  have h1 := nL_rng hV
  have hl : ∀ (m n : Nat) (v : Int), 0 ≤ v → v + m = nLF f → m < n → p_X9_wordIn_2 n x y v w = some (fnd (fun v => decide (rLF f v = y ∧ cLF f v ≤ x ∧ x < cLF f v + wnF f v)) m v, w) := by
    intro m
    induction m with
    | zero =>
      intro n v v0 v1 hn
      obtain ⟨n', rfl⟩ : ∃ n', n = n' + 1 := ⟨n - 1, by omega⟩
      simp (disch := omega) only [p_X9_wordIn_2, hA.1, lt32_o]
      rw [if_neg (by omega)]; rfl
    | succ m ih =>
      intro n v v0 v1 hn
      obtain ⟨n', rfl⟩ : ∃ n', n = n' + 1 := ⟨n - 1, by omega⟩
      have hrc := rc_rng hV (v := v) ⟨v0, by omega⟩
      obtain ⟨eR, eC⟩ := hA.2 v v0 (by omega)
      unfold rng at hx hy
      simp (disch := omega) only [p_X9_wordIn_2, hA.1, lt32_o]
      rw [if_pos (by omega), if_neg (by rw [inb_f (by omega)]; exact id), eR, eC]
      unfold p_X9_wordIn_52 fnd
      simp (disch := omega) only [eq32_o]
      by_cases c1 : rLF f v = y
      · rw [if_pos c1, if_neg (by rw [inb_f (by omega)]; exact id), if_neg (by rw [inb_f (by omega)]; exact id), bytesOf_o hf (by omega), Option.bind_some]
        dsimp only
        rw [w32_o hx, w32_o (by omega), w32_o (by omega), in_o (by omega), Option.bind_some]
        simp only [eq32_b2]
        by_cases c2 : cLF f v ≤ x ∧ x < cLF f v + wnF f v
        · rw [decide_eq_true (show cLF f v ≤ x ∧ x ≤ cLF f v + wnF f v - 1 by omega), if_neg (by decide), if_pos (decide_eq_true ⟨c1, c2⟩)]
        · rw [decide_eq_false (show ¬ (cLF f v ≤ x ∧ x ≤ cLF f v + wnF f v - 1) by omega), if_pos rfl, if_neg (by rw [decide_eq_true_iff]; exact fun h => c2 h.2)]
          exact ih n' (v + 1) (by omega) (by omega) (by omega)
      · rw [if_neg c1, if_neg (by rw [decide_eq_true_iff]; exact fun h => c1 h.1)]
        exact ih n' (v + 1) (by omega) (by omega) (by omega)
  unfold p_X9_wordIn woF
  exact hl (nLF f).toNat FU 0 (by decide) (by omega) (by have : FU = 1000000 := rfl; omega)
theorem wordOn_o {f : Rw} (hV : VB f) {w : Wd} (hS : RS w 100 f) (hA : LY w 10 f) {x y : Int} (hx : rng x) (hy : rng y) : p_X2_wordOn 10 100 x y w = some (woF f x y, w) := by
  have h1 := nL_rng hV
  have hl : ∀ (m n : Nat) (v : Int), 0 ≤ v → v + m = nLF f → m < n → p_X2_wordOn_3 10 100 n x y v w = some (fnd (fun v => decide (rLF f v = y ∧ cLF f v ≤ x ∧ x < cLF f v + wnF f v)) m v, w) := by
    intro m
    induction m with
    | zero =>
      intro n v v0 v1 hn
      obtain ⟨n', rfl⟩ : ∃ n', n = n' + 1 := ⟨n - 1, by omega⟩
      simp (disch := omega) only [p_X2_wordOn_3, hA.1.1, lt32_o]
      rw [if_neg (by omega)]; rfl
    | succ m ih =>
      intro n v v0 v1 hn
      obtain ⟨n', rfl⟩ : ∃ n', n = n' + 1 := ⟨n - 1, by omega⟩
      have hrc := rc_rng hV (v := v) ⟨v0, by omega⟩
      obtain ⟨eR, eC⟩ := hA.1.2 v v0 (by omega)
      unfold rng at hx hy
      simp (disch := omega) only [p_X2_wordOn_3, hA.1.1, lt32_o]
      rw [if_pos (by omega), atC_o (l := 10) (Or.inl rfl) (by omega), Option.bind_some]
      dsimp only
      rw [show gA w (10 + 4) v = cLF f v from eC]
      have hF : ∀ q, p_X2_wordOn_49 10 100 q x y v w = q x y (v + 1) w := by
        intro q; unfold p_X2_wordOn_49 p_X2_wordOn_50; rw [if_pos e00]; rfl
      simp (disch := omega) only [lt32_o, hF]
      unfold fnd
      by_cases c1 : x < cLF f v
      · rw [if_pos c1, if_neg (by rw [decide_eq_true_iff]; omega)]
        exact ih n' (v + 1) (by omega) (by omega) (by omega)
      · rw [if_neg c1, lenC_o SLo_0 hV hS (by omega), Option.bind_some]
        simp (disch := omega) only [lt32_o]
        by_cases c2 : x < cLF f v + wnF f v
        · rw [if_pos c2]
          unfold p_X2_wordOn_50
          rw [if_neg e10, atR_o (l := 10) (Or.inl rfl) (by omega), Option.bind_some]
          dsimp only
          rw [show gA w (10 + 2) v = rLF f v from eR]
          simp (disch := omega) only [eq32_o]
          by_cases c3 : rLF f v = y
          · rw [if_pos c3, if_pos (decide_eq_true ⟨c3, by omega, c2⟩)]
          · rw [if_neg c3, if_neg (by rw [decide_eq_true_iff]; omega)]
            exact ih n' (v + 1) (by omega) (by omega) (by omega)
        · rw [if_neg c2, if_neg (by rw [decide_eq_true_iff]; omega)]
          exact ih n' (v + 1) (by omega) (by omega) (by omega)
  unfold p_X2_wordOn woF
  exact hl (nLF f).toNat FU 0 (by decide) (by omega) (by have : FU = 1000000 := rfl; omega)
