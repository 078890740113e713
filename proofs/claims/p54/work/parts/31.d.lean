/-! ===== the model lays as told ===== -/
def SL9 (o k : Nat) : Prop := o = 50 ∧ (k = 6 ∨ k = 7 ∨ k = 8)
def TL9 (o : Nat) : Prop := o = 53 ∨ o = 54
def SF9 (o k : Nat) : Prop := o = 50 ∧ (k = 7 ∨ k = 8)
def T0 (_ : Nat) : Prop := False
def S0 (_ _ : Nat) : Prop := False
def T54 (o : Nat) : Prop := o = 54
theorem cR_frm {S : Nat → Nat → Prop} {T : Nat → Prop} {w w' : Wd} {a : Nat} (h : frm S T w w') (hp : gP w 50 3 = a) (hT : ¬ T a) : cR w' = cR w := by
  funext i
  unfold cR
  rw [h.2.2, hp, h.2.1 _ hT]
theorem gP_frm {S : Nat → Nat → Prop} {T : Nat → Prop} {w w' : Wd} (h : frm S T w w') (o : Nat) (i : Int) : gP w' o i = gP w o i := h.2.2 o i
def AR9 (w : Wd) (n : Int) (R C : Int → Int) : Prop := gF w 50 6 = n ∧ ∀ i, 0 ≤ i → i < n → gA w 53 i = R i ∧ gA w 54 i = C i
def AG9 (w : Wd) (st : Ly) : Prop := gF w 50 7 = st.2.1 ∧ gF w 50 8 = st.2.2.1 ∧ AR9 w st.1 st.2.2.2.1 st.2.2.2.2
theorem find9 {f : Rw} {s : Int} (hV : VB f) (hs : 1 ≤ s ∧ s ≤ 12) : ∀ (k m n : Nat) (w : Wd) (r c : Int), cR w = f → gP w 50 3 = 51 → gF w 50 7 = r → gF w 50 8 = c → 0 ≤ r → r < f 1 → 0 ≤ c → c ≤ 25 → (12 - r) * 30 + (26 - c) < k → 12 - r < m → 26 - c < n →
    ∃ w', p_X9_findPlace_11 (p_X9_findPlace_0 m) n s w = some (b2 (fpF f s k r c).1, w') ∧ frm SF9 T0 w w' ∧ ((fpF f s k r c).1 = true → gF w' 50 7 = (fpF f s k r c).2.1 ∧ gF w' 50 8 = (fpF f s k r c).2.2) := by
  have hc := hV.c
  have hrr := hV.r
  intro k
  induction k with
  | zero => intro m n w r c _ _ _ _ h0 h1 h2 h3 h4; exact absurd h4 (by omega)
  | succ k ih =>
    intro m n w r c hf hp h7 h8 h0 h1 h2 h3 h4 h5 h6
    obtain ⟨n', rfl⟩ : ∃ n', n = n' + 1 := ⟨n - 1, by omega⟩
    obtain ⟨m', rfl⟩ : ∃ m', m = m' + 1 := ⟨m - 1, by omega⟩
    unfold fpF
    rw [if_pos h1]
    simp (disch := omega) only [p_X9_findPlace_11, wide_o hf, Option.bind_some, h7, h8, lt32_o]
    by_cases c2 : c + s ≤ f 0
    · rw [if_neg (by omega), if_pos c2, fitsAt_o hf hV (by omega) (by omega) (by omega), Option.bind_some]
      simp only [eq32_b2]
      by_cases c3 : fitF f c r s = true
      · rw [if_neg (by rw [c3]; decide), if_pos c3]
        exact ⟨w, rfl, frm_refl w, fun _ => ⟨h7, h8⟩⟩
      · rw [if_pos (bfF c3), if_neg c3]
        have hfr : frm SF9 T0 w (sF w 50 8 (c + 1)) := frm_sF (frm_refl w) ⟨rfl, Or.inr rfl⟩
        obtain ⟨w', a1, a2, a3⟩ := ih (m' + 1) n' (sF w 50 8 (c + 1)) r (c + 1) ((cR_frm hfr hp id).trans hf) hp h7 rfl h0 h1 (by omega) (by omega) (by omega) (by omega) (by omega)
        rw [h8]
        exact ⟨w', a1, frm_trans hfr a2, a3⟩
    · rw [if_pos (by omega), if_neg c2]
      have hfr : frm SF9 T0 w (sF (sF w 50 7 (r + 1)) 50 8 0) := frm_sF (frm_sF (frm_refl w) ⟨rfl, Or.inl rfl⟩) ⟨rfl, Or.inr rfl⟩
      have hf' : cR (sF (sF w 50 7 (r + 1)) 50 8 0) = f := (cR_frm hfr hp id).trans hf
      show ∃ w', ((some (sF (sF w 50 7 (gF w 50 7 + 1)) 50 8 0)).bind fun w1 => p_X9_findPlace_0 (m' + 1) s w1) = _ ∧ _
      rw [h7, Option.bind_some]
      simp (disch := omega) only [p_X9_findPlace_0, high_o hf', Option.bind_some]
      have h77 : gF (sF (sF w 50 7 (r + 1)) 50 8 0) 50 7 = r + 1 := rfl
      rw [h77]
      simp (disch := omega) only [lt32_o]
      by_cases c4 : r + 1 < f 1
      · rw [if_pos c4]
        obtain ⟨w', a1, a2, a3⟩ := ih m' FU (sF (sF w 50 7 (r + 1)) 50 8 0) (r + 1) 0 hf' hp rfl rfl (by omega) c4 (by omega) (by omega) (by omega) (by omega) (by have : FU = 1000000 := rfl; omega)
        exact ⟨w', a1, frm_trans hfr a2, a3⟩
      · rw [if_neg c4]
        have e : (fpF f s k (r + 1) 0).1 = false := by
          cases k with
          | zero => rfl
          | succ k => unfold fpF; rw [if_neg c4]
        refine ⟨_, ?_, hfr, fun h => absurd (e.symm.trans h) (by decide)⟩
        rw [e]; rfl
theorem findPlace9 {f : Rw} {s : Int} (hV : VB f) (hs : 1 ≤ s ∧ s ≤ 12) {w : Wd} {r c : Int} (hf : cR w = f) (hp : gP w 50 3 = 51) (h7 : gF w 50 7 = r) (h8 : gF w 50 8 = c) (h0 : 0 ≤ r ∧ r ≤ 15) (h2 : 0 ≤ c ∧ c ≤ 25) :
    ∃ w', p_X9_findPlace s w = some (b2 (fpF f s FP0 r c).1, w') ∧ frm SF9 T0 w w' ∧ ((fpF f s FP0 r c).1 = true → gF w' 50 7 = (fpF f s FP0 r c).2.1 ∧ gF w' 50 8 = (fpF f s FP0 r c).2.2) := by
  have hrr := hV.r
  obtain ⟨q, hq, hq2⟩ := FU_s
  unfold p_X9_findPlace
  rw [hq]
  simp (disch := omega) only [p_X9_findPlace_0, high_o hf, Option.bind_some, h7, lt32_o]
  by_cases c1 : r < f 1
  · rw [if_pos c1]
    exact find9 hV hs FP0 q FU w r c hf hp h7 h8 h0.1 c1 h2.1 h2.2 (by have : FP0 = 1000 := rfl; omega) (by omega) (by have : FU = 1000000 := rfl; omega)
  · rw [if_neg c1]
    have e : (fpF f s FP0 r c).1 = false := by
      rw [show FP0 = 999 + 1 from rfl]; unfold fpF; rw [if_neg c1]
    exact ⟨w, by rw [e]; rfl, frm_refl w, fun h => absurd (e.symm.trans h) (by decide)⟩
section MV
variable {f : Rw} {R C : Int → Int} {N : Int}
theorem mayMove_o {w : Wd} (hf : cR w = f) (hV : VB f) (hN : N ≤ f 10) (hL : VL f N R C) (hA : ∀ i, 0 ≤ i → i < N → gA w 53 i = R i ∧ gA w 54 i = C i) {a b d : Int} (ha : 0 ≤ a ∧ a ≤ b ∧ b ≤ N) (hd : 0 ≤ d ∧ d ≤ 24) :
    p_X9_mayMove a b d w = some (b2 (mayF f R C a b d), w) := by
  have h1 := hV.c
  have h2 := hV.r
  have h3 := hV.w
  have hl : ∀ (n : Nat) (x : Int) (q : Bool), a ≤ x → x ≤ b → b - x < n → p_X9_mayMove_6 n b d (b2 q) x w = some (b2 (q && allb (fun v => fitF f (C v + d) (R v) (wnF f v)) (b - x).toNat x), w) := by
    intro n
    induction n with
    | zero => intro x q h0 h1 h2; exact absurd h2 (by omega)
    | succ n ih =>
      intro x q h4 h5 h6
      simp (disch := omega) only [p_X9_mayMove_6, lt32_o, eq32_b2, zr_b2]
      by_cases e : x < b
      · rw [if_pos e, show (b - x).toNat = (b - (x + 1)).toNat + 1 by omega]
        show _ = some (b2 (q && ((fitF f (C x + d) (R x) (wnF f x)) && allb _ _ _)), w)
        cases q with
        | false =>
          rw [if_pos rfl]
          show p_X9_mayMove_6 n b d (b2 false) (x + 1) w = _
          rw [ih (x + 1) false (by omega) (by omega) (by omega)]; rfl
        | true =>
          obtain ⟨g1, g2, g3, g4⟩ := hL.1 x (by omega) (by omega)
          have g5 := fitF_w g4
          have g6 := hV.wn (v := x) (by omega) (by omega)
          obtain ⟨e1, e2⟩ := hA x (by omega) (by omega)
          rw [if_neg (by decide), if_neg (by rw [inb_f (by omega)]; exact id), if_neg (by rw [inb_f (by omega)]; exact id), bytesOf_o hf (by omega), Option.bind_some]
          simp only [e1, e2]
          rw [fitsAt_o hf hV (by omega) (by omega) (by omega), Option.bind_some]
          simp only [eq32_b2]
          cases hfl : fitF f (C x + d) (R x) (wnF f x) with
          | false =>
            rw [if_pos rfl]
            show p_X9_mayMove_6 n b d (b2 false) (x + 1) w = _
            rw [ih (x + 1) false (by omega) (by omega) (by omega)]; rfl
          | true =>
            rw [if_neg (by decide)]
            show p_X9_mayMove_6 n b d (b2 true) (x + 1) w = _
            rw [ih (x + 1) true (by omega) (by omega) (by omega)]; rfl
      · rw [if_neg e, show (b - x).toNat = 0 by omega]
        cases q <;> rfl
  unfold p_X9_mayMove mayF
  show p_X9_mayMove_6 FU b d (b2 true) a w = _
  rw [hl FU a true (by omega) (by omega) (by have : FU = 1000000 := rfl; omega)]
  rfl
theorem moveRow45_o {w : Wd} {a b d : Int} (ha : 0 ≤ a ∧ a ≤ b ∧ b ≤ 60) : p_X9_moveRow_42 a b d w = some (setR w 54 (fun j => if a ≤ j ∧ j < b then gA w 54 j + d else gA w 54 j)) := by
  unfold p_X9_moveRow_42
  obtain ⟨w', h1, h2, rfl⟩ := loop_up (lp := fun n x w => p_X9_moveRow_45 n b d x w) (fin := some) (b := b) (I := fun x w' => a ≤ x ∧ w' = setR w 54 (fun j => if a ≤ j ∧ j < x then gA w 54 j + d else gA w 54 j))
    (fun n x w' hx hI => by
      obtain ⟨h0, rfl⟩ := hI
      simp (disch := omega) only [p_X9_moveRow_45, lt32_o, hx, if_true, inb_f, if_false]
      refine ⟨_, rfl, by omega, ?_⟩
      rw [sA_setR, setR_setR]
      refine setR_ext fun j => ?_
      show (if j = x then _ else _) = _
      by_cases c : j = x
      · subst c; rw [if_pos rfl, gA_setR, if_pos rfl, if_neg (by omega), if_pos (by omega)]
      · rw [if_neg c, gA_setR, if_pos rfl]
        by_cases c2 : a ≤ j ∧ j < x
        · rw [if_pos c2, if_pos (by omega)]
        · rw [if_neg c2, if_neg (by omega)])
    (fun n w' hI => by simp (disch := omega) only [p_X9_moveRow_45, lt32_o, Int.lt_irrefl, if_false])
    FU a w ha.2.1 ⟨by omega, (setR_self fun j => if_neg (by omega)).symm⟩ (by have : FU = 1000000 := rfl; omega)
  exact h1
theorem moveRow_o {w : Wd} (hf : cR w = f) (hV : VB f) (hN : N ≤ f 10) (hL : VL f N R C) (hA : ∀ i, 0 ≤ i → i < N → gA w 53 i = R i ∧ gA w 54 i = C i) {a b : Int} (ha : 0 ≤ a ∧ a < b ∧ b ≤ N) :
    p_X9_moveRow a b w = some (setR w 54 (fun j => if a ≤ j ∧ j < b then gA w 54 j + mbF f R C a b ((f 0 - C (b - 1) - wnF f (b - 1)) / 2).toNat else gA w 54 j)) := by
  have h1 := hV.c
  have h3 := hV.w
  have hl : ∀ (d n : Nat), d ≤ 24 → d < n → p_X9_moveRow_25 n a b (d : Int) w = p_X9_moveRow_42 a b (mbF f R C a b d) w := by
    intro d
    induction d with
    | zero =>
      intro n h4 h5
      obtain ⟨n', rfl⟩ : ∃ n', n = n' + 1 := ⟨n - 1, by omega⟩
      simp only [p_X9_moveRow_25]
      rw [mayMove_o hf hV hN hL hA (by omega) (by omega), Option.bind_some]
      simp only [eq32_b2]
      rw [show mayF f R C a b ((0 : Nat) : Int) = true from mayF_0 hL (by omega) (by omega), if_neg (by decide)]
      rfl
    | succ d ih =>
      intro n h4 h5
      obtain ⟨n', rfl⟩ : ∃ n', n = n' + 1 := ⟨n - 1, by omega⟩
      simp only [p_X9_moveRow_25]
      rw [mayMove_o hf hV hN hL hA (by omega) (by omega), Option.bind_some]
      simp only [eq32_b2]
      unfold mbF
      rw [show ((d + 1 : Nat) : Int) = (d : Int) + 1 by omega]
      by_cases c : mayF f R C a b ((d : Int) + 1) = true
      · rw [if_neg (by rw [c]; decide), if_pos c]
      · rw [if_pos (bfF c), if_neg c, show (d : Int) + 1 + -1 = d by omega]
        exact ih n' (by omega) (by omega)
  obtain ⟨g1, g2, g3, g4⟩ := hL.1 (b - 1) (by omega) (by omega)
  have g5 := fitF_w g4
  have g6 := hV.wn (v := b - 1) (by omega) (by omega)
  have e2 := (hA (b - 1) (by omega) (by omega)).2
  unfold p_X9_moveRow
  rw [wide_o hf, Option.bind_some]
  show (if inb (b - 1) 60 = false then _ else _) = _
  rw [if_neg (by rw [inb_f (by omega)]; exact id), bytesOf_o hf (by omega), Option.bind_some]
  show p_X9_moveRow_25 FU a b (dv32 (f 0 - gA w 54 (b - 1) - wnF f (b - 1)) 2) w = _
  rw [e2, dv2_o (by omega)]
  have h8 := hl ((f 0 - C (b - 1) - wnF f (b - 1)) / 2).toNat FU (by omega) (by have : FU = 1000000 := rfl; omega)
  rw [Int.toNat_of_nonneg (by omega)] at h8
  rw [h8, moveRow45_o (by omega)]
theorem name9 (hV : VB f) {to : Int} (hto : to ≤ N) (hN : N ≤ f 10) : ∀ (k m n : Nat) (a x : Int) (C : Int → Int) (w : Wd), cR w = f → gP w 50 3 = 51 → VL f N R C → (∀ i, 0 ≤ i → i < N → gA w 53 i = R i ∧ gA w 54 i = C i) → 0 ≤ a → a < x → x ≤ to → to - x < k → to - x < m → to - x < n →
    ∃ w', p_X9_moveName_10 (p_X9_moveName_2 m) n to a x w = some w' ∧ frm S0 T54 w w' ∧ ∀ i, 0 ≤ i → i < N → gA w' 54 i = ceF f R to k a x C i := by
  have h1 := hV.c
  have h2 := hV.r
  have h3 := hV.w
  intro k
  induction k with
  | zero => intro m n a x C w _ _ _ _ _ _ _ h; exact absurd h (by omega)
  | succ k ih =>
    intro m n a x C w hf hp hL hA h4 h5 h6 h7 h8 h9
    obtain ⟨n', rfl⟩ : ∃ n', n = n' + 1 := ⟨n - 1, by omega⟩
    obtain ⟨m', rfl⟩ : ∃ m', m = m' + 1 := ⟨m - 1, by omega⟩
    have hmv := moveRow_o hf hV hN hL hA (a := a) (b := x) (by omega)
    have hfr : frm S0 T54 w (setR w 54 (fun j => if a ≤ j ∧ j < x then gA w 54 j + mbF f R C a x ((f 0 - C (x - 1) - wnF f (x - 1)) / 2).toNat else gA w 54 j)) := frm_setR (frm_refl w) rfl
    have hA' : ∀ i, 0 ≤ i → i < N → gA (setR w 54 (fun j => if a ≤ j ∧ j < x then gA w 54 j + mbF f R C a x ((f 0 - C (x - 1) - wnF f (x - 1)) / 2).toNat else gA w 54 j)) 53 i = R i ∧ gA (setR w 54 (fun j => if a ≤ j ∧ j < x then gA w 54 j + mbF f R C a x ((f 0 - C (x - 1) - wnF f (x - 1)) / 2).toNat else gA w 54 j)) 54 i = mrF f R C a x i := by
      intro i i0 i1
      refine ⟨(hA i i0 i1).1, ?_⟩
      rw [gA_setR, if_pos rfl, (hA i i0 i1).2]; rfl
    generalize (setR w 54 (fun j => if a ≤ j ∧ j < x then gA w 54 j + mbF f R C a x ((f 0 - C (x - 1) - wnF f (x - 1)) / 2).toNat else gA w 54 j)) = w1 at hmv hfr hA'
    have hf1 : cR w1 = f := (cR_frm hfr hp (by unfold T54; decide)).trans hf
    have hp1 : gP w1 50 3 = 51 := (hfr.2.2 _ _).trans hp
    have hL1 : VL f N R (mrF f R C a x) := mrF_ok hL (by omega) (by omega)
    unfold ceF
    simp (disch := omega) only [p_X9_moveName_10, lt32_o]
    by_cases c1 : x < to
    · obtain ⟨r1, r2, -, -⟩ := hL.1 x (by omega) (by omega)
      obtain ⟨r3, r4, -, -⟩ := hL.1 a (by omega) (by omega)
      rw [if_pos c1, if_neg (by rw [inb_f (by omega)]; exact id), if_neg (by rw [inb_f (by omega)]; exact id), (hA x (by omega) (by omega)).1, (hA a (by omega) (by omega)).1]
      simp (disch := omega) only [eq32_o]
      by_cases c2 : R x = R a
      · rw [if_pos c2, if_pos ⟨c1, c2⟩]
        exact ih (m' + 1) n' a (x + 1) C w hf hp hL hA h4 (by omega) (by omega) (by omega) (by omega) (by omega)
      · rw [if_neg c2, if_neg (fun h => c2 h.2), if_pos c1]
        show ∃ w', ((p_X9_moveRow a x w).bind fun w1 => p_X9_moveName_2 (m' + 1) to x w1) = _ ∧ _
        rw [hmv, Option.bind_some]
        simp (disch := omega) only [p_X9_moveName_2, lt32_o, c1, if_true]
        obtain ⟨q, hq, hq2⟩ := FU_s
        rw [hq]
        obtain ⟨w', b1, b2', b3⟩ := ih m' q x (x + 1) (mrF f R C a x) w1 hf1 hp1 hL1 hA' (by omega) (by omega) (by omega) (by omega) (by omega) (by omega)
        simp (disch := omega) only [p_X9_moveName_10, lt32_o, c1, if_true, inb_f, if_false]
        rw [if_pos (eq32_self _)]
        exact ⟨w', b1, frm_trans hfr b2', b3⟩
    · rw [if_neg c1, if_neg (fun h => c1 h.1), if_neg c1]
      show ∃ w', ((p_X9_moveRow a x w).bind fun w1 => p_X9_moveName_2 (m' + 1) to x w1) = _ ∧ _
      rw [hmv, Option.bind_some]
      simp (disch := omega) only [p_X9_moveName_2, lt32_o, c1, if_false]
      exact ⟨w1, rfl, hfr, fun i i0 i1 => (hA' i i0 i1).2⟩
theorem moveName_o (hV : VB f) {w : Wd} {a to : Int} (hto : to ≤ N) (hN : N ≤ f 10) (hf : cR w = f) (hp : gP w 50 3 = 51) (hL : VL f N R C) (hA : ∀ i, 0 ≤ i → i < N → gA w 53 i = R i ∧ gA w 54 i = C i) (h0 : 0 ≤ a) (h1 : a < to) :
    ∃ w', p_X9_moveName a to w = some w' ∧ frm S0 T54 w w' ∧ ∀ i, 0 ≤ i → i < N → gA w' 54 i = ceF f R to 100 a (a + 1) C i := by
  have h3 := hV.w
  obtain ⟨q, hq, hq2⟩ := FU_s
  unfold p_X9_moveName
  rw [hq]
  simp (disch := omega) only [p_X9_moveName_2, lt32_o, h1, if_true]
  rw [hq]
  simp (disch := omega) only [p_X9_moveName_10, lt32_o, h1, if_true, inb_f, if_false]
  rw [if_pos (eq32_self _)]
  exact name9 hV hto hN 100 q q a (a + 1) C w hf hp hL hA h0 (by omega) (by omega) (by omega) (by omega) (by omega)
end MV
