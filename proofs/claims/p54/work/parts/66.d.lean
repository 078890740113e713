/-! ===== the class's parts, taken one by one ===== -/
/-- a word more -/
def WRD (f g : Rw) (P W len : Int) : Prop :=
  (∀ i, (0 ≤ i ∧ i ≤ 8) ∨ (11 ≤ i ∧ i < 299) → g i = f i) ∧ (f 9 = P ∧ g 9 = P) ∧ (f 10 = W ∧ g 10 = W + 1) ∧ (∀ p, 0 ≤ p → p < P → pkF g p = pkF f p) ∧ (∀ p, 0 ≤ p → p < P - 1 → psF g p = psF f p) ∧ psF g (P - 1) = psF f (P - 1) + 1 ∧
  (∀ v, 0 ≤ v → v < W → wnF g v = wnF f v ∧ ∀ k, 0 ≤ k → k < wnF f v → wbF g v k = wbF f v k) ∧ wnF g W = len
def TWo (o a : Nat) : Prop := a = o + 4 ∨ a = o + 6 ∨ a = o + 8 ∨ a = o + 10
def SWo (o a k : Nat) : Prop := a = o ∧ (k = 4 ∨ k = 7)
theorem takeWord_o {w : Wd} {o src : Nat} {f g : Rw} {P W start len : Int} (ho : SLo o) (hS : RS w o f) (hg : WRD f g P W len) (hP : 1 ≤ P ∧ P ≤ 10) (hW : 0 ≤ W ∧ W < 60) (hl : 1 ≤ len ∧ len ≤ 12) (hwf : ∀ v, 0 ≤ v → v < W → wnF f v ≤ 12)
    (hs : 0 ≤ start ∧ start + len ≤ (ln (src + 1) : Nat)) (hsrc : ¬ (o ≤ src + 1 ∧ src + 1 < o + 12)) (hb : ∀ k, 0 ≤ k → k < len → wbF g W k = gA w (src + 1) (start + k)) :
    ∃ w', p_X6_takeWord o src start len w = some w' ∧ frm (SWo o) (TWo o) w w' ∧ RS w' o g := by
  obtain ⟨g1, ⟨g2, g2'⟩, ⟨g3, g3'⟩, g4, g5, g6, g7, g8⟩ := hg
  obtain ⟨s1, s2, s3, s4, s5, s6, s7⟩ := hS
  have e7 : gF w o 7 = W := s1.2.2.2.2.1.trans g3
  have e4 : gF w o 4 = P := s1.2.2.2.1.trans g2
  have hln := ln_lt (src + 1)
  unfold p_X6_takeWord
  rw [e7, e4, if_pos (by rw [lt32_o (by omega)]; omega), if_pos (by rw [lt32_o (by omega)]; omega)]
  obtain ⟨w1, a1, a2, a3, a4, a5⟩ := loop_up (lp := fun n x w => p_X6_takeWord_19 o src n start len x w) (fin := p_X6_takeWord_56 o src len) (b := len)
    (I := fun x w' => 0 ≤ x ∧ frm S0 (fun a => a = o + 10) w w' ∧ (∀ k, 0 ≤ k → k < x → gA w' (o + 10) (W * 12 + k) = wbF g W k) ∧ (∀ i, i < W * 12 → gA w' (o + 10) i = gA w (o + 10) i))
    (fun n x w' hx hI => by
      obtain ⟨i0, i1, i2, i3⟩ := hI
      have e7' : gF w' o 7 = W := (i1.1 o 7 id).trans e7
      simp (disch := omega) only [p_X6_takeWord_19, lt32_o, hx, if_true]
      rw [at_in ⟨by omega, by omega⟩, Option.bind_some]
      dsimp only
      rw [e7', put_in (o := o + 9) ⟨by omega, by rw [show ln (o + 9 + 1) = 720 from ho.l10]; omega⟩, Option.bind_some]
      refine ⟨_, rfl, by omega, frm_sA i1 rfl, fun k k0 k1 => ?_, fun i hi => ?_⟩
      · rw [gA_sA]
        by_cases d : k = x
        · rw [if_pos ⟨rfl, by omega⟩, d, i1.2.1 (src + 1) (by omega), hb x i0 hx]
        · rw [if_neg (by omega)]; exact i2 k k0 (by omega)
      · rw [gA_sA, if_neg (by omega)]; exact i3 i hi)
    (fun n w' hI => by simp (disch := omega) only [p_X6_takeWord_19, lt32_o, Int.lt_irrefl, if_false])
    FU 0 w (by omega) ⟨Int.le_refl _, frm_refl w, fun k k0 k1 => absurd k1 (by omega), fun _ _ => rfl⟩ (by have : FU = 1000000 := rfl; omega)
  have e7' : gF w1 o 7 = W := (a3.1 o 7 id).trans e7
  have e4' : gF w1 o 4 = P := (a3.1 o 4 id).trans e4
  rw [a1]
  unfold p_X6_takeWord_56
  rw [e7', put_in (o := o + 7) ⟨by omega, by rw [show ln (o + 7 + 1) = 60 from ho.l8]; omega⟩, Option.bind_some]
  have e4'' : gF (sA w1 (o + 7 + 1) W len) o 4 = P := e4'
  rw [e4'', at_in (o := o + 5) ⟨by omega, by rw [show ln (o + 5 + 1) = 10 from ho.l6]; omega⟩, Option.bind_some]
  dsimp only
  rw [put_in (o := o + 5) ⟨by omega, by rw [show ln (o + 5 + 1) = 10 from ho.l6]; omega⟩, Option.bind_some]
  have e6 : gA (sA w1 (o + 7 + 1) W len) (o + 5 + 1) (P - 1) = psF f (P - 1) := by
    rw [gA_sA, if_neg (by omega), a3.2.1 (o + 5 + 1) (by omega)]
    exact (s4 (P - 1) (by omega) (by omega)).2
  rw [e6]
  have e7'' : gF (sA (sA w1 (o + 7 + 1) W len) (o + 5 + 1) (P - 1) (psF f (P - 1) + 1)) o 7 = W := e7'
  rw [e7'']
  refine ⟨_, rfl, frm_sF (frm_sA (frm_sA (frm_mono a3 (fun _ _ h => absurd h id) (fun a h => Or.inr (Or.inr (Or.inr h)))) (Or.inr (Or.inr (Or.inl rfl)))) (Or.inr (Or.inl rfl))) ⟨rfl, Or.inr rfl⟩, ?_⟩
  have gF1 : ∀ a k, gF (sF (sA (sA w1 (o + 7 + 1) W len) (o + 5 + 1) (P - 1) (psF f (P - 1) + 1)) o 7 (W + 1)) a k = if a = o ∧ k = 7 then W + 1 else gF w a k := fun a k => by
    rw [gF_sF]
    by_cases d : a = o ∧ k = 7
    · rw [if_pos d, if_pos d]
    · rw [if_neg d, if_neg d]; exact a3.1 a k id
  have gA1 : ∀ a i, gA (sF (sA (sA w1 (o + 7 + 1) W len) (o + 5 + 1) (P - 1) (psF f (P - 1) + 1)) o 7 (W + 1)) a i = if a = o + 6 ∧ i = P - 1 then psF f (P - 1) + 1 else if a = o + 8 ∧ i = W then len else gA w1 a i := fun a i => by
    rw [gA_sF, gA_sA, gA_sA]
  have h08 : ∀ i, (0 ≤ i ∧ i ≤ 8) → g i = f i := fun i hi => g1 i (Or.inl hi)
  refine ⟨⟨?_, ?_, ?_, ?_, ?_, ?_⟩, ⟨?_, ?_, ?_, ?_, ?_⟩, fun r r0 r1 i hi => ?_, fun p p0 p1 => ⟨?_, ?_⟩, fun v v0 v1 => ?_, fun v k v0 v1 k0 k1 => ?_, fun c r c0 c1 r0 r1 hh => ?_⟩
  · rw [gF1, if_neg (by omega), h08 0 (by omega)]; exact s1.1
  · rw [gF1, if_neg (by omega), h08 1 (by omega)]; exact s1.2.1
  · rw [gF1, if_neg (by omega), h08 2 (by omega)]; exact s1.2.2.1
  · rw [gF1, if_neg (by omega), g2', e4]
  · rw [gF1, if_pos ⟨rfl, rfl⟩, g3']
  · rw [gF1, if_neg (by omega), h08 8 (by omega)]; exact s1.2.2.2.2.2
  · rw [gF1, if_neg (by omega), h08 3 (by omega)]; exact s2.1
  · rw [gF1, if_neg (by omega), h08 4 (by omega)]; exact s2.2.1
  · rw [gF1, if_neg (by omega), h08 5 (by omega)]; exact s2.2.2.1
  · rw [gF1, if_neg (by omega), h08 6 (by omega)]; exact s2.2.2.2.1
  · rw [gF1, if_neg (by omega), h08 7 (by omega)]; exact s2.2.2.2.2
  · rw [gA1, if_neg (by omega), if_neg (by omega), a3.2.1 (o + 2) (by omega), s3 r r0 r1 i hi]
    by_cases e : i < 24
    · rw [show fcF g i r = fcF f i r from g1 _ (by omega)]
    · rw [decide_eq_false e]; rfl
  · rw [g2'] at p1
    rw [gA1, if_neg (by omega), if_neg (by omega), a3.2.1 (o + 4) (by omega), g4 p p0 p1]; exact (s4 p p0 (by omega)).1
  · rw [g2'] at p1
    rw [gA1]
    by_cases d : p = P - 1
    · rw [if_pos ⟨rfl, d⟩, d, g6]
    · rw [if_neg (by omega), if_neg (by omega), a3.2.1 (o + 6) (by omega), g5 p p0 (by omega)]; exact (s4 p p0 (by omega)).2
  · rw [g3'] at v1
    rw [gA1, if_neg (by omega)]
    by_cases d : v = W
    · rw [if_pos ⟨rfl, d⟩, d, g8]
    · rw [if_neg (by omega), a3.2.1 (o + 8) (by omega), (g7 v v0 (by omega)).1]; exact s5 v v0 (by omega)
  · rw [g3'] at v1
    rw [gA1, if_neg (by omega), if_neg (by omega)]
    by_cases d : v = W
    · rw [d] at k1 ⊢
      rw [g8] at k1
      exact a4 k k0 k1
    · have hv := hwf v v0 (by omega)
      rw [(g7 v v0 (by omega)).1] at k1
      rw [a5 _ (by omega), (g7 v v0 (by omega)).2 k k0 k1]; exact s6 v k v0 (by omega) k0 k1
  · rw [show fcF g c r = fcF f c r from g1 _ (by omega)] at hh
    unfold isCF
    rw [h08 0 (by omega), h08 1 (by omega)]
    exact s7 c r c0 c1 r0 r1 hh
/-- a part opened -/
def OPN (f g : Rw) (P kind : Int) : Prop :=
  (∀ i, (0 ≤ i ∧ i ≤ 8) ∨ (11 ≤ i ∧ i < 299) → g i = f i) ∧ (f 9 = P ∧ g 9 = P + 1) ∧ g 10 = f 10 ∧ (∀ p, 0 ≤ p → p < P → pkF g p = pkF f p ∧ psF g p = psF f p) ∧ pkF g P = kind ∧ psF g P = 0 ∧
  (∀ v, 0 ≤ v → v < f 10 → wnF g v = wnF f v ∧ ∀ k, 0 ≤ k → k < wnF f v → wbF g v k = wbF f v k)
theorem openPart_o {w : Wd} {o : Nat} {f g : Rw} {P kind : Int} (ho : SLo o) (hS : RS w o f) (hg : OPN f g P kind) (hP : 0 ≤ P ∧ P < 10) :
    ∃ w', p_X6_openPart o kind w = some w' ∧ frm (SWo o) (TWo o) w w' ∧ RS w' o g := by
  obtain ⟨g1, ⟨g2, g2'⟩, g3, g4, g5, g6, g7⟩ := hg
  obtain ⟨s1, s2, s3, s4, s5, s6, s7⟩ := hS
  have e4 : gF w o 4 = P := s1.2.2.2.1.trans g2
  unfold p_X6_openPart
  rw [e4, if_pos (by rw [lt32_o (by omega)]; omega), put_in (o := o + 3) ⟨by omega, by rw [show ln (o + 3 + 1) = 10 from ho.l4]; omega⟩, Option.bind_some]
  have e4' : gF (sA w (o + 3 + 1) P kind) o 4 = P := e4
  rw [e4', put_in (o := o + 5) ⟨by omega, by rw [show ln (o + 5 + 1) = 10 from ho.l6]; omega⟩, Option.bind_some]
  have e4'' : gF (sA (sA w (o + 3 + 1) P kind) (o + 5 + 1) P 0) o 4 = P := e4
  rw [e4'']
  refine ⟨_, rfl, frm_sF (frm_sA (frm_sA (frm_refl w) (Or.inl rfl)) (Or.inr (Or.inl rfl))) ⟨rfl, Or.inl rfl⟩, ?_⟩
  have gF1 : ∀ a k, gF (sF (sA (sA w (o + 3 + 1) P kind) (o + 5 + 1) P 0) o 4 (P + 1)) a k = if a = o ∧ k = 4 then P + 1 else gF w a k := fun a k => by rw [gF_sF]; rfl
  have gA1 : ∀ a i, gA (sF (sA (sA w (o + 3 + 1) P kind) (o + 5 + 1) P 0) o 4 (P + 1)) a i = if a = o + 6 ∧ i = P then 0 else if a = o + 4 ∧ i = P then kind else gA w a i := fun a i => by
    rw [gA_sF, gA_sA, gA_sA]
  have h08 : ∀ i, (0 ≤ i ∧ i ≤ 8) → g i = f i := fun i hi => g1 i (Or.inl hi)
  refine ⟨⟨?_, ?_, ?_, ?_, ?_, ?_⟩, ⟨?_, ?_, ?_, ?_, ?_⟩, fun r r0 r1 i hi => ?_, fun p p0 p1 => ⟨?_, ?_⟩, fun v v0 v1 => ?_, fun v k v0 v1 k0 k1 => ?_, fun c r c0 c1 r0 r1 hh => ?_⟩
  · rw [gF1, if_neg (by omega), h08 0 (by omega)]; exact s1.1
  · rw [gF1, if_neg (by omega), h08 1 (by omega)]; exact s1.2.1
  · rw [gF1, if_neg (by omega), h08 2 (by omega)]; exact s1.2.2.1
  · rw [gF1, if_pos ⟨rfl, rfl⟩, g2']
  · rw [gF1, if_neg (by omega), g3]; exact s1.2.2.2.2.1
  · rw [gF1, if_neg (by omega), h08 8 (by omega)]; exact s1.2.2.2.2.2
  · rw [gF1, if_neg (by omega), h08 3 (by omega)]; exact s2.1
  · rw [gF1, if_neg (by omega), h08 4 (by omega)]; exact s2.2.1
  · rw [gF1, if_neg (by omega), h08 5 (by omega)]; exact s2.2.2.1
  · rw [gF1, if_neg (by omega), h08 6 (by omega)]; exact s2.2.2.2.1
  · rw [gF1, if_neg (by omega), h08 7 (by omega)]; exact s2.2.2.2.2
  · rw [gA1, if_neg (by omega), if_neg (by omega), s3 r r0 r1 i hi]
    by_cases e : i < 24
    · rw [show fcF g i r = fcF f i r from g1 _ (by omega)]
    · rw [decide_eq_false e]; rfl
  · rw [g2'] at p1
    rw [gA1, if_neg (by omega)]
    by_cases d : p = P
    · rw [if_pos ⟨rfl, d⟩, d, g5]
    · rw [if_neg (by omega), (g4 p p0 (by omega)).1]; exact (s4 p p0 (by omega)).1
  · rw [g2'] at p1
    rw [gA1]
    by_cases d : p = P
    · rw [if_pos ⟨rfl, d⟩, d, g6]
    · rw [if_neg (by omega), if_neg (by omega), (g4 p p0 (by omega)).2]; exact (s4 p p0 (by omega)).2
  · rw [g3] at v1
    rw [gA1, if_neg (by omega), if_neg (by omega), (g7 v v0 v1).1]; exact s5 v v0 v1
  · rw [g3] at v1
    rw [(g7 v v0 v1).1] at k1
    rw [gA1, if_neg (by omega), if_neg (by omega), (g7 v v0 v1).2 k k0 k1]; exact s6 v k v0 v1 k0 k1
  · rw [show fcF g c r = fcF f c r from g1 _ (by omega)] at hh
    unfold isCF
    rw [h08 0 (by omega), h08 1 (by omega)]
    exact s7 c r c0 c1 r0 r1 hh
/-- g is f with other parts: its part q is f's part (s q) -/
def SEL (f g : Rw) (s : Int → Int) : Prop :=
  (∀ i, (0 ≤ i ∧ i ≤ 8) ∨ (11 ≤ i ∧ i < 299) → g i = f i) ∧ (0 ≤ g 9 ∧ g 9 ≤ 10) ∧ (0 ≤ g 10 ∧ g 10 ≤ 60) ∧ firF g (g 9) = g 10 ∧
  (∀ q, 0 ≤ q → q < g 9 → (0 ≤ s q ∧ s q < f 9) ∧ pkF g q = pkF f (s q) ∧ psF g q = psF f (s q) ∧ ∀ u, 0 ≤ u → u < psF f (s q) → wnF g (firF g q + u) = wnF f (firF f (s q) + u) ∧ ∀ k, 0 ≤ k → k < 12 → wbF g (firF g q + u) k = wbF f (firF f (s q) + u) k)
theorem word_part {g : Rw} (hps : ∀ q, 0 ≤ q → q < g 9 → 1 ≤ psF g q) (h9 : 0 ≤ g 9) (hf : firF g (g 9) = g 10) : ∀ v, 0 ≤ v → v < g 10 → ∃ q u, (0 ≤ q ∧ q < g 9) ∧ (0 ≤ u ∧ u < psF g q) ∧ v = firF g q + u := by
  intro v v0 v1
  have hl : ∀ n : Nat, (n : Int) ≤ g 9 → v < firF g n → ∃ q u, (0 ≤ q ∧ q < (n : Int)) ∧ (0 ≤ u ∧ u < psF g q) ∧ v = firF g q + u := by
    intro n
    induction n with
    | zero => intro _ b; rw [show firF g ((0 : Nat) : Int) = 0 from rfl] at b; exact absurd b (by omega)
    | succ n ih =>
      intro a b
      by_cases c : v < firF g n
      · obtain ⟨q, u, x1, x2, x3⟩ := ih (by omega) c
        exact ⟨q, u, ⟨x1.1, by omega⟩, x2, x3⟩
      · rw [show ((n + 1 : Nat) : Int) = (n : Int) + 1 by omega, firF_step (by omega)] at b
        exact ⟨n, v - firF g n, ⟨by omega, by omega⟩, ⟨by omega, by omega⟩, by omega⟩
  have := hl (g 9).toNat (by omega) (by rw [Int.toNat_of_nonneg h9, hf]; exact v1)
  rw [Int.toNat_of_nonneg h9] at this
  exact this
theorem SEL.VB {f g : Rw} {s : Int → Int} (h : SEL f g s) (hV : VB f) : VB g := by
  obtain ⟨h1, h2, h3, h4, h5⟩ := h
  have hps : ∀ q, 0 ≤ q → q < g 9 → 1 ≤ psF g q := fun q q0 q1 => by
    obtain ⟨x1, x2, x3, x4⟩ := h5 q q0 q1
    rw [x3]; exact (hV.ps x1.1 x1.2).1
  refine ⟨by rw [h1 0 (by omega)]; exact hV.c, by rw [h1 1 (by omega)]; exact hV.r, by rw [h1 2 (by omega)]; exact hV.g, h2, h3, fun p p0 p1 => ?_, h4, fun v v0 v1 => ?_, fun v k v0 v1 k0 k1 => ?_, fun c r c0 c1 r0 r1 => ?_⟩
  · obtain ⟨x1, x2, x3, x4⟩ := h5 p p0 p1
    rw [x2, x3]; exact ⟨hV.pk x1.1 x1.2, hV.ps x1.1 x1.2⟩
  · obtain ⟨q, u, q1, u1, rfl⟩ := word_part hps h2.1 h4 v v0 v1
    obtain ⟨x1, x2, x3, x4⟩ := h5 q q1.1 q1.2
    rw [x3] at u1
    have hfn := firF_next hV x1.1 x1.2
    rw [(x4 u u1.1 u1.2).1]; exact hV.wn (by omega) (by omega)
  · obtain ⟨q, u, q1, u1, rfl⟩ := word_part hps h2.1 h4 v v0 v1
    obtain ⟨x1, x2, x3, x4⟩ := h5 q q1.1 q1.2
    rw [x3] at u1
    have hfn := firF_next hV x1.1 x1.2
    obtain ⟨y1, y2⟩ := x4 u u1.1 u1.2
    rw [y1] at k1
    have hw := hV.wn (v := firF f (s q) + u) (by omega) (by omega)
    rw [y2 k k0 (by omega)]; exact hV.wb (by omega) (by omega) k0 k1
  · rw [show fcF g c r = fcF f c r from h1 _ (by omega)]; exact hV.fc c0 c1 r0 r1
/-- the first q parts of g -/
def trF (g : Rw) (q : Int) : Rw := fun i => if i = 9 then q else if i = 10 then firF g q else g i
/-- and u words of the next one -/
def tuW (g : Rw) (q u : Int) : Rw := fun i => if i = 9 then q + 1 else if i = 10 then firF g q + u else if i = 299 + 2 * q + 1 then u else g i
theorem takePart_o {w : Wd} {f g : Rw} {s : Int → Int} {q : Int} (hV : VB f) (hsel : SEL f g s) (hq : 0 ≤ q ∧ q < g 9) (hS : RS w 116 (trF g q)) (hS0 : RS w 100 f) :
    ∃ w', p_X6_takePart 116 100 (s q) w = some w' ∧ frm (SWo 116) (TWo 116) w w' ∧ RS w' 116 (trF g (q + 1)) := by
  have hVg := hsel.VB hV
  obtain ⟨h1, h2, h3, h4, h5⟩ := hsel
  obtain ⟨x1, x2, x3, x4⟩ := h5 q hq.1 hq.2
  have hps := hV.ps x1.1 x1.2
  have hfn := firF_next hV x1.1 x1.2
  have hgn := firF_next hVg hq.1 hq.2
  have hw10 := hV.w
  have hp9 := hV.p
  have hst := firF_step (f := g) hq.1
  rw [x3] at hgn hst
  unfold p_X6_takePart
  rw [firstC_o SLo_0 hV hS0 (by omega), Option.bind_some]
  dsimp only
  rw [sizeC_o SLo_0 hV hS0 x1, Option.bind_some]
  dsimp only
  rw [kindC_o SLo_0 hV hS0 x1, Option.bind_some]
  dsimp only
  have hopn : OPN (trF g q) (tuW g q 0) q (pkF f (s q)) := by
    refine ⟨fun i hi => ?_, ⟨rfl, rfl⟩, ?_, fun p p0 p1 => ⟨?_, ?_⟩, ?_, ?_, fun v v0 v1 => ⟨?_, fun k k0 k1 => ?_⟩⟩
    · unfold tuW trF; rw [if_neg (by omega), if_neg (by omega), if_neg (by omega), if_neg (by omega), if_neg (by omega)]
    · show firF g q + 0 = firF g q; omega
    · unfold pkF tuW trF; rw [if_neg (by omega), if_neg (by omega), if_neg (by omega), if_neg (by omega), if_neg (by omega)]
    · unfold psF tuW trF; rw [if_neg (by omega), if_neg (by omega), if_neg (by omega), if_neg (by omega), if_neg (by omega)]
    · unfold pkF tuW; rw [if_neg (by omega), if_neg (by omega), if_neg (by omega)]; exact x2
    · unfold psF tuW; rw [if_neg (by omega), if_neg (by omega), if_pos (by omega)]
    · unfold wnF tuW trF; rw [if_neg (by omega), if_neg (by omega), if_neg (by omega), if_neg (by omega), if_neg (by omega)]
    · unfold wbF tuW trF; rw [if_neg (by omega), if_neg (by omega), if_neg (by omega), if_neg (by omega), if_neg (by omega)]
  obtain ⟨w1, a1, a2, a3⟩ := openPart_o SLo_1 hS hopn (by omega)
  rw [a1, Option.bind_some]
  have keep0 : ∀ w', frm (SWo 116) (TWo 116) w w' → RS w' 100 f := fun w' hf => hS0.fr hf (fun d k _ hh => by have := hh.1; omega) (fun d _ hh => by unfold TWo at hh; omega)
  obtain ⟨w2, b1, b2', b3, b4⟩ := loop_up (lp := fun n x w => p_X6_takePart_33 116 100 n (firF f (s q) + psF f (s q)) x w) (fin := some) (b := firF f (s q) + psF f (s q))
    (I := fun x w' => firF f (s q) ≤ x ∧ frm (SWo 116) (TWo 116) w w' ∧ RS w' 116 (tuW g q (x - firF f (s q))))
    (fun n x w' hx hI => by
      obtain ⟨i0, i1, i2⟩ := hI
      have hS0' := keep0 w' i1
      obtain ⟨u, hu⟩ : ∃ u, x - firF f (s q) = u := ⟨_, rfl⟩
      rw [hu] at i2
      obtain ⟨y1, y2⟩ := x4 u (by omega) (by omega)
      have hwn := hV.wn (v := x) (by omega) (by omega)
      rw [show firF f (s q) + u = x by omega] at y1 y2
      have hwrd : WRD (tuW g q u) (tuW g q (u + 1)) (q + 1) (firF g q + u) (wnF f x) := by
        refine ⟨fun i hi => ?_, ⟨rfl, rfl⟩, ⟨rfl, ?_⟩, fun p p0 p1 => ?_, fun p p0 p1 => ?_, ?_, fun v v0 v1 => ⟨?_, fun k k0 k1 => ?_⟩, ?_⟩
        · unfold tuW; rw [if_neg (by omega), if_neg (by omega), if_neg (by omega), if_neg (by omega), if_neg (by omega), if_neg (by omega)]
        · show firF g q + (u + 1) = firF g q + u + 1; omega
        · unfold pkF tuW; rw [if_neg (by omega), if_neg (by omega), if_neg (by omega), if_neg (by omega), if_neg (by omega), if_neg (by omega)]
        · unfold psF tuW; rw [if_neg (by omega), if_neg (by omega), if_neg (by omega), if_neg (by omega), if_neg (by omega), if_neg (by omega)]
        · unfold psF tuW; rw [if_neg (by omega), if_neg (by omega), if_pos (by omega), if_neg (by omega), if_neg (by omega), if_pos (by omega)]
        · unfold wnF tuW; rw [if_neg (by omega), if_neg (by omega), if_neg (by omega), if_neg (by omega), if_neg (by omega), if_neg (by omega)]
        · unfold wbF tuW; rw [if_neg (by omega), if_neg (by omega), if_neg (by omega), if_neg (by omega), if_neg (by omega), if_neg (by omega)]
        · rw [← y1]; unfold wnF tuW; rw [if_neg (by omega), if_neg (by omega), if_neg (by omega)]
      obtain ⟨w3, c1, c2, c3⟩ := takeWord_o (src := 109) SLo_1 i2 hwrd (start := x * 12) (by omega) (by omega) hwn (fun v v0 v1 => by
          rw [show wnF (tuW g q u) v = wnF g v by unfold wnF tuW; rw [if_neg (by omega), if_neg (by omega), if_neg (by omega)]]
          exact (hVg.wn v0 (by omega)).2)
        ⟨by omega, by rw [show ln (109 + 1) = 720 from SLo_0.l10]; omega⟩ (by omega) (fun k k0 k1 => by
          rw [show wbF (tuW g q (u + 1)) (firF g q + u) k = wbF g (firF g q + u) k by unfold wbF tuW; rw [if_neg (by omega), if_neg (by omega), if_neg (by omega)], y2 k k0 (by omega)]
          exact (hS0'.2.2.2.2.2.1 x k (by omega) (by omega) k0 k1).symm)
      simp (disch := omega) only [p_X6_takePart_33, lt32_o, hx, if_true]
      rw [show p_X5_at (100 + 7) x w' = some (wnF f x, w') from lenC_o SLo_0 hV hS0' (by omega), Option.bind_some]
      dsimp only
      rw [show p_X6_takeWord 116 (100 + 9) (x * 12) (wnF f x) w' = some w3 from c1, Option.bind_some]
      refine ⟨w3, rfl, by omega, frm_trans i1 c2, ?_⟩
      rw [show x + 1 - firF f (s q) = u + 1 by omega]; exact c3)
    (fun n w' hI => by simp (disch := omega) only [p_X6_takePart_33, lt32_o, Int.lt_irrefl, if_false])
    FU (firF f (s q)) w1 (by omega) ⟨Int.le_refl _, a2, by rw [Int.sub_self]; exact a3⟩ (by have : FU = 1000000 := rfl; omega)
  refine ⟨w2, b1, b3, ?_⟩
  rw [show firF f (s q) + psF f (s q) - firF f (s q) = psF f (s q) by omega] at b4
  have e : tuW g q (psF f (s q)) = trF g (q + 1) := funext fun i => by
    unfold tuW trF
    by_cases d1 : i = 9
    · rw [if_pos d1, if_pos d1]
    · rw [if_neg d1, if_neg d1]
      by_cases d2 : i = 10
      · rw [if_pos d2, if_pos d2]; exact hst.symm
      · rw [if_neg d2, if_neg d2]
        by_cases d3 : i = 299 + 2 * q + 1
        · rw [if_pos d3, d3, ← x3]; rfl
        · rw [if_neg d3]
  rw [← e]; exact b4
