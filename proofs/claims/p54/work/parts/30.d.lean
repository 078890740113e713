/-! ===== laying, told once: laid, row, column, rows of the words, columns of the words ===== -/
abbrev Ly : Type := Int × Int × Int × (Int → Int) × (Int → Int)
def upd1 (g : Int → Int) (i v : Int) : Int → Int := fun j => if j = i then v else g j
def fpF (f : Rw) (s : Int) : Nat → Int → Int → Bool × Int × Int
  | 0, r, c => (false, r, c)
  | n + 1, r, c => if r < f 1 then (if c + s ≤ f 0 then (if fitF f c r s then (true, r, c) else fpF f s n r (c + 1)) else fpF f s n (r + 1) 0) else (false, r, c)
def FP0 : Nat := 1000
def lwF (f : Rw) : Nat → Int → Ly → Bool × Ly
  | 0, _, st => (true, st)
  | n + 1, v, st => if (fpF f (wnF f v) FP0 st.2.1 st.2.2.1).1 then lwF f n (v + 1) (v + 1, (fpF f (wnF f v) FP0 st.2.1 st.2.2.1).2.1, (fpF f (wnF f v) FP0 st.2.1 st.2.2.1).2.2 + wnF f v + 1, upd1 st.2.2.2.1 v (fpF f (wnF f v) FP0 st.2.1 st.2.2.1).2.1, upd1 st.2.2.2.2 v (fpF f (wnF f v) FP0 st.2.1 st.2.2.1).2.2) else (false, st)
def mayF (f : Rw) (R C : Int → Int) (a b d : Int) : Bool := allb (fun v => fitF f (C v + d) (R v) (wnF f v)) (b - a).toNat a
def mbF (f : Rw) (R C : Int → Int) (a b : Int) : Nat → Int
  | 0 => 0
  | n + 1 => if mayF f R C a b ((n : Int) + 1) then (n : Int) + 1 else mbF f R C a b n
def mrF (f : Rw) (R C : Int → Int) (a b : Int) : Int → Int := fun j => if a ≤ j ∧ j < b then C j + mbF f R C a b ((f 0 - C (b - 1) - wnF f (b - 1)) / 2).toNat else C j
def ceF (f : Rw) (R : Int → Int) (to : Int) : Nat → Int → Int → (Int → Int) → (Int → Int)
  | 0, _, _, C => C
  | n + 1, a, x, C => if x < to ∧ R x = R a then ceF f R to n a (x + 1) C else (if x < to then ceF f R to n x (x + 1) (mrF f R C a x) else mrF f R C a x)
def lpF (f : Rw) (p : Int) (st : Ly) : Bool × Ly :=
  if (lwF f (psF f p).toNat st.1 st).1 then
    (true, ((lwF f (psF f p).toNat st.1 st).2.1, (lwF f (psF f p).toNat st.1 st).2.2.1 + (f 2 + 1), 0, (lwF f (psF f p).toNat st.1 st).2.2.2.2.1,
      if pkF f p = 0 then ceF f (lwF f (psF f p).toNat st.1 st).2.2.2.2.1 (st.1 + psF f p) 100 st.1 (st.1 + 1) (lwF f (psF f p).toNat st.1 st).2.2.2.2.2 else (lwF f (psF f p).toNat st.1 st).2.2.2.2.2))
  else lwF f (psF f p).toNat st.1 st
def lyF (f : Rw) : Nat → Int → Ly → Ly
  | 0, _, st => st
  | n + 1, p, st => if (lpF f p st).1 then lyF f n (p + 1) (lpF f p st).2 else (lpF f p st).2
def L0 : Ly := (0, 0, 0, fun _ => 0, fun _ => 0)
def lF (f : Rw) : Ly := lyF f (f 9).toNat 0 L0
def nLF (f : Rw) : Int := (lF f).1
def rLF (f : Rw) : Int → Int := (lF f).2.2.2.1
def cLF (f : Rw) : Int → Int := (lF f).2.2.2.2
/-- what holds of words that are laid -/
def VL (f : Rw) (n : Int) (R C : Int → Int) : Prop :=
  (∀ i, 0 ≤ i → i < n → 0 ≤ R i ∧ R i < f 1 ∧ 0 ≤ C i ∧ fitF f (C i) (R i) (wnF f i) = true) ∧ (∀ i j, 0 ≤ i → i ≤ j → j < n → R i ≤ R j)
/-- what holds between two words -/
def VS (f : Rw) (v : Int) (st : Ly) : Prop :=
  st.1 = v ∧ VL f v st.2.2.2.1 st.2.2.2.2 ∧ (0 ≤ st.2.1 ∧ st.2.1 ≤ 15) ∧ (0 ≤ st.2.2.1 ∧ st.2.2.1 ≤ 25) ∧ (∀ i, 0 ≤ i → i < v → st.2.2.2.1 i ≤ st.2.1) ∧
  laF f v ≤ 24 * st.2.1 + (if st.2.2.1 = 0 then 0 else st.2.2.1 - 1) ∧ laF f v ≤ 288
theorem fitF_w {f : Rw} {c r s : Int} (h : fitF f c r s = true) : c + s ≤ f 0 := of_decide_eq_true (Bool.and_eq_true _ _ ▸ h).1
theorem fpF_ok {f : Rw} {s : Int} : ∀ (n : Nat) (r c : Int), 0 ≤ r → 0 ≤ c → (fpF f s n r c).1 = true →
    r ≤ (fpF f s n r c).2.1 ∧ (fpF f s n r c).2.1 < f 1 ∧ ((fpF f s n r c).2.1 = r → c ≤ (fpF f s n r c).2.2) ∧ 0 ≤ (fpF f s n r c).2.2 ∧ fitF f (fpF f s n r c).2.2 (fpF f s n r c).2.1 s = true := by
  intro n
  induction n with
  | zero => intro r c _ _ h; exact absurd (show false = true from h) (by decide)
  | succ n ih =>
    intro r c h0 h1 h
    unfold fpF at h ⊢
    by_cases c1 : r < f 1
    · rw [if_pos c1] at h ⊢
      by_cases c2 : c + s ≤ f 0
      · rw [if_pos c2] at h ⊢
        by_cases c3 : fitF f c r s = true
        · rw [if_pos c3]; exact ⟨Int.le_refl _, c1, fun _ => Int.le_refl _, h1, c3⟩
        · rw [if_neg c3] at h ⊢
          obtain ⟨a1, a2, a3, a4, a5⟩ := ih r (c + 1) h0 (by omega) h
          exact ⟨a1, a2, fun e => by have := a3 e; omega, a4, a5⟩
      · rw [if_neg c2] at h ⊢
        obtain ⟨a1, a2, a3, a4, a5⟩ := ih (r + 1) 0 (by omega) (by omega) h
        exact ⟨by omega, a2, fun e => by omega, a4, a5⟩
    · rw [if_neg c1] at h; exact absurd h (by simp)
theorem upd1_s (g : Int → Int) (i v : Int) : upd1 g i v i = v := if_pos rfl
theorem upd1_n (g : Int → Int) {i j : Int} (v : Int) (h : j ≠ i) : upd1 g i v j = g j := if_neg h
/-- one word more -/
theorem VS_word {f : Rw} (hV : VB f) {v : Int} {st : Ly} (h0 : 0 ≤ v) (h1 : v < f 10) (h : VS f v st) (hok : (fpF f (wnF f v) FP0 st.2.1 st.2.2.1).1 = true) :
    VS f (v + 1) (v + 1, (fpF f (wnF f v) FP0 st.2.1 st.2.2.1).2.1, (fpF f (wnF f v) FP0 st.2.1 st.2.2.1).2.2 + wnF f v + 1, upd1 st.2.2.2.1 v (fpF f (wnF f v) FP0 st.2.1 st.2.2.1).2.1, upd1 st.2.2.2.2 v (fpF f (wnF f v) FP0 st.2.1 st.2.2.1).2.2) := by
  obtain ⟨e1, ⟨e2, e3⟩, e4, e5, e6, e7, e8⟩ := h
  obtain ⟨a1, a2, a3, a4, a5⟩ := fpF_ok FP0 st.2.1 st.2.2.1 e4.1 e5.1 hok
  have hw := hV.wn h0 h1
  have hr := hV.r
  have hc := hV.c
  have hfit := fitF_w a5
  generalize (fpF f (wnF f v) FP0 st.2.1 st.2.2.1).2.1 = r at *
  generalize (fpF f (wnF f v) FP0 st.2.1 st.2.2.1).2.2 = c at *
  have hl : laF f (v + 1) ≤ 24 * r + (c + wnF f v) := by
    rw [laF_step h0]
    by_cases d : r = st.2.1
    · have := a3 d
      by_cases d2 : st.2.2.1 = 0
      · rw [if_pos d2] at e7; omega
      · rw [if_neg d2] at e7; omega
    · by_cases d2 : st.2.2.1 = 0
      · rw [if_pos d2] at e7; omega
      · rw [if_neg d2] at e7; omega
  refine ⟨rfl, ⟨?_, ?_⟩, ⟨by show 0 ≤ r; omega, by show r ≤ 15; omega⟩, ⟨by show 0 ≤ c + wnF f v + 1; omega, by show c + wnF f v + 1 ≤ 25; omega⟩, ?_, ?_, by omega⟩
  · intro i i0 i1
    show 0 ≤ upd1 _ v r i ∧ upd1 _ v r i < f 1 ∧ 0 ≤ upd1 _ v c i ∧ fitF f (upd1 _ v c i) (upd1 _ v r i) (wnF f i) = true
    by_cases d : i = v
    · subst d; rw [upd1_s, upd1_s]; exact ⟨by omega, a2, a4, a5⟩
    · rw [upd1_n _ _ d, upd1_n _ _ d]; exact e2 i i0 (by omega)
  · intro i j i0 ij j1
    show upd1 _ v r i ≤ upd1 _ v r j
    by_cases d : j = v
    · by_cases d2 : i = v
      · rw [d, d2]; exact Int.le_refl _
      · rw [d, upd1_s, upd1_n _ _ d2]; have := e6 i i0 (by omega); omega
    · rw [upd1_n _ _ d, upd1_n _ _ (show i ≠ v by omega)]; exact e3 i j i0 ij (by omega)
  · intro i i0 i1
    show upd1 _ v r i ≤ r
    by_cases d : i = v
    · rw [d, upd1_s]; exact Int.le_refl _
    · rw [upd1_n _ _ d]; have := e6 i i0 (by omega); omega
  · show laF f (v + 1) ≤ 24 * r + (if c + wnF f v + 1 = 0 then 0 else c + wnF f v + 1 - 1)
    rw [if_neg (by omega)]; omega
/-- all words of a part -/
theorem lwF_ok {f : Rw} (hV : VB f) : ∀ (n : Nat) (v : Int) (st : Ly), 0 ≤ v → v + n ≤ f 10 → VS f v st →
    ((lwF f n v st).1 = true → VS f (v + n) (lwF f n v st).2) ∧ ((lwF f n v st).1 = false → ∃ u, v ≤ u ∧ u < v + n ∧ VS f u (lwF f n v st).2) := by
  intro n
  induction n with
  | zero => intro v st h0 h1 h; exact ⟨fun _ => by rw [show v + ((0 : Nat) : Int) = v by omega]; exact h, fun e => absurd (show true = false from e) (by decide)⟩
  | succ n ih =>
    intro v st h0 h1 h
    unfold lwF
    by_cases c : (fpF f (wnF f v) FP0 st.2.1 st.2.2.1).1 = true
    · rw [if_pos c]
      have h3 := ih (v + 1) _ (by omega) (by omega) (VS_word hV h0 (by omega) h c)
      refine ⟨fun e => ?_, fun e => ?_⟩
      · have := h3.1 e; rwa [show v + 1 + (n : Int) = v + ((n + 1 : Nat) : Int) by omega] at this
      · obtain ⟨u, a1, a2, a3⟩ := h3.2 e; exact ⟨u, by omega, by omega, a3⟩
    · rw [if_neg c]
      exact ⟨fun e => absurd e (by simp), fun _ => ⟨v, by omega, by omega, h⟩⟩
theorem lwF_row {f : Rw} (hV : VB f) : ∀ (n : Nat) (v : Int) (st : Ly), 0 ≤ v → v + n ≤ f 10 → VS f v st → (st.2.1 < f 1 ∨ 1 ≤ n) → (lwF f n v st).1 = true → (lwF f n v st).2.2.1 < f 1 := by
  intro n
  induction n with
  | zero => intro v st _ _ _ h _; exact h.resolve_right (by omega)
  | succ n ih =>
    intro v st h0 h1 h _ hok
    unfold lwF at hok ⊢
    by_cases c : (fpF f (wnF f v) FP0 st.2.1 st.2.2.1).1 = true
    · rw [if_pos c] at hok ⊢
      exact ih (v + 1) _ (by omega) (by omega) (VS_word hV h0 (by omega) h c) (Or.inl (fpF_ok FP0 _ _ h.2.2.1.1 h.2.2.2.1.1 c).2.1) hok
    · rw [if_neg c] at hok; exact absurd hok (by simp)
theorem mbF_ok {f : Rw} {R C : Int → Int} {a b : Int} : ∀ n : Nat, 0 ≤ mbF f R C a b n ∧ mbF f R C a b n ≤ n ∧ (mbF f R C a b n = 0 ∨ mayF f R C a b (mbF f R C a b n) = true) := by
  intro n
  induction n with
  | zero => exact ⟨Int.le_refl _, Int.le_refl _, Or.inl rfl⟩
  | succ n ih =>
    unfold mbF
    by_cases c : mayF f R C a b ((n : Int) + 1) = true
    · rw [if_pos c]; exact ⟨by omega, by omega, Or.inr c⟩
    · rw [if_neg c]; exact ⟨ih.1, by omega, ih.2.2⟩
theorem mayF_0 {f : Rw} {n : Int} {R C : Int → Int} (h : VL f n R C) {a b : Int} (ha : 0 ≤ a) (hb : b ≤ n) : mayF f R C a b 0 = true := by
  unfold mayF
  rw [allb_iff]
  intro i h1 h2
  show fitF f (C i + 0) (R i) (wnF f i) = true
  rw [Int.add_zero]
  exact (h.1 i (by omega) (by omega)).2.2.2
theorem mrF_ok {f : Rw} {n : Int} {R C : Int → Int} (h : VL f n R C) {a b : Int} (ha : 0 ≤ a) (hb : b ≤ n) : VL f n R (mrF f R C a b) := by
  refine ⟨fun i i0 i1 => ?_, h.2⟩
  obtain ⟨h1, h2, h3, h4⟩ := h.1 i i0 i1
  refine ⟨h1, h2, ?_⟩
  unfold mrF
  by_cases c : a ≤ i ∧ i < b
  · rw [if_pos c]
    obtain ⟨m1, m2, m3⟩ := mbF_ok (f := f) (R := R) (C := C) (a := a) (b := b) ((f 0 - C (b - 1) - wnF f (b - 1)) / 2).toNat
    refine ⟨by omega, ?_⟩
    rcases m3 with m3 | m3
    · rw [m3, Int.add_zero]; exact h4
    · unfold mayF at m3
      rw [allb_iff] at m3
      exact m3 i c.1 (by omega)
  · rw [if_neg c]; exact ⟨h3, h4⟩
theorem ceF_ok {f : Rw} {n to : Int} {R : Int → Int} (hto : to ≤ n) : ∀ (k : Nat) (a x : Int) (C : Int → Int), 0 ≤ a → a ≤ x → x ≤ to → VL f n R C → VL f n R (ceF f R to k a x C) := by
  intro k
  induction k with
  | zero => intro a x C _ _ _ h; exact h
  | succ k ih =>
    intro a x C h0 h1 h2 h
    unfold ceF
    by_cases c : x < to ∧ R x = R a
    · rw [if_pos c]; exact ih a (x + 1) C h0 (by omega) (by omega) h
    · rw [if_neg c]
      by_cases c2 : x < to
      · rw [if_pos c2]; exact ih x (x + 1) _ (by omega) (by omega) (by omega) (mrF_ok h h0 (by omega))
      · rw [if_neg c2]; exact mrF_ok h h0 (by omega)
/-- what holds between two parts -/
theorem lpF_ok {f : Rw} (hV : VB f) {p : Int} {st : Ly} (h0 : 0 ≤ p) (h1 : p < f 9) (h : VS f (firF f p) st) (hr : st.2.1 ≤ 15) :
    ((lpF f p st).1 = true → VS f (firF f (p + 1)) (lpF f p st).2) ∧ ((lpF f p st).1 = false → ∃ u, firF f p ≤ u ∧ u < firF f (p + 1) ∧ VS f u (lpF f p st).2) := by
  have hps := hV.ps h0 h1
  have hfn := firF_next hV h0 h1
  have hg := hV.g
  have hfr := hV.r
  have hn : ((psF f p).toNat : Int) = psF f p := Int.toNat_of_nonneg (by omega)
  have hst : st.1 = firF f p := h.1
  have hw := lwF_ok hV (psF f p).toNat st.1 st (by rw [hst]; exact hfn.1) (by rw [hst, hn]; exact hfn.2) (by rw [hst]; exact h)
  rw [hst, hn, ← firF_step h0] at hw
  unfold lpF
  rw [hst, ← firF_step h0]
  by_cases c : (lwF f (psF f p).toNat (firF f p) st).1 = true
  · rw [if_pos c]
    refine ⟨fun _ => ?_, fun e => absurd e (by simp)⟩
    obtain ⟨a1, a2, a3, a4, a5, a6, a7⟩ := hw.1 c
    have e9 : firF f (p + 1) = firF f p + psF f p := firF_step h0
    have hrow : (lwF f (psF f p).toNat (firF f p) st).2.2.1 ≤ 11 := by
      have := lwF_row hV (psF f p).toNat (firF f p) st hfn.1 (by omega) h (Or.inr (by omega)) c
      omega
    refine ⟨a1, ?_, ⟨by show 0 ≤ _ + (f 2 + 1); omega, by show _ + (f 2 + 1) ≤ 15; omega⟩, ⟨Int.le_refl 0, by show (0 : Int) ≤ 25; decide⟩, ?_, ?_, a7⟩
    · show VL f _ _ (if pkF f p = 0 then _ else _)
      by_cases c2 : pkF f p = 0
      · rw [if_pos c2]; exact ceF_ok (Int.le_refl _) _ _ _ _ hfn.1 (by omega) (by omega) a2
      · rw [if_neg c2]; exact a2
    · intro i i0 i1
      show (lwF f (psF f p).toNat (firF f p) st).2.2.2.2.1 i ≤ (lwF f (psF f p).toNat (firF f p) st).2.2.1 + (f 2 + 1)
      have := a5 i i0 i1
      omega
    · show laF f (firF f (p + 1)) ≤ 24 * (_ + (f 2 + 1)) + (if (0 : Int) = 0 then 0 else 0 - 1)
      rw [if_pos rfl]
      split at a6 <;> omega
  · rw [if_neg c]
    exact ⟨fun e => absurd e c, fun e => hw.2 e⟩
theorem lyF_ok {f : Rw} (hV : VB f) : ∀ (n : Nat) (p : Int) (st : Ly), 0 ≤ p → p + n = f 9 → VS f (firF f p) st → ∃ u, firF f p ≤ u ∧ u ≤ f 10 ∧ VS f u (lyF f n p st) := by
  intro n
  induction n with
  | zero => intro p st h0 h1 h; exact ⟨firF f p, Int.le_refl _, (firF_rng hV (by omega)).2, h⟩
  | succ n ih =>
    intro p st h0 h1 h
    have hs : firF f (p + 1) = firF f p + psF f p := firF_step h0
    have hps := hV.ps h0 (show p < f 9 by omega)
    have hfn := firF_next hV h0 (show p < f 9 by omega)
    have h2 := lpF_ok hV h0 (by omega) h h.2.2.1.2
    unfold lyF
    by_cases c : (lpF f p st).1 = true
    · rw [if_pos c]
      obtain ⟨u, a1, a2, a3⟩ := ih (p + 1) _ (by omega) (by omega) (h2.1 c)
      exact ⟨u, by omega, a2, a3⟩
    · rw [if_neg c]
      obtain ⟨u, a1, a2, a3⟩ := h2.2 (bfF c)
      exact ⟨u, a1, by omega, a3⟩
theorem VS_0 {f : Rw} : VS f 0 L0 := ⟨rfl, ⟨fun i h0 h1 => absurd h1 (by omega), fun i j h0 h1 h2 => absurd h2 (by omega)⟩, ⟨by decide, by decide⟩, ⟨by decide, by decide⟩, fun i h0 h1 => absurd h1 (by omega), by rw [laF_0]; decide, by rw [laF_0]; decide⟩
theorem lF_ok {f : Rw} (hV : VB f) : 0 ≤ nLF f ∧ nLF f ≤ f 10 ∧ VL f (nLF f) (rLF f) (cLF f) ∧ laF f (nLF f) ≤ 288 := by
  have h9 := hV.p
  obtain ⟨u, a1, a2, a3⟩ := lyF_ok hV (f 9).toNat 0 L0 (by decide) (by omega) VS_0
  have e : nLF f = u := a3.1
  rw [firF_0] at a1
  rw [e]
  exact ⟨a1, a2, a3.2.1, a3.2.2.2.2.2.2⟩
