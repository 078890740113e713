/-! ===== laying rests on few cells ===== -/
def EXT (f g : Rw) (P N : Int) : Prop := (f 0 = g 0 ∧ f 1 = g 1 ∧ f 2 = g 2) ∧ (∀ x y, flF f x y = flF g x y) ∧ (∀ p, 0 ≤ p → p < P → pkF f p = pkF g p ∧ psF f p = psF g p) ∧ ∀ v, 0 ≤ v → v < N → wnF f v = wnF g v
section EX
variable {f g : Rw} {P N : Int}
theorem fitF_ext (h : EXT f g P N) (c r s : Int) : fitF f c r s = fitF g c r s := by
  unfold fitF
  rw [h.1.1]
  have : (fun x => !flF f x r) = (fun x => !flF g x r) := funext fun x => by rw [h.2.1]
  rw [this]
theorem fpF_ext (h : EXT f g P N) (s : Int) : ∀ (n : Nat) (r c : Int), fpF f s n r c = fpF g s n r c := by
  intro n
  induction n with
  | zero => intro r c; rfl
  | succ n ih =>
    intro r c
    unfold fpF
    rw [h.1.1, h.1.2.1, fitF_ext h, ih r (c + 1), ih (r + 1) 0]
theorem lwF_ext (h : EXT f g P N) : ∀ (n : Nat) (v : Int) (st : Ly), 0 ≤ v → v + n ≤ N → lwF f n v st = lwF g n v st := by
  intro n
  induction n with
  | zero => intro v st _ _; rfl
  | succ n ih =>
    intro v st h0 h1
    unfold lwF
    rw [h.2.2.2 v h0 (by omega), fpF_ext h]
    by_cases c : (fpF g (wnF g v) FP0 st.2.1 st.2.2.1).1 = true
    · rw [if_pos c, if_pos c]; exact ih (v + 1) _ (by omega) (by omega)
    · rw [if_neg c, if_neg c]
theorem allb_congr {p q : Int → Bool} : ∀ (n : Nat) (x : Int), (∀ i, x ≤ i → i < x + n → p i = q i) → allb p n x = allb q n x := by
  intro n
  induction n with
  | zero => intro x _; rfl
  | succ n ih =>
    intro x h
    show (p x && allb p n (x + 1)) = (q x && allb q n (x + 1))
    rw [h x (by omega) (by omega), ih (x + 1) (fun i h1 h2 => h i (by omega) (by omega))]
theorem mayF_ext (h : EXT f g P N) {R C : Int → Int} {a b d : Int} (ha : 0 ≤ a) (hb : b ≤ N) : mayF f R C a b d = mayF g R C a b d := by
  unfold mayF
  refine allb_congr _ _ fun i i0 i1 => ?_
  show fitF f (C i + d) (R i) (wnF f i) = fitF g (C i + d) (R i) (wnF g i)
  rw [h.2.2.2 i (by omega) (by omega), fitF_ext h]
theorem mbF_ext (h : EXT f g P N) {R C : Int → Int} {a b : Int} (ha : 0 ≤ a) (hb : b ≤ N) : ∀ n : Nat, mbF f R C a b n = mbF g R C a b n := by
  intro n
  induction n with
  | zero => rfl
  | succ n ih =>
    unfold mbF
    rw [mayF_ext h ha hb, ih]
theorem mrF_ext (h : EXT f g P N) {R C : Int → Int} {a b : Int} (ha : 0 ≤ a) (hab : a < b) (hb : b ≤ N) : mrF f R C a b = mrF g R C a b := by
  unfold mrF
  funext j
  rw [mbF_ext h ha hb, h.1.1, h.2.2.2 (b - 1) (by omega) (by omega)]
theorem ceF_ext (h : EXT f g P N) {R : Int → Int} {to : Int} (hto : to ≤ N) : ∀ (n : Nat) (a x : Int) (C : Int → Int), 0 ≤ a → a < x → x ≤ to → ceF f R to n a x C = ceF g R to n a x C := by
  intro n
  induction n with
  | zero => intro a x C _ _ _; rfl
  | succ n ih =>
    intro a x C h0 h1 h2
    unfold ceF
    rw [mrF_ext h h0 h1 (by omega)]
    by_cases c : x < to ∧ R x = R a
    · rw [if_pos c, if_pos c]; exact ih a (x + 1) C h0 (by omega) (by omega)
    · rw [if_neg c, if_neg c]
      by_cases c2 : x < to
      · rw [if_pos c2, if_pos c2]; exact ih x (x + 1) _ (by omega) (by omega) (by omega)
      · rw [if_neg c2, if_neg c2]
theorem lpF_ext (h : EXT f g P N) {p : Int} {st : Ly} (h0 : 0 ≤ p) (h1 : p < P) (h2 : 0 ≤ st.1) (h3 : 1 ≤ psF f p) (h4 : st.1 + psF f p ≤ N) : lpF f p st = lpF g p st := by
  obtain ⟨e1, e2⟩ := h.2.2.1 p h0 h1
  have hl := lwF_ext h (psF f p).toNat st.1 st h2 (by omega)
  have hc := fun R C => ceF_ext h (R := R) (to := st.1 + psF f p) h4 100 st.1 (st.1 + 1) C h2 (by omega) (by omega)
  unfold lpF
  rw [← e1, ← e2, hl, h.1.2.2]
  simp only [hc]
theorem lyF_ext (h : EXT f g P N) (hV : VB f) (hN : N ≤ f 10) (hP : P ≤ f 9) : ∀ (n : Nat) (p : Int) (st : Ly), 0 ≤ p → p + n ≤ P → firF f (p + n) ≤ N → VS f (firF f p) st → lyF f n p st = lyF g n p st := by
  intro n
  induction n with
  | zero => intro p st _ _ _ _; rfl
  | succ n ih =>
    intro p st h0 h1 h2 hS
    have hps := hV.ps h0 (show p < f 9 by omega)
    have hm := firF_mono hV (show p + 1 ≤ p + ((n + 1 : Nat) : Int) by omega) (by omega)
    rw [firF_step h0] at hm
    have hf0 := (firF_rng hV (show p ≤ f 9 by omega)).1
    have e1 : st.1 = firF f p := hS.1
    have hlp := lpF_ext h (st := st) h0 (by omega) (by omega) hps.1 (by omega)
    have hok := lpF_ok hV h0 (show p < f 9 by omega) hS hS.2.2.1.2
    unfold lyF
    rw [← hlp]
    by_cases c : (lpF f p st).1 = true
    · rw [if_pos c, if_pos c]
      exact ih (p + 1) _ (by omega) (by omega) (by rw [show p + 1 + (n : Int) = p + ((n + 1 : Nat) : Int) by omega]; exact h2) (hok.1 c)
    · rw [if_neg c, if_neg c]
theorem lF_ext (h : EXT f g (f 9) (f 10)) (hV : VB f) (h9 : g 9 = f 9) : lF f = lF g := by
  have hp := hV.p
  unfold lF
  rw [h9]
  exact lyF_ext h hV (Int.le_refl _) (Int.le_refl _) _ 0 L0 (Int.le_refl _) (by omega) (by rw [Int.zero_add, Int.toNat_of_nonneg hp.1, hV.fir]; exact Int.le_refl _) VS_0
theorem lwF_ge : ∀ (n : Nat) (v : Int) (st : Ly), st.1 = v → v ≤ (lwF f n v st).2.1 := by
  intro n
  induction n with
  | zero => intro v st h; rw [← h]; exact Int.le_refl _
  | succ n ih =>
    intro v st h
    unfold lwF
    by_cases c : (fpF f (wnF f v) FP0 st.2.1 st.2.2.1).1 = true
    · rw [if_pos c]
      have := ih (v + 1) (v + 1, (fpF f (wnF f v) FP0 st.2.1 st.2.2.1).2.1, (fpF f (wnF f v) FP0 st.2.1 st.2.2.1).2.2 + wnF f v + 1, upd1 st.2.2.2.1 v (fpF f (wnF f v) FP0 st.2.1 st.2.2.1).2.1, upd1 st.2.2.2.2 v (fpF f (wnF f v) FP0 st.2.1 st.2.2.1).2.2) rfl
      omega
    · rw [if_neg c]; show v ≤ st.1; omega
theorem lpF_ge (p : Int) (st : Ly) : st.1 ≤ (lpF f p st).2.1 := by
  have h := lwF_ge (f := f) (psF f p).toNat st.1 st rfl
  unfold lpF
  by_cases c : (lwF f (psF f p).toNat st.1 st).1 = true
  · rw [if_pos c]; exact h
  · rw [if_neg c]; exact h
theorem lyF_more : ∀ (n : Nat) (p : Int) (st : Ly), (lyF f n p st).1 ≤ (lyF f (n + 1) p st).1 := by
  intro n
  induction n with
  | zero =>
    intro p st
    have h := lpF_ge (f := f) p st
    show st.1 ≤ (lyF f 1 p st).1
    unfold lyF
    by_cases c : (lpF f p st).1 = true
    · rw [if_pos c]; exact h
    · rw [if_neg c]; exact h
  | succ n ih =>
    intro p st
    have e : ∀ m, lyF f (m + 1) p st = if (lpF f p st).1 then lyF f m (p + 1) (lpF f p st).2 else (lpF f p st).2 := fun m => rfl
    rw [e n, e (n + 1)]
    by_cases c : (lpF f p st).1 = true
    · rw [if_pos c, if_pos c]; exact ih (p + 1) _
    · rw [if_neg c, if_neg c]; exact Int.le_refl _
end EX
/-- rows that differ in the chisel and in what is carved alone -/
def SAM (f g : Rw) : Prop := ∀ i, ¬ (3 ≤ i ∧ i ≤ 8) → g i = f i
theorem SAM.ext {f g : Rw} (h : SAM f g) : EXT f g (f 9) (f 10) := by
  have h0 : g 0 = f 0 := h 0 (by omega)
  have h1 : g 1 = f 1 := h 1 (by omega)
  refine ⟨⟨h0.symm, h1.symm, (h 2 (by omega)).symm⟩, fun x y => ?_, fun p p0 p1 => ⟨(h _ (by omega)).symm, (h _ (by omega)).symm⟩, fun v v0 v1 => (h _ (by omega)).symm⟩
  unfold flF isCF
  rw [h0, h1]
  by_cases c : 0 ≤ x ∧ x < f 0 ∧ 0 ≤ y ∧ y < f 1
  · rw [show fcF g x y = fcF f x y from h _ (by omega)]
  · rw [decide_eq_false c]; rfl
theorem SAM.lF {f g : Rw} (h : SAM f g) (hV : VB f) : lF g = lF f := (lF_ext h.ext hV (h 9 (by omega))).symm
theorem SAM.la {f g : Rw} (h : SAM f g) (v : Int) : laF g v = laF f v := sm_congr _ fun i i0 i1 => h _ (by omega)
theorem SAM.nL {f g : Rw} (h : SAM f g) (hV : VB f) : laF g (nLF g) = laF f (nLF f) := by
  unfold nLF
  rw [h.lF hV, h.la]
theorem SAM.VB {f g : Rw} (h : SAM f g) (hV : VB f) : VB g := by
  have h0 : g 0 = f 0 := h 0 (by omega)
  have h1 : g 1 = f 1 := h 1 (by omega)
  have h2 : g 2 = f 2 := h 2 (by omega)
  have h9 : g 9 = f 9 := h 9 (by omega)
  have h10 : g 10 = f 10 := h 10 (by omega)
  refine ⟨by rw [h0]; exact hV.c, by rw [h1]; exact hV.r, by rw [h2]; exact hV.g, by rw [h9]; exact hV.p, by rw [h10]; exact hV.w, fun p p0 p1 => ?_, ?_, fun v v0 v1 => ?_, fun v k v0 v1 k0 k1 => ?_, fun c r c0 c1 r0 r1 => ?_⟩
  · rw [h9] at p1
    rw [show pkF g p = pkF f p from h _ (by omega), show psF g p = psF f p from h _ (by omega)]
    exact ⟨hV.pk p0 p1, hV.ps p0 p1⟩
  · rw [h9, h10, ← hV.fir]
    exact sm_congr _ fun i i0 i1 => h _ (by omega)
  · rw [h10] at v1
    rw [show wnF g v = wnF f v from h _ (by omega)]; exact hV.wn v0 v1
  · rw [h10] at v1
    rw [show wnF g v = wnF f v from h _ (by omega)] at k1
    rw [show wbF g v k = wbF f v k from h _ (by omega)]; exact hV.wb v0 v1 k0 k1
  · rw [show fcF g c r = fcF f c r from h _ (by omega)]
    exact hV.fc c0 c1 r0 r1
theorem upd1_SAM {f g : Rw} (h : SAM f g) {i v : Int} (hi : 3 ≤ i ∧ i ≤ 8) : SAM f (upd1 g i v) := fun j hj => (upd1_n g v (by omega)).trans (h j hj)
theorem upd1_Z {f : Rw} (h : Z0 f) {i v : Int} (hi : 0 ≤ i ∧ i < 1099) : Z0 (upd1 f i v) := fun j hj => (upd1_n f v (by omega)).trans (h j hj)
theorem gA_upd (w : Wd) (o : Nat) (i v : Int) : gA (sA w o i v) o = upd1 (gA w o) i v := funext fun j => by
  rw [gA_sA]; unfold upd1
  by_cases c : j = i
  · rw [if_pos ⟨rfl, c⟩, if_pos c]
  · rw [if_neg (fun h => c h.2), if_neg c]
/-- the class's slab, with another chisel and other letters carved -/
theorem RS.sam {w w' : Wd} {o : Nat} {f g : Rw} (h : RS w o f) (hs : SAM f g) (hF : ∀ k, k < 11 → gF w' o k = gF w o k) (h11 : gF w' o 11 = g 8) (hC : gF w' (o + 11) 0 = g 3 ∧ gF w' (o + 11) 1 = g 4 ∧ gF w' (o + 11) 2 = g 5 ∧ gF w' (o + 11) 3 = g 6 ∧ gF w' (o + 11) 4 = g 7) (hA : ∀ d, d < 12 → ∀ i, gA w' (o + d) i = gA w (o + d) i) : RS w' o g := by
  obtain ⟨s1, s2, s3, s4, s5, s6, s7⟩ := h
  have h9 : g 9 = f 9 := hs 9 (by omega)
  have h10 : g 10 = f 10 := hs 10 (by omega)
  refine ⟨⟨?_, ?_, ?_, ?_, ?_, h11⟩, hC, fun r r0 r1 i hi => ?_, fun p p0 p1 => ?_, fun v v0 v1 => ?_, fun v k v0 v1 k0 k1 => ?_, fun c r c0 c1 r0 r1 hh => ?_⟩
  · rw [hF 0 (by decide), hs 0 (by omega)]; exact s1.1
  · rw [hF 1 (by decide), hs 1 (by omega)]; exact s1.2.1
  · rw [hF 2 (by decide), hs 2 (by omega)]; exact s1.2.2.1
  · rw [hF 4 (by decide), h9]; exact s1.2.2.2.1
  · rw [hF 7 (by decide), h10]; exact s1.2.2.2.2.1
  · rw [hA 2 (by decide), show fcF g i r = fcF f i r from hs _ (by omega)]; exact s3 r r0 r1 i hi
  · rw [h9] at p1
    rw [hA 4 (by decide), hA 6 (by decide), show pkF g p = pkF f p from hs _ (by omega), show psF g p = psF f p from hs _ (by omega)]; exact s4 p p0 p1
  · rw [h10] at v1
    rw [hA 8 (by decide), show wnF g v = wnF f v from hs _ (by omega)]; exact s5 v v0 v1
  · rw [h10] at v1
    rw [show wnF g v = wnF f v from hs _ (by omega)] at k1
    rw [hA 10 (by decide), show wbF g v k = wbF f v k from hs _ (by omega)]; exact s6 v k v0 v1 k0 k1
  · rw [show fcF g c r = fcF f c r from hs _ (by omega)] at hh
    have := s7 c r c0 c1 r0 r1 hh
    unfold isCF at this ⊢
    rw [hs 0 (by omega), hs 1 (by omega)]; exact this
