/-! ===== laid words stand apart ===== -/
def G1 (f : Rw) (u : Int) (R C : Int → Int) : Prop := ∀ i j, 0 ≤ i → i < j → j < u → R i = R j → C i + wnF f i + 1 ≤ C j
def G2 (f : Rw) (u : Int) (R : Int → Int) : Prop := ∀ q, 0 ≤ q → q < f 9 → 0 < firF f q → firF f q < u → R (firF f q - 1) + (f 2 + 1) ≤ R (firF f q)
/-- between two words of a part that begins at a -/
def GW (f : Rw) (a v : Int) (st : Ly) : Prop :=
  G1 f v st.2.2.2.1 st.2.2.2.2 ∧ G2 f v st.2.2.2.1 ∧ (∀ i, 0 ≤ i → i < v → st.2.2.2.1 i = st.2.1 → st.2.2.2.2 i + wnF f i + 1 ≤ st.2.2.1) ∧
  (v = a → ∀ i, 0 ≤ i → i < v → st.2.2.2.1 i + (f 2 + 1) ≤ st.2.1) ∧ (a < v → ∀ i, 0 ≤ i → i < a → st.2.2.2.1 i < st.2.2.2.1 a)
theorem GW_word {f : Rw} (hV : VB f) {p v : Int} {st : Ly} (hp : 0 ≤ p ∧ p < f 9) (h0 : firF f p ≤ v) (h1 : v < firF f (p + 1)) (hv : 0 ≤ v ∧ v < f 10) (h : VS f v st) (hG : GW f (firF f p) v st) (hok : (fpF f (wnF f v) FP0 st.2.1 st.2.2.1).1 = true) :
    GW f (firF f p) (v + 1) (v + 1, (fpF f (wnF f v) FP0 st.2.1 st.2.2.1).2.1, (fpF f (wnF f v) FP0 st.2.1 st.2.2.1).2.2 + wnF f v + 1, upd1 st.2.2.2.1 v (fpF f (wnF f v) FP0 st.2.1 st.2.2.1).2.1, upd1 st.2.2.2.2 v (fpF f (wnF f v) FP0 st.2.1 st.2.2.1).2.2) := by
  obtain ⟨e1, ⟨e2, e3⟩, e4, e5, e6, e7, e8⟩ := h
  obtain ⟨g1, g2, g3, g4, g5⟩ := hG
  obtain ⟨a1, a2, a3, a4, a5⟩ := fpF_ok FP0 st.2.1 st.2.2.1 e4.1 e5.1 hok
  have hw := hV.wn hv.1 hv.2
  have hg := hV.g
  have hf0 := firF_rng hV (show p ≤ f 9 by omega)
  generalize (fpF f (wnF f v) FP0 st.2.1 st.2.2.1).2.1 = r at *
  generalize (fpF f (wnF f v) FP0 st.2.1 st.2.2.1).2.2 = c at *
  refine ⟨?_, ?_, ?_, fun e => absurd e (by omega), ?_⟩
  · intro i j i0 ij j1
    show upd1 _ v r i = upd1 _ v r j → upd1 _ v c i + wnF f i + 1 ≤ upd1 _ v c j
    rw [upd1_n _ _ (show i ≠ v by omega), upd1_n _ _ (show i ≠ v by omega)]
    by_cases d : j = v
    · rw [d, upd1_s, upd1_s]
      intro hr
      have h3 := e6 i i0 (by omega)
      have h5 := a3 (by omega)
      have h6 := g3 i i0 (by omega) (by omega)
      omega
    · rw [upd1_n _ _ d, upd1_n _ _ d]
      exact g1 i j i0 ij (by omega)
  · intro q q0 q1 q2 q3
    show upd1 _ v r (firF f q - 1) + (f 2 + 1) ≤ upd1 _ v r (firF f q)
    rw [upd1_n _ _ (show firF f q - 1 ≠ v by omega)]
    by_cases d : firF f q = v
    · rw [d, upd1_s]
      by_cases d2 : v = firF f p
      · have := g4 d2 (v - 1) (by omega) (by omega)
        omega
      · rcases Int.lt_or_le p q with hq | hq
        · have := firF_mono hV (show p + 1 ≤ q by omega) (by omega); omega
        · have := firF_mono hV (show q ≤ p by omega) (by omega); omega
    · rw [upd1_n _ _ d]; exact g2 q q0 q1 q2 (by omega)
  · intro i i0 i1
    show upd1 _ v r i = r → upd1 _ v c i + wnF f i + 1 ≤ c + wnF f v + 1
    by_cases d : i = v
    · rw [d, upd1_s, upd1_s]; intro _; omega
    · rw [upd1_n _ _ d, upd1_n _ _ d]
      intro hr
      have h3 := e6 i i0 (by omega)
      have h5 := a3 (by omega)
      have h6 := g3 i i0 (by omega) (by omega)
      omega
  · intro _ i i0 i1
    show upd1 _ v r i < upd1 _ v r (firF f p)
    rw [upd1_n _ _ (show i ≠ v by omega)]
    by_cases d2 : firF f p = v
    · rw [d2, upd1_s]
      have := g4 d2.symm i i0 (by omega)
      omega
    · rw [upd1_n _ _ d2]; exact g5 (by omega) i i0 i1
theorem lwF_gw {f : Rw} (hV : VB f) {p : Int} (hp : 0 ≤ p ∧ p < f 9) : ∀ (n : Nat) (v : Int) (st : Ly), firF f p ≤ v → v + n ≤ firF f (p + 1) → VS f v st → GW f (firF f p) v st →
    ((lwF f n v st).1 = true → GW f (firF f p) (v + n) (lwF f n v st).2) ∧ ((lwF f n v st).1 = false → ∃ u, v ≤ u ∧ u < v + n ∧ VS f u (lwF f n v st).2 ∧ GW f (firF f p) u (lwF f n v st).2) := by
  have hf1 := firF_rng hV (show p + 1 ≤ f 9 by omega)
  have hf0 := firF_rng hV (show p ≤ f 9 by omega)
  intro n
  induction n with
  | zero => intro v st h0 h1 h hG; exact ⟨fun _ => by rw [show v + ((0 : Nat) : Int) = v by omega]; exact hG, fun e => absurd (show true = false from e) (by decide)⟩
  | succ n ih =>
    intro v st h0 h1 h hG
    unfold lwF
    by_cases c : (fpF f (wnF f v) FP0 st.2.1 st.2.2.1).1 = true
    · rw [if_pos c]
      have h3 := ih (v + 1) _ (by omega) (by omega) (VS_word hV (by omega) (by omega) h c) (GW_word hV hp h0 (by omega) ⟨by omega, by omega⟩ h hG c)
      refine ⟨fun e => ?_, fun e => ?_⟩
      · have := h3.1 e; rwa [show v + 1 + (n : Int) = v + ((n + 1 : Nat) : Int) by omega] at this
      · obtain ⟨u, a1, a2, a3⟩ := h3.2 e; exact ⟨u, by omega, by omega, a3⟩
    · rw [if_neg c]
      exact ⟨fun e => absurd e (by simp), fun _ => ⟨v, by omega, by omega, h, hG⟩⟩
theorem mrF_g1 {f : Rw} {to a x : Int} {R C : Int → Int} (h : G1 f to R C) (hm : ∀ i j, 0 ≤ i → i ≤ j → j < to → R i ≤ R j) (h0 : 0 ≤ a) (hx : x ≤ to) (hrun : ∀ i, a ≤ i → i < x → R i = R a) (hbef : ∀ i, 0 ≤ i → i < a → R i < R a) (haft : x < to → R x ≠ R a) : G1 f to R (mrF f R C a x) := by
  intro i j i0 ij j1 hR
  have h1 := h i j i0 ij j1 hR
  unfold mrF
  by_cases ci : a ≤ i ∧ i < x
  · rw [if_pos ci]
    have r1 := hrun i ci.1 ci.2
    by_cases cj : j < x
    · rw [if_pos ⟨by omega, cj⟩]; omega
    · have h2 := haft (by omega)
      have h3 := hm i x (by omega) (by omega) (by omega)
      have h4 := hm x j (by omega) (by omega) j1
      omega
  · rw [if_neg ci]
    by_cases cj : a ≤ j ∧ j < x
    · have r1 := hrun j cj.1 cj.2
      have h2 := hbef i i0 (by omega)
      omega
    · rw [if_neg cj]; exact h1
theorem ceF_g1 {f : Rw} {to : Int} {R : Int → Int} (hm : ∀ i j, 0 ≤ i → i ≤ j → j < to → R i ≤ R j) : ∀ (k : Nat) (a x : Int) (C : Int → Int), 0 ≤ a → a < x → x ≤ to → (∀ i, a ≤ i → i < x → R i = R a) → (∀ i, 0 ≤ i → i < a → R i < R a) → G1 f to R C → G1 f to R (ceF f R to k a x C) := by
  intro k
  induction k with
  | zero => intro a x C _ _ _ _ _ h; exact h
  | succ k ih =>
    intro a x C h0 h1 h2 hrun hbef h
    unfold ceF
    by_cases c : x < to ∧ R x = R a
    · rw [if_pos c]
      refine ih a (x + 1) C h0 (by omega) (by omega) (fun i i0 i1 => ?_) hbef h
      by_cases d : i = x
      · rw [d]; exact c.2
      · exact hrun i i0 (by omega)
    · rw [if_neg c]
      have hM := mrF_g1 h hm h0 h2 hrun hbef (fun d e => c ⟨d, e⟩)
      by_cases c2 : x < to
      · rw [if_pos c2]
        refine ih x (x + 1) _ (by omega) (by omega) (by omega) (fun i i0 i1 => by rw [show i = x by omega]) (fun i i0 i1 => ?_) hM
        have hne : R x ≠ R a := fun e => c ⟨c2, e⟩
        have hle := hm a x h0 (by omega) c2
        by_cases d : i < a
        · have := hbef i i0 d; omega
        · have := hrun i (by omega) i1; omega
      · rw [if_neg c2]; exact hM
/-- between two parts -/
def GP (f : Rw) (u : Int) (st : Ly) : Prop := G1 f u st.2.2.2.1 st.2.2.2.2 ∧ G2 f u st.2.2.2.1 ∧ ∀ i, 0 ≤ i → i < u → st.2.2.2.1 i + (f 2 + 1) ≤ st.2.1
theorem GP.gw {f : Rw} (hV : VB f) {a : Int} {st : Ly} (h : GP f a st) : GW f a a st := by
  obtain ⟨h1, h2, h3⟩ := h
  have hg := hV.g
  exact ⟨h1, h2, fun i i0 i1 e => by have := h3 i i0 i1; omega, fun _ => h3, fun e => absurd e (by omega)⟩
theorem lpF_gp {f : Rw} (hV : VB f) {p : Int} {st : Ly} (h0 : 0 ≤ p) (h1 : p < f 9) (h : VS f (firF f p) st) (hG : GP f (firF f p) st) :
    ((lpF f p st).1 = true → GP f (firF f (p + 1)) (lpF f p st).2) ∧ ((lpF f p st).1 = false → G1 f (lpF f p st).2.1 (lpF f p st).2.2.2.2.1 (lpF f p st).2.2.2.2.2 ∧ G2 f (lpF f p st).2.1 (lpF f p st).2.2.2.2.1) := by
  have hps := hV.ps h0 h1
  have hfn := firF_next hV h0 h1
  have hg := hV.g
  have hn : ((psF f p).toNat : Int) = psF f p := Int.toNat_of_nonneg (by omega)
  have hst : st.1 = firF f p := h.1
  have hw := lwF_ok hV (psF f p).toNat st.1 st (by rw [hst]; exact hfn.1) (by rw [hst, hn]; exact hfn.2) (by rw [hst]; exact h)
  have e9 : firF f (p + 1) = firF f p + psF f p := firF_step h0
  have hgw := lwF_gw hV ⟨h0, h1⟩ (psF f p).toNat (firF f p) st (Int.le_refl _) (by omega) h (hG.gw hV)
  rw [hst, hn, ← firF_step h0] at hw
  rw [hn, ← firF_step h0] at hgw
  unfold lpF
  rw [hst, ← firF_step h0]
  by_cases c : (lwF f (psF f p).toNat (firF f p) st).1 = true
  · rw [if_pos c]
    refine ⟨fun _ => ?_, fun e => absurd e (by simp)⟩
    obtain ⟨a1, a2, a3, a4, a5, a6, a7⟩ := hw.1 c
    obtain ⟨g1, g2, g3, g4, g5⟩ := hgw.1 c
    refine ⟨?_, g2, fun i i0 i1 => ?_⟩
    · show G1 f _ _ (if pkF f p = 0 then _ else _)
      by_cases c2 : pkF f p = 0
      · rw [if_pos c2]
        exact ceF_g1 a2.2 100 _ _ _ hfn.1 (by omega) (by omega) (fun i i0 i1 => by rw [show i = firF f p by omega]) (g5 (by omega)) g1
      · rw [if_neg c2]; exact g1
    · exact Int.add_le_add_right (a5 i i0 i1) (f 2 + 1)
  · rw [if_neg c]
    refine ⟨fun e => absurd e c, fun e => ?_⟩
    obtain ⟨u, u0, u1, u2, u3⟩ := hgw.2 (bfF c)
    rw [u2.1]
    exact ⟨u3.1, u3.2.1⟩
theorem lyF_g {f : Rw} (hV : VB f) : ∀ (n : Nat) (p : Int) (st : Ly), 0 ≤ p → p + n = f 9 → VS f (firF f p) st → GP f (firF f p) st → G1 f (lyF f n p st).1 (lyF f n p st).2.2.2.1 (lyF f n p st).2.2.2.2 ∧ G2 f (lyF f n p st).1 (lyF f n p st).2.2.2.1 := by
  intro n
  induction n with
  | zero => intro p st h0 h1 h hG; unfold lyF; rw [h.1]; exact ⟨hG.1, hG.2.1⟩
  | succ n ih =>
    intro p st h0 h1 h hG
    have h2 := lpF_ok hV h0 (by omega) h h.2.2.1.2
    have h3 := lpF_gp hV h0 (by omega) h hG
    unfold lyF
    by_cases c : (lpF f p st).1 = true
    · rw [if_pos c]; exact ih (p + 1) _ (by omega) (by omega) (h2.1 c) (h3.1 c)
    · rw [if_neg c]; exact h3.2 (bfF c)
theorem lF_g {f : Rw} (hV : VB f) : G1 f (nLF f) (rLF f) (cLF f) ∧ G2 f (nLF f) (rLF f) := by
  have h9 := hV.p
  exact lyF_g hV (f 9).toNat 0 L0 (by decide) (by omega) VS_0 ⟨fun i j i0 ij j1 => by rw [firF_0] at j1; omega, fun q q0 q1 q2 q3 => by rw [firF_0] at q3; omega, fun i i0 i1 => by rw [firF_0] at i1; omega⟩
/-- where a laid word's letter is, the class finds that word -/
theorem wo_at {f : Rw} (hV : VB f) {v k : Int} (hv : 0 ≤ v ∧ v < nLF f) (hk : 0 ≤ k ∧ k < wnF f v) : woF f (cLF f v + k) (rLF f v) = v := by
  obtain ⟨g1, g2⟩ := lF_g hV
  rcases woF_rng hV (cLF f v + k) (rLF f v) with h | h
  · exact absurd ⟨rfl, by omega, by omega⟩ (h.2 v hv.1 hv.2)
  · obtain ⟨h0, h1, h2, h3, h4⟩ := h
    generalize woF f (cLF f v + k) (rLF f v) = u at *
    rcases Int.lt_trichotomy u v with c | c | c
    · have := g1 u v h0 c hv.2 h2; omega
    · exact c
    · have := g1 v u hv.1 c h1 h2.symm; omega
theorem fit_nofl {f : Rw} {v k : Int} (hV : VB f) (hv : 0 ≤ v ∧ v < nLF f) (hk : 0 ≤ k ∧ k < wnF f v) : flF f (cLF f v + k) (rLF f v) = false := by
  have h := ((lF_ok hV).2.2.1.1 v hv.1 hv.2).2.2.2
  unfold fitF at h
  have h2 := (allb_iff _ _).mp (Bool.and_eq_true _ _ ▸ h).2 (cLF f v + k) (by omega) (by omega)
  cases e : flF f (cLF f v + k) (rLF f v) with
  | false => rfl
  | true => rw [e] at h2; exact absurd h2 (by decide)
