/-! ===== the pure side: a slab as the model's row of numbers ===== -/
abbrev Rw : Type := Int → Int
def cR (w : Wd) : Rw := gA w (gP w 50 3)
def pkF (f : Rw) (p : Int) : Int := f ((299 + (2 * p)) + 0)
def psF (f : Rw) (p : Int) : Int := f ((299 + (2 * p)) + 1)
def wnF (f : Rw) (v : Int) : Int := f (319 + (13 * v))
def wbF (f : Rw) (v k : Int) : Int := f (((319 + (13 * v)) + 1) + k)
def fcF (f : Rw) (c r : Int) : Int := f ((11 + (24 * r)) + c)
def isCF (f : Rw) (x y : Int) : Bool := decide (0 ≤ x ∧ x < f 0 ∧ 0 ≤ y ∧ y < f 1)
def flF (f : Rw) (x y : Int) : Bool := isCF f x y && decide (fcF f x y = 1)
def firF (f : Rw) (p : Int) : Int := sm (psF f) p.toNat
def laF (f : Rw) (v : Int) : Int := sm (wnF f) v.toNat
def isB (x : Int) : Prop := (48 ≤ x ∧ x ≤ 57) ∨ (97 ≤ x ∧ x ≤ 122)
/-- the shape of a row that stands for a slab -/
def VB (f : Rw) : Prop :=
  (4 ≤ f 0 ∧ f 0 ≤ 24) ∧ (1 ≤ f 1 ∧ f 1 ≤ 12) ∧ (0 ≤ f 2 ∧ f 2 ≤ 3) ∧ (0 ≤ f 9 ∧ f 9 ≤ 10) ∧ (0 ≤ f 10 ∧ f 10 ≤ 60) ∧
  (∀ p, 0 ≤ p → p < f 9 → (0 ≤ pkF f p ∧ pkF f p ≤ 2) ∧ 1 ≤ psF f p ∧ psF f p ≤ 60) ∧ firF f (f 9) = f 10 ∧
  (∀ v, 0 ≤ v → v < f 10 → 1 ≤ wnF f v ∧ wnF f v ≤ 12) ∧
  (∀ v k, 0 ≤ v → v < f 10 → 0 ≤ k → k < wnF f v → isB (wbF f v k)) ∧
  (∀ c r, 0 ≤ c → c < 24 → 0 ≤ r → r < 12 → fcF f c r = 0 ∨ fcF f c r = 1)
section VBs
variable {f : Rw} (h : VB f)
theorem VB.c (h : VB f) : 4 ≤ f 0 ∧ f 0 ≤ 24 := h.1
theorem VB.r (h : VB f) : 1 ≤ f 1 ∧ f 1 ≤ 12 := h.2.1
theorem VB.g (h : VB f) : 0 ≤ f 2 ∧ f 2 ≤ 3 := h.2.2.1
theorem VB.p (h : VB f) : 0 ≤ f 9 ∧ f 9 ≤ 10 := h.2.2.2.1
theorem VB.w (h : VB f) : 0 ≤ f 10 ∧ f 10 ≤ 60 := h.2.2.2.2.1
theorem VB.pk (h : VB f) {p : Int} (h0 : 0 ≤ p) (h1 : p < f 9) : 0 ≤ pkF f p ∧ pkF f p ≤ 2 := (h.2.2.2.2.2.1 p h0 h1).1
theorem VB.ps (h : VB f) {p : Int} (h0 : 0 ≤ p) (h1 : p < f 9) : 1 ≤ psF f p ∧ psF f p ≤ 60 := (h.2.2.2.2.2.1 p h0 h1).2
theorem VB.fir (h : VB f) : firF f (f 9) = f 10 := h.2.2.2.2.2.2.1
theorem VB.wn (h : VB f) {v : Int} (h0 : 0 ≤ v) (h1 : v < f 10) : 1 ≤ wnF f v ∧ wnF f v ≤ 12 := h.2.2.2.2.2.2.2.1 v h0 h1
theorem VB.wb (h : VB f) {v k : Int} (h0 : 0 ≤ v) (h1 : v < f 10) (h2 : 0 ≤ k) (h3 : k < wnF f v) : isB (wbF f v k) := h.2.2.2.2.2.2.2.2.1 v k h0 h1 h2 h3
theorem VB.fc (h : VB f) {c r : Int} (h0 : 0 ≤ c) (h1 : c < 24) (h2 : 0 ≤ r) (h3 : r < 12) : fcF f c r = 0 ∨ fcF f c r = 1 := h.2.2.2.2.2.2.2.2.2 c r h0 h1 h2 h3
end VBs
theorem firF_step {f : Rw} {p : Int} (h : 0 ≤ p) : firF f (p + 1) = firF f p + psF f p := sm_step h
theorem laF_step {f : Rw} {p : Int} (h : 0 ≤ p) : laF f (p + 1) = laF f p + wnF f p := sm_step h
theorem firF_0 (f : Rw) : firF f 0 = 0 := rfl
theorem laF_0 (f : Rw) : laF f 0 = 0 := rfl
theorem firF_mono {f : Rw} (h : VB f) {p q : Int} (hpq : p ≤ q) (hq : q ≤ f 9) : firF f p ≤ firF f q :=
  sm_mono _ (by omega) (fun i h0 h1 => by have := h.ps h0 (show i < f 9 by omega); omega)
theorem firF_rng {f : Rw} (h : VB f) {p : Int} (hq : p ≤ f 9) : 0 ≤ firF f p ∧ firF f p ≤ f 10 := by
  have h1 := firF_mono h hq (Int.le_refl _)
  rw [h.fir] at h1
  exact ⟨sm_nonneg _ (fun i h0 h1 => by have := h.ps h0 (show i < f 9 by omega); omega), h1⟩
theorem firF_next {f : Rw} (h : VB f) {p : Int} (h0 : 0 ≤ p) (hq : p < f 9) : 0 ≤ firF f p ∧ firF f p + psF f p ≤ f 10 := by
  have h1 := firF_rng h (show p + 1 ≤ f 9 by omega)
  rw [firF_step h0] at h1
  exact ⟨(firF_rng h (show p ≤ f 9 by omega)).1, h1.2⟩
theorem laF_mono {f : Rw} (h : VB f) {p q : Int} (hpq : p ≤ q) (hq : q ≤ f 10) : laF f p ≤ laF f q :=
  sm_mono _ (by omega) (fun i h0 h1 => by have := h.wn h0 (show i < f 10 by omega); omega)
theorem laF_rng {f : Rw} (h : VB f) {p : Int} (h0 : 0 ≤ p) (hq : p ≤ f 10) : p ≤ laF f p ∧ laF f p ≤ 12 * p := by
  have h1 := sm_ge (g := wnF f) p.toNat (fun i h0 h1 => (h.wn h0 (show i < f 10 by omega)).1)
  have h2 := sm_le (g := wnF f) (c := 12) p.toNat (fun i h0 h1 => (h.wn h0 (show i < f 10 by omega)).2)
  rw [Int.toNat_of_nonneg h0] at h1 h2
  exact ⟨h1, h2⟩
theorem flF_c {f : Rw} {x y : Int} (h : flF f x y = true) : 0 ≤ x ∧ x < f 0 ∧ 0 ≤ y ∧ y < f 1 := of_decide_eq_true (Bool.and_eq_true _ _ ▸ h).1
/-! the model's questions of its row -/
section M9
variable {f : Rw} {w : Wd}
theorem cRe (hf : cR w = f) (i : Int) : gA w (gP w 50 3) i = f i := congrFun hf i
theorem wide_o (hf : cR w = f) : p_X9_wide w = some (f 0, w) := by
  unfold p_X9_wide; rw [if_neg (by decide), cRe hf]
theorem high_o (hf : cR w = f) : p_X9_high w = some (f 1, w) := by
  unfold p_X9_high; rw [if_neg (by decide), cRe hf]
theorem isCell_o (hf : cR w = f) (hV : VB f) {x y : Int} (hx : rng x) (hy : rng y) : p_X9_isCell x y w = some (b2 (isCF f x y), w) := by
  have h1 := hV.c
  have h2 := hV.r
  unfold rng at hx hy
  unfold p_X9_isCell
  simp (disch := omega) only [wide_o hf, high_o hf, Option.bind_some, w32_o, in_o, eq32_b2]
  have e : isCF f x y = (decide (0 ≤ x ∧ x ≤ f 0 - 1) && decide (0 ≤ y ∧ y ≤ f 1 - 1)) := by
    unfold isCF; rw [← Bool.decide_and]; exact decide_eq_decide.mpr (by omega)
  rw [e]
  generalize decide (0 ≤ x ∧ x ≤ f 0 - 1) = a
  generalize decide (0 ≤ y ∧ y ≤ f 1 - 1) = b
  cases a <;> cases b <;> rfl
theorem hasFlaw_o (hf : cR w = f) (hV : VB f) {x y : Int} (hx : rng x) (hy : rng y) : p_X9_hasFlaw x y w = some (b2 (flF f x y), w) := by
  have h1 := hV.c
  have h2 := hV.r
  unfold p_X9_hasFlaw
  simp only [isCell_o hf hV hx hy, Option.bind_some, eq32_b2]
  unfold flF
  by_cases c : isCF f x y = true
  · have c2 : 0 ≤ x ∧ x < f 0 ∧ 0 ≤ y ∧ y < f 1 := of_decide_eq_true c
    have h3 := hV.fc (c := x) (r := y) (by omega) (by omega) (by omega) (by omega)
    rw [if_neg (by rw [c]; decide), if_neg (by rw [inb_f (by omega)]; exact id), cRe hf, c, Bool.true_and]
    show (if eq32 (fcF f x y) 1 = true then _ else _) = _
    rcases h3 with h3 | h3
    · rw [h3, if_neg (by decide +kernel)]; rfl
    · rw [h3, if_pos (by decide +kernel)]; rfl
  · rw [bfF c, if_pos rfl]; rfl
def nfF (f : Rw) : Int := sm (fun k => f (11 + k)) 288
theorem flaws_o (hf : cR w = f) : p_X9_flaws w = some (nfF f, w) := by
  have h := sum_loop (lp := fun n x s => p_X9_flaws_4 n s x w) (g := fun k => f (11 + k)) (b := 288) (w := w) (fun n x s h0 h1 => by
      show p_X9_flaws_4 (n + 1) s x w = p_X9_flaws_4 n (s + f (11 + x)) (x + 1) w
      simp (disch := omega) only [p_X9_flaws_4, lt32_o, inb_f, h1, cRe hf, if_true, if_false])
    (fun n x s h0 => by
      subst h0
      show p_X9_flaws_4 (n + 1) s 288 w = some (s, w)
      simp only [p_X9_flaws_4]
      rw [if_neg (by decide +kernel)]) FU 0 0 (by decide) (by decide) (by decide)
  unfold p_X9_flaws
  refine h.trans (congrArg some (Prod.ext ?_ rfl))
  show 0 + (sm _ 288 - 0) = nfF f
  unfold nfF
  omega
theorem kindOf_o (hf : cR w = f) {p : Int} (h : 0 ≤ p ∧ p < 10) : p_X9_kindOf p w = some (pkF f p, w) := by
  unfold p_X9_kindOf; rw [if_neg (by rw [inb_f (by omega)]; exact id), cRe hf]; rfl
theorem manyOf_o (hf : cR w = f) {p : Int} (h : 0 ≤ p ∧ p < 10) : p_X9_manyOf p w = some (psF f p, w) := by
  unfold p_X9_manyOf; rw [if_neg (by rw [inb_f (by omega)]; exact id), cRe hf]; rfl
theorem bytesOf_o (hf : cR w = f) {v : Int} (h : 0 ≤ v ∧ v < 60) : p_X9_bytesOf v w = some (wnF f v, w) := by
  unfold p_X9_bytesOf; rw [if_neg (by rw [inb_f (by omega)]; exact id), cRe hf]; rfl
theorem byteOf_o (hf : cR w = f) {v k : Int} (h : 0 ≤ v ∧ v < 60) (hk : 0 ≤ k ∧ k < 12) : p_X9_byteOf v k w = some (wbF f v k, w) := by
  unfold p_X9_byteOf; rw [if_neg (by rw [inb_f (by omega)]; exact id), cRe hf]; rfl
theorem firstOf_o (hf : cR w = f) {p : Int} (h : 0 ≤ p ∧ p ≤ 10) : p_X9_firstOf p w = some (firF f p, w) := by
  have h := sum_loop (lp := fun n x s => p_X9_firstOf_4 n p s x w) (g := psF f) (b := p) (w := w) (fun n x s h0 h1 => by
      show p_X9_firstOf_4 (n + 1) p s x w = p_X9_firstOf_4 n p (s + psF f x) (x + 1) w
      simp (disch := omega) only [p_X9_firstOf_4, lt32_o, h1, manyOf_o hf, Option.bind_some, if_true])
    (fun n x s h0 => by
      subst h0
      show p_X9_firstOf_4 (n + 1) x s x w = some (s, w)
      simp (disch := omega) only [p_X9_firstOf_4, lt32_o, Int.lt_irrefl, if_false]) FU 0 0 (by decide) h.1 (by have : FU = 1000000 := rfl; omega)
  unfold p_X9_firstOf
  refine h.trans (congrArg some (Prod.ext ?_ rfl))
  show 0 + (sm _ p.toNat - 0) = sm _ p.toNat
  omega
theorem lettersAhead_o (hf : cR w = f) {p : Int} (h : 0 ≤ p ∧ p ≤ 60) : p_X9_lettersAhead p w = some (laF f p, w) := by
  have h := sum_loop (lp := fun n x s => p_X9_lettersAhead_4 n p s x w) (g := wnF f) (b := p) (w := w) (fun n x s h0 h1 => by
      show p_X9_lettersAhead_4 (n + 1) p s x w = p_X9_lettersAhead_4 n p (s + wnF f x) (x + 1) w
      simp (disch := omega) only [p_X9_lettersAhead_4, lt32_o, h1, bytesOf_o hf, Option.bind_some, if_true])
    (fun n x s h0 => by
      subst h0
      show p_X9_lettersAhead_4 (n + 1) x s x w = some (s, w)
      simp (disch := omega) only [p_X9_lettersAhead_4, lt32_o, Int.lt_irrefl, if_false]) FU 0 0 (by decide) h.1 (by have : FU = 1000000 := rfl; omega)
  unfold p_X9_lettersAhead
  refine h.trans (congrArg some (Prod.ext ?_ rfl))
  show 0 + (sm _ p.toNat - 0) = sm _ p.toNat
  omega
theorem isPart_o (hf : cR w = f) (hV : VB f) {p : Int} (h : rng p) : p_X9_isPart p w = some (b2 (decide (0 ≤ p ∧ p < f 9)), w) := by
  have h1 := hV.p
  unfold rng at h
  unfold p_X9_isPart
  rw [if_neg (by decide)]
  simp (disch := omega) only [cRe hf, Option.bind_some, w32_o, in_o, zr_b2]
  rw [decide_eq_decide.mpr (show 0 ≤ p ∧ p ≤ f 9 - 1 ↔ 0 ≤ p ∧ p < f 9 by omega)]
theorem isWordNumber_o (hf : cR w = f) (hV : VB f) {p : Int} (h : rng p) : p_X9_isWordNumber p w = some (b2 (decide (0 ≤ p ∧ p < f 10)), w) := by
  have h1 := hV.w
  unfold rng at h
  unfold p_X9_isWordNumber
  rw [if_neg (by decide)]
  simp (disch := omega) only [cRe hf, Option.bind_some, w32_o, in_o, zr_b2]
  rw [decide_eq_decide.mpr (show 0 ≤ p ∧ p ≤ f 10 - 1 ↔ 0 ≤ p ∧ p < f 10 by omega)]
theorem isRow_o (hf : cR w = f) (hV : VB f) {p : Int} (h : rng p) : p_X9_isRow p w = some (b2 (decide (0 ≤ p ∧ p < f 1)), w) := by
  have h1 := hV.r
  unfold rng at h
  unfold p_X9_isRow
  simp (disch := omega) only [high_o hf, Option.bind_some, w32_o, in_o, zr_b2]
  rw [decide_eq_decide.mpr (show 0 ≤ p ∧ p ≤ f 1 - 1 ↔ 0 ≤ p ∧ p < f 1 by omega)]
end M9
/-! a word's fitting -/
def fitF (f : Rw) (c r s : Int) : Bool := decide (c + s ≤ f 0) && allb (fun x => !flF f x r) s.toNat c
theorem fitsAt_o {f : Rw} {w : Wd} (hf : cR w = f) (hV : VB f) {c r s : Int} (hc : -100 ≤ c ∧ c ≤ 100) (hr : 0 ≤ r ∧ r ≤ 100) (hs : 0 ≤ s ∧ s ≤ 100) : p_X9_fitsAt c r s w = some (b2 (fitF f c r s), w) := by
  have h1 := hV.c
  have hl : ∀ (n : Nat) (x : Int) (b : Bool), c ≤ x → x ≤ c + s → c + s - x < n → p_X9_fitsAt_18 n c r s (b2 b) x w = some (b2 (b && allb (fun x => !flF f x r) (c + s - x).toNat x), w) := by
    intro n
    induction n with
    | zero => intro x b h0 h1 h2; exact absurd h2 (by omega)
    | succ n ih =>
      intro x b h0 h3 h2
      simp (disch := omega) only [p_X9_fitsAt_18, lt32_o, eq32_b2, zr_b2]
      by_cases e : x < c + s
      · rw [if_pos e, show (c + s - x).toNat = (c + s - (x + 1)).toNat + 1 by omega]
        show _ = some (b2 (b && ((!flF f x r) && allb _ _ _)), w)
        cases b with
        | false =>
          rw [if_pos rfl]
          show p_X9_fitsAt_18 n c r s (b2 false) (x + 1) w = _
          rw [ih (x + 1) false (by omega) (by omega) (by omega)]; rfl
        | true =>
          rw [if_neg (by decide), hasFlaw_o hf hV (by unfold rng; omega) (by unfold rng; omega), Option.bind_some]
          simp only [eq32_b2]
          cases hfl : flF f x r with
          | false =>
            rw [if_pos rfl]
            show p_X9_fitsAt_18 n c r s (b2 true) (x + 1) w = _
            rw [ih (x + 1) true (by omega) (by omega) (by omega)]; rfl
          | true =>
            rw [if_neg (by decide)]
            show p_X9_fitsAt_18 n c r s (b2 false) (x + 1) w = _
            rw [ih (x + 1) false (by omega) (by omega) (by omega)]; rfl
      · rw [if_neg e, show (c + s - x).toNat = 0 by omega]
        cases b <;> rfl
  unfold p_X9_fitsAt fitF
  simp (disch := omega) only [wide_o hf, Option.bind_some, lt32_o]
  by_cases e : f 0 < c + s
  · rw [if_pos e, decide_eq_false (by omega)]; rfl
  · rw [if_neg e, decide_eq_true (by omega)]
    show p_X9_fitsAt_18 FU c r s (b2 true) c w = _
    rw [hl FU c true (by omega) (by omega) (by have : FU = 1000000 := rfl; omega), show c + s - c = s by omega]
