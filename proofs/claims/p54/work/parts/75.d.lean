/-! ===== numbers with a point ===== -/
def okD (f : FP.Core.Fmt) : FP.Core.Datum → Prop
  | .nan => False
  | .inf _ => True
  | .fin _ c q => c < 2 ^ f.p ∧ q ≤ f.qmax
theorem tl64 : FP.Core.b64.tails = 4503599627370496 := by decide +kernel
theorem ex64 : FP.Core.b64.exps = 2048 := by decide +kernel
theorem tl32 : FP.Core.b32.tails = 8388608 := by decide +kernel
theorem ex32 : FP.Core.b32.exps = 256 := by decide +kernel
theorem qm64 : FP.Core.b64.qmin = -1074 ∧ FP.Core.b64.qmax = 971 := by decide +kernel
theorem qm32 : FP.Core.b32.qmin = -149 ∧ FP.Core.b32.qmax = 104 := by decide +kernel
theorem okD_settle (f : FP.Core.Fmt) (hp : f.tails < 2 ^ f.p) (s : Bool) (c : Nat) (q : Int) : okD f (FP.Core.settle f s c q) := by
  unfold FP.Core.settle FP.Core.bound
  by_cases h : c < 2 ^ f.p
  · rw [if_pos h]
    by_cases g : q ≤ f.qmax
    · rw [if_pos g]; exact ⟨h, g⟩
    · rw [if_neg g]; trivial
  · rw [if_neg h]
    by_cases g : q + 1 ≤ f.qmax
    · rw [if_pos g]; exact ⟨hp, g⟩
    · rw [if_neg g]; trivial
theorem okD_ratio (f : FP.Core.Fmt) (hp : f.tails < 2 ^ f.p) (hq : f.qmin ≤ f.qmax) (s : Bool) (a b : Nat) (e : Int) : okD f (FP.Core.roundRatio f s a b e) := by
  unfold FP.Core.roundRatio
  by_cases h : a = 0
  · rw [if_pos h]; exact ⟨Nat.two_pow_pos _, hq⟩
  · rw [if_neg h]; exact okD_settle f hp s _ _
theorem t64 : FP.Core.b64.tails < 2 ^ FP.Core.b64.p := by decide +kernel
theorem t32 : FP.Core.b32.tails < 2 ^ FP.Core.b32.p := by decide +kernel
theorem enc64 {d : FP.Core.Datum} (h : okD FP.Core.b64 d) : FP.Core.encode FP.Core.b64 d % 9223372036854775808 ≤ 9218868437227405312 := by
  have h53 : (2 : Nat) ^ FP.Core.b64.p = 9007199254740992 := by decide +kernel
  cases d with
  | nan => exact h.elim
  | inf s =>
    show FP.Core.assemble FP.Core.b64 s (FP.Core.b64.exps - 1) 0 % _ ≤ _
    unfold FP.Core.assemble
    rw [tl64, ex64]
    have : s.toNat ≤ 1 := by cases s <;> decide
    omega
  | fin s c q =>
    have h1 := h.1
    have h2 := h.2
    rw [h53] at h1
    rw [qm64.2] at h2
    show (if c < FP.Core.b64.tails then FP.Core.assemble FP.Core.b64 s 0 c else FP.Core.assemble FP.Core.b64 s ((q - FP.Core.b64.qmin).toNat + 1) (c - FP.Core.b64.tails)) % _ ≤ _
    unfold FP.Core.assemble
    rw [tl64, ex64, qm64.1]
    have : s.toNat ≤ 1 := by cases s <;> decide
    by_cases g : c < 4503599627370496
    · rw [if_pos g]; omega
    · rw [if_neg g]; omega
theorem enc32 {d : FP.Core.Datum} (h : okD FP.Core.b32 d) : FP.Core.encode FP.Core.b32 d % 2147483648 ≤ 2139095040 := by
  have h53 : (2 : Nat) ^ FP.Core.b32.p = 16777216 := by decide +kernel
  cases d with
  | nan => exact h.elim
  | inf s =>
    show FP.Core.assemble FP.Core.b32 s (FP.Core.b32.exps - 1) 0 % _ ≤ _
    unfold FP.Core.assemble
    rw [tl32, ex32]
    have : s.toNat ≤ 1 := by cases s <;> decide
    omega
  | fin s c q =>
    have h1 := h.1
    have h2 := h.2
    rw [h53] at h1
    rw [qm32.2] at h2
    show (if c < FP.Core.b32.tails then FP.Core.assemble FP.Core.b32 s 0 c else FP.Core.assemble FP.Core.b32 s ((q - FP.Core.b32.qmin).toNat + 1) (c - FP.Core.b32.tails)) % _ ≤ _
    unfold FP.Core.assemble
    rw [tl32, ex32, qm32.1]
    have : s.toNat ≤ 1 := by cases s <;> decide
    by_cases g : c < 8388608
    · rw [if_pos g]; omega
    · rw [if_neg g]; omega
theorem m64 (n : Nat) (h : n % 9223372036854775808 ≤ 9218868437227405312) : (UInt64.ofNat n &&& 0x7fffffffffffffff) ≤ 0x7ff0000000000000 := by
  rw [UInt64.le_iff_toNat_le, UInt64.toNat_and, UInt64.toNat_ofNat']
  rw [show (0x7fffffffffffffff : UInt64).toNat = 2 ^ 63 - 1 by decide +kernel, Nat.and_two_pow_sub_one_eq_mod]
  rw [show (0x7ff0000000000000 : UInt64).toNat = 9218868437227405312 by decide +kernel]
  omega
theorem m32 (n : Nat) (h : n % 2147483648 ≤ 2139095040) : (UInt32.ofNat n &&& 0x7fffffff) ≤ 0x7f800000 := by
  rw [UInt32.le_iff_toNat_le, UInt32.toNat_and, UInt32.toNat_ofNat']
  rw [show (0x7fffffff : UInt32).toNat = 2 ^ 31 - 1 by decide +kernel, Nat.and_two_pow_sub_one_eq_mod]
  rw [show (0x7f800000 : UInt32).toNat = 2139095040 by decide +kernel]
  omega
/-- finite and, where it counts, not zero -/
def finD (nz : Bool) : FP.Core.Datum → Bool
  | .fin _ c _ => !nz || decide (c ≠ 0)
  | _ => false
theorem quot_ok (f : FP.Core.Fmt) (hp : f.tails < 2 ^ f.p) (hq : f.qmin ≤ f.qmax) {d e : FP.Core.Datum} (hd : finD false d = true) (he : finD true e = true) : okD f (FP.Core.quotient f d e) := by
  cases d with
  | nan => exact absurd (show false = true from hd) (by decide)
  | inf s => exact absurd (show false = true from hd) (by decide)
  | fin s c q =>
    cases e with
    | nan => exact absurd (show false = true from he) (by decide)
    | inf s => exact absurd (show false = true from he) (by decide)
    | fin t d r =>
      have hn : d ≠ 0 := by simpa [finD] using he
      show okD f (if d = 0 then (if c = 0 then .nan else .inf (s != t)) else FP.Core.roundRatio f (s != t) c d (q - r))
      rw [if_neg hn]
      exact okD_ratio f hp hq _ _ _ _
theorem fi_tab : ∀ n : Nat, n < 300 → finD (decide (n ≠ 0)) (FP.Core.decode FP.Core.b32 (fi2 (n : Int)).toNat) = true := by decide +kernel
theorem di_tab0 : ∀ m : Nat, m < 55 → ∀ r : Nat, r < 55 → finD (decide (55 * m + r ≠ 0)) (FP.Core.decode FP.Core.b64 (di2 ((55 * m + r : Nat) : Int)).toNat) = true := by decide +kernel
theorem di_tab (n : Nat) (h : n < 3000) : finD (decide (n ≠ 0)) (FP.Core.decode FP.Core.b64 (di2 (n : Int)).toNat) = true := by
  have := di_tab0 (n / 55) (by omega) (n % 55) (by omega)
  rw [Nat.div_add_mod] at this
  exact this
theorem finD_f {b : Bool} {d : FP.Core.Datum} (h : finD b d = true) : finD false d = true := by
  cases d with
  | nan => exact absurd (show false = true from h) (by decide)
  | inf s => exact absurd (show false = true from h) (by decide)
  | fin s c q => rfl
theorem ddv_some {a b : Int} (ha : 0 ≤ a ∧ a < 3000) (hb : 1 ≤ b ∧ b < 3000) : ∃ v, ddv (di2 a) (di2 b) = some v := by
  have h1 := finD_f (di_tab a.toNat (by omega))
  have h2 := di_tab b.toNat (by omega)
  rw [Int.toNat_of_nonneg ha.1] at h1
  rw [Int.toNat_of_nonneg (by omega), decide_eq_true (show b.toNat ≠ 0 by omega)] at h2
  refine ⟨_, if_pos (decide_eq_true ?_)⟩
  exact m64 _ (enc64 (quot_ok FP.Core.b64 t64 (by rw [qm64.1, qm64.2]; decide) h1 h2))
theorem di_neg : ∀ n : Nat, n < 300 → finD (decide (n ≠ 0)) (FP.Core.decode FP.Core.b64 (di2 (-(n : Int))).toNat) = true := by decide +kernel
theorem ddv_some' {a b : Int} (ha : 0 ≤ a ∧ a < 3000) (hb : -300 < b ∧ b < 300 ∧ b ≠ 0) : ∃ v, ddv (di2 a) (di2 b) = some v := by
  by_cases c : 0 ≤ b
  · exact ddv_some ha ⟨by omega, by omega⟩
  · have h1 := finD_f (di_tab a.toNat (by omega))
    have h2 := di_neg (-b).toNat (by omega)
    rw [Int.toNat_of_nonneg ha.1] at h1
    rw [Int.toNat_of_nonneg (by omega), decide_eq_true (show (-b).toNat ≠ 0 by omega), Int.neg_neg] at h2
    refine ⟨_, if_pos (decide_eq_true ?_)⟩
    exact m64 _ (enc64 (quot_ok FP.Core.b64 t64 (by rw [qm64.1, qm64.2]; decide) h1 h2))
theorem fdd_some {v : UInt32} (h : (v &&& 0x7fffffff) ≤ 0x7f800000) : ∃ u, fdd v = some u := by
  have h5 : v.toNat % 2147483648 ≤ 2139095040 := by
    rw [UInt32.le_iff_toNat_le, UInt32.toNat_and, show (0x7fffffff : UInt32).toNat = 2 ^ 31 - 1 by decide +kernel, Nat.and_two_pow_sub_one_eq_mod, show (0x7f800000 : UInt32).toNat = 2139095040 by decide +kernel] at h
    exact h
  have hD : FP.Core.decode FP.Core.b32 v.toNat ≠ .nan := by
    unfold FP.Core.decode FP.Core.fieldE FP.Core.fieldT
    rw [tl32, ex32]
    by_cases g : v.toNat / 8388608 % 256 = 256 - 1
    · rw [if_pos g, if_pos (by omega)]; exact fun h => FP.Core.Datum.noConfusion h
    · rw [if_neg g]
      by_cases g2 : v.toNat / 8388608 % 256 = 0
      · rw [if_pos g2]; exact fun h => FP.Core.Datum.noConfusion h
      · rw [if_neg g2]; exact fun h => FP.Core.Datum.noConfusion h
  have hR : okD FP.Core.b64 (FP.Core.round FP.Core.b64 (FP.Core.decode FP.Core.b32 v.toNat)) := by
    generalize FP.Core.decode FP.Core.b32 v.toNat = D at hD
    cases D with
    | nan => exact absurd rfl hD
    | inf s => trivial
    | fin s c q => exact okD_ratio _ t64 (by rw [qm64.1, qm64.2]; decide) _ _ _ _
  have e : FP.f2d v = UInt64.ofNat (FP.Core.encode FP.Core.b64 (FP.Core.round FP.Core.b64 (FP.Core.decode FP.Core.b32 v.toNat))) := by
    unfold FP.f2d
    rw [if_neg (by unfold FP.Core.fIsNaN FP.Core.isNaN; rw [decide_eq_false hD]; decide)]
    rfl
  have h6 : (FP.f2d v &&& 0x7fffffffffffffff) ≤ 0x7ff0000000000000 := by rw [e]; exact m64 _ (enc64 hR)
  unfold fdd
  rw [if_pos (decide_eq_true h6)]
  exact ⟨_, rfl⟩
theorem fdv_some {a b : Int} (ha : 0 ≤ a ∧ a < 300) (hb : 1 ≤ b ∧ b < 300) : ∃ v u, fdv (fi2 a) (fi2 b) = some v ∧ fdd v = some u := by
  have h1 := finD_f (fi_tab a.toNat (by omega))
  have h2 := fi_tab b.toNat (by omega)
  rw [Int.toNat_of_nonneg ha.1] at h1
  rw [Int.toNat_of_nonneg (by omega), decide_eq_true (show b.toNat ≠ 0 by omega)] at h2
  have h3 : (FP.fdiv (fi2 a) (fi2 b) &&& 0x7fffffff) ≤ 0x7f800000 := m32 _ (enc32 (quot_ok FP.Core.b32 t32 (by rw [qm32.1, qm32.2]; decide) h1 h2))
  obtain ⟨u, hu⟩ := fdd_some h3
  refine ⟨FP.fdiv (fi2 a) (fi2 b), u, ?_, hu⟩
  unfold fdv
  rw [if_pos (decide_eq_true h3)]
theorem one_d : ∃ u, fdd FP.fconst1 = some u := fdd_some (by decide +kernel)
/-! the three shares -/
theorem dcm_same {α : Type} (v : UInt64) (A : Option α) : (if eq32 (dcm v v) 0 = true then A else (if eq32 (dcm v v) 0 = true then none else (if eq32 (dcm v v) 0 = true then none else A))) = A := by
  by_cases c : eq32 (dcm v v) 0 = true
  · rw [if_pos c]
  · rw [if_neg c, if_neg c, if_neg c]
theorem cs_rng (f : Rw) : ∀ n : Nat, 0 ≤ sm (cosF f) n ∧ sm (cosF f) n ≤ 10 * n := by
  intro n
  induction n with
  | zero => exact ⟨Int.le_refl _, Int.le_refl _⟩
  | succ n ih =>
    have h := cos_rng (f := f) (n := (n : Int))
    have e : sm (cosF f) (n + 1) = sm (cosF f) n + cosF f n := rfl
    rw [e]; omega
section SH
variable {k na : Nat} {wC wM : Wd} {xs : Nat → Int32} {i : Int}
theorem op31 (h : RR k na wC wM) : ∃ z, p_op_31 xs i na wC wM = some z ∧ RR k z.1 z.2.1 z.2.2 := by
  obtain ⟨w', a1, a2, a3, a4⟩ := h.lay (frmM_0 wM 0)
  obtain ⟨e1, e2, e3⟩ := h.ny a2
  obtain ⟨vB, v1, v3, v4, v5, v6, v7, v8⟩ := h.V
  have h288 := (lF_ok h.B).2.2.2
  have key : ∃ v u, p_X8_carvedShare wC = some (v, wC) ∧ p_X9_carvedShare wM = some (v, w') ∧ fdd v = some u := by
    unfold p_X8_carvedShare p_X9_carvedShare
    rw [a1, h.T.1, show gF wC 100 11 = gA wM 51 8 from h.S.1.2.2.2.2.2, Option.bind_some]
    dsimp only
    rw [letters_o e1 h.B a3.1, Option.bind_some]
    dsimp only
    rw [if_neg (show ¬ inb 8 1099 = false by decide), letters_o e1 h.B a3.1, Option.bind_some, e3]
    dsimp only
    simp (disch := omega) only [eq32_o]
    by_cases c : laF (gA wM 51) (nLF (gA wM 51)) = 0
    · rw [if_pos c, if_pos c]
      obtain ⟨u, hu⟩ := one_d
      exact ⟨_, u, rfl, rfl, hu⟩
    · rw [if_neg c, if_neg c]
      obtain ⟨v, u, hv, hu⟩ := fdv_some (a := gA wM 51 8) (b := laF (gA wM 51) (nLF (gA wM 51))) ⟨v8.1, by omega⟩ ⟨by omega, by omega⟩
      rw [hv]
      exact ⟨v, u, rfl, rfl, hu⟩
  obtain ⟨v, u, q1, q2, q3⟩ := key
  unfold p_op_31
  rw [q1, Option.bind_some, q3, Option.bind_some, q2, Option.bind_some, q3, Option.bind_some, dcm_same]
  exact ⟨_, rfl, h.fr (frm_refl _) a2⟩
theorem op32 (h : RR k na wC wM) : ∃ z, p_op_32 xs i na wC wM = some z ∧ RR k z.1 z.2.1 z.2.2 := by
  obtain ⟨w', a1, a2, a3, a4⟩ := h.lay (frmM_0 wM 0)
  obtain ⟨e1, e2, e3⟩ := h.ny a2
  obtain ⟨vB, v1, v3, v4, v5, v6, v7, v8⟩ := h.V
  have h288 := (lF_ok h.B).2.2.2
  have key : ∃ v, p_X8_meanStrokes wC = some (v, wC) ∧ p_X9_meanStrokes wM = some (v, w') := by
    unfold p_X8_meanStrokes p_X9_meanStrokes
    rw [a1, h.T.1, costsOf_o h ⟨Int.le_refl _, by omega, Int.le_refl _⟩, Option.bind_some, Option.bind_some]
    dsimp only
    rw [letters_o e1 h.B a3.1, Option.bind_some, h.T.1]
    dsimp only
    rw [strokesFrom_o h.B e1 a3 ⟨Int.le_refl _, by omega⟩, Option.bind_some]
    dsimp only
    rw [letters_o e1 h.B a3.1, Option.bind_some]
    dsimp only
    simp (disch := omega) only [eq32_o]
    by_cases c : laF (gA wM 51) (nLF (gA wM 51)) = 0
    · rw [if_pos c, if_pos c]
      exact ⟨_, rfl, rfl⟩
    · rw [if_neg c, if_neg c]
      have hc := cs_rng (gA wM 51) (laF (gA wM 51) (nLF (gA wM 51))).toNat
      have h0 : sm (cosF (gA wM 51)) (0 : Int).toNat = 0 := rfl
      obtain ⟨v, hv⟩ := ddv_some (a := sm (cosF (gA wM 51)) (laF (gA wM 51) (nLF (gA wM 51))).toNat - sm (cosF (gA wM 51)) (0 : Int).toNat) (b := laF (gA wM 51) (nLF (gA wM 51))) ⟨by omega, by omega⟩ ⟨by omega, by omega⟩
      rw [hv]
      exact ⟨v, rfl, rfl⟩
  obtain ⟨v, q1, q2⟩ := key
  unfold p_op_32
  rw [q1, Option.bind_some, q2, Option.bind_some, dcm_same]
  exact ⟨_, rfl, h.fr (frm_refl _) a2⟩
theorem op33 (h : RR k na wC wM) : ∃ z, p_op_33 xs i na wC wM = some z ∧ RR k z.1 z.2.1 z.2.2 := by
  obtain ⟨w', a1, a2, a3, a4⟩ := h.lay (frmM_0 wM 0)
  obtain ⟨e1, e2, e3⟩ := h.ny a2
  obtain ⟨vB, v1, v3, v4, v5, v6, v7, v8⟩ := h.V
  have h288 := (lF_ok h.B).2.2.2
  have hnf := nf_rng h.B
  have hc := h.B.c
  have hr := h.B.r
  have hm1 : gA wM 51 0 * gA wM 51 1 ≤ 24 * 12 := Int.mul_le_mul (by omega) (by omega) (by omega) (by decide)
  have hm0 : 0 ≤ gA wM 51 0 * gA wM 51 1 := Int.mul_nonneg (by omega) (by omega)
  have key : ∃ v, p_X8_density wC = some (v, wC) ∧ p_X9_density wM = some (v, w') := by
    unfold p_X8_density p_X9_density
    rw [flawC_o SLo_0 h.B h.S, Option.bind_some, a1, Option.bind_some]
    dsimp only
    rw [wide_o e1, Option.bind_some]
    dsimp only
    rw [high_o e1, Option.bind_some]
    dsimp only
    rw [flaws_o e1, Option.bind_some, h.T.1, show gF wC 100 0 = gA wM 51 0 from h.S.1.1, show gF wC 100 1 = gA wM 51 1 from h.S.1.2.1]
    dsimp only
    rw [letters_o e1 h.B a3.1, Option.bind_some]
    dsimp only
    generalize gA wM 51 0 * gA wM 51 1 = M at *
    simp (disch := omega) only [eq32_o]
    by_cases c : M - nfF (gA wM 51) = 0
    · rw [if_pos c, if_pos c]
      exact ⟨_, rfl, rfl⟩
    · rw [if_neg c, if_neg c]
      obtain ⟨v, hv⟩ := ddv_some' (a := laF (gA wM 51) (nLF (gA wM 51))) (b := M - nfF (gA wM 51)) ⟨by omega, by omega⟩ ⟨by omega, by omega, c⟩
      rw [hv]
      exact ⟨v, rfl, rfl⟩
  obtain ⟨v, q1, q2⟩ := key
  unfold p_op_33
  rw [q1, Option.bind_some, q2, Option.bind_some, dcm_same]
  exact ⟨_, rfl, h.fr (frm_refl _) a2⟩
end SH
