/-! ===== input and output ===== -/
def SCi (o k : Nat) : Prop := SCf o k ∨ (o = 2 ∧ k = 1) ∨ (o = 5 ∧ k = 1)
def TCi (o : Nat) : Prop := TCf o ∨ o = 4 ∨ o = 7
def SMi (o k : Nat) : Prop := o = 50 ∧ k ≠ 24 ∧ k ≠ 25 ∧ k ≠ 31
def TMi (o : Nat) : Prop := TMf o ∨ o = 60 ∨ o = 64
theorem RR.io {k na : Nat} {wC wM wC' wM' : Wd} (h : RR k na wC wM) (hC : frm SCi TCi wC wC') (hM : frm SMi TMi wM wM') (hI : INr wC' wM') (hO : OUr wC' wM') : RR k na wC' wM' := by
  obtain ⟨a1, a2, a3, a4, a5, a6, a7, a8, ⟨b1, b2', b3⟩, c, d⟩ := h
  have hSC : ∀ a k, SCi a k → a < 132 ∧ ¬ (100 ≤ a ∧ a ≤ 111) := fun a k h => by unfold SCi SCf at h; omega
  have hTC : ∀ a, TCi a → a < 132 ∧ ¬ (100 ≤ a ∧ a ≤ 111) := fun a h => by unfold TCi TCf at h; omega
  have n51 : gA wM' 51 = gA wM 51 := funext fun i => hM.2.1 51 (by unfold TMi TMf; omega) i
  have nP : ∀ j, prM wM' j = prM wM j := fun j => congrArg nrm (funext fun i => hM.2.1 63 (by unfold TMi TMf; omega) _)
  have nK : ∀ j, krM wM' j = krM wM j := fun j => congrArg nrm (funext fun i => hM.2.1 61 (by unfold TMi TMf; omega) _)
  have m24 : gF wM' 50 24 = gF wM 50 24 := hM.1 50 24 (by unfold SMi; omega)
  have m25 : gF wM' 50 25 = gF wM 50 25 := hM.1 50 25 (by unfold SMi; omega)
  have m31 : gF wM' 50 31 = gF wM 50 31 := hM.1 50 31 (by unfold SMi; omega)
  have cP : ∀ o i, gP wC' o i = gP wC o i := hC.2.2
  refine ⟨(hM.2.2 _ _).trans a1, by rw [n51]; exact a2, by rw [n51]; exact a3.far hC hSC hTC (Or.inl rfl), by rw [n51]; exact a4.fr hC (by unfold SCi SCf; omega) (by unfold TCi TCf; omega) (by unfold TCi TCf; omega), by rw [n51]; exact a5.fr hC (by unfold SCi SCf; omega) (by unfold TCi TCf; omega) (by unfold TCi TCf; omega), hI, hO, ?_, ⟨?_, ?_, fun j j0 j1 => ?_⟩, fun s s0 s1 => ?_, d.1.keep cP, by rw [n51]; exact d.2⟩
  · exact ⟨by rw [m24, hC.1 9 1 (by unfold SCi SCf; omega)]; exact a8.1, by rw [m25, hC.1 9 2 (by unfold SCi SCf; omega)]; exact a8.2⟩
  · rw [m31, hC.1 31 1 (by unfold SCi SCf; omega)]; exact b1
  · rw [m31]; exact b2'
  · rw [m31] at j1
    obtain ⟨x1, x2, x3⟩ := b3 j j0 j1
    rw [cP, nP]
    exact ⟨x1, x2.far hC hSC hTC (Or.inr (d.1.p ⟨j0, by omega⟩ x1)), x3⟩
  · rw [cP, nK, hM.2.1 62 (by unfold TMi TMf; omega)]
    rcases c s s0 s1 with h | h
    · exact Or.inl h
    · exact Or.inr ⟨h.1, h.2.1, h.2.2.1.far hC hSC hTC (Or.inr (d.1.s ⟨s0, s1⟩ h.1)), h.2.2.2⟩
/-! bytes -/
theorem an255 (a : Int) : an32 a 255 = a % 256 := by
  unfold an32
  have h : (Int32.ofInt a &&& Int32.ofInt 255).toInt = (BitVec.ofInt 32 a &&& 255#32).toInt := rfl
  have hn : (BitVec.ofInt 32 a &&& 255#32).toNat = (a % 4294967296).toNat % 256 := by
    rw [BitVec.toNat_and, BitVec.toNat_ofInt, show (255#32).toNat = 2 ^ 8 - 1 from rfl, Nat.and_two_pow_sub_one_eq_mod]; rfl
  rw [h, BitVec.toInt_eq_toNat_of_lt (by rw [hn]; omega), hn]
  omega
theorem us_o (a : Int) (n : Nat) (h : 0 < n ∧ n < 32) : us32 a (n : Int) = (((a % 4294967296).toNat / 2 ^ n : Nat) : Int) := by
  unfold us32
  have hs : ((Int32.ofInt (n : Int)).toUInt32 &&& Int32.toUInt32 31) = UInt32.ofNat n := by
    have : ∀ m, m < 32 → ((Int32.ofInt ((m : Nat) : Int)).toUInt32 &&& Int32.toUInt32 31) = UInt32.ofNat m := by decide +kernel
    exact this n h.2
  rw [hs]
  have ht : ∀ x : UInt32, x.toInt32.toInt = x.toBitVec.toInt := fun _ => rfl
  have hn : ((Int32.ofInt a).toUInt32 >>> UInt32.ofNat n).toBitVec.toNat = (a % 4294967296).toNat / 2 ^ n := by
    show ((Int32.ofInt a).toUInt32 >>> UInt32.ofNat n).toNat = _
    rw [UInt32.toNat_shiftRight, Nat.shiftRight_eq_div_pow]
    have e1 : (UInt32.ofNat n).toNat % 32 = n := by
      rw [UInt32.toNat_ofNat']; omega
    have e2 : (Int32.ofInt a).toUInt32.toNat = (a % 4294967296).toNat := BitVec.toNat_ofInt ..
    rw [e1, e2]
  have hp : 2 ≤ 2 ^ n := Nat.le_trans (show 2 ≤ 2 ^ 1 by decide) (Nat.pow_le_pow_right (by decide) h.1)
  have hd : (a % 4294967296).toNat / 2 ^ n ≤ (a % 4294967296).toNat / 2 := Nat.div_le_div_left hp (by decide)
  rw [ht, BitVec.toInt_eq_toNat_of_lt (by rw [hn]; omega), hn]
theorem sr_o (a : Int) (n : Nat) (h : n < 32) (ha : rng a) : sr32 a (n : Int) = a / ((2 ^ n : Nat) : Int) := by
  unfold sr32
  unfold rng at ha
  have hs : (Int32.ofInt (n : Int) &&& 31) = Int32.ofInt (n : Int) := by
    have : ∀ m, m < 32 → (Int32.ofInt ((m : Nat) : Int) &&& 31) = Int32.ofInt ((m : Nat) : Int) := by decide +kernel
    exact this n h
  rw [hs]
  have h2 : (Int32.ofInt a >>> Int32.ofInt (n : Int)).toInt = ((BitVec.ofInt 32 a).sshiftRight n).toInt := by
    show ((Int32.ofInt a).toBitVec.sshiftRight' ((Int32.ofInt (n : Int)).toBitVec.smod 32)).toInt = _
    rw [BitVec.sshiftRight_eq']
    have e1 : ((Int32.ofInt (n : Int)).toBitVec.smod 32).toNat = n := by
      have : ∀ m, m < 32 → ((Int32.ofInt ((m : Nat) : Int)).toBitVec.smod 32).toNat = m := by decide +kernel
      exact this n h
    rw [e1]; rfl
  rw [h2, BitVec.toInt_sshiftRight, BitVec.toInt_ofInt, Int.shiftRight_eq_div_pow]
  have : Int.bmod a (2 ^ 32) = a := by rw [Int.bmod_def]; omega
  rw [this]
theorem byte_b {x : Int} (hx : rng x) : (i8 (i8 (sr32 x 24)) = i8 (an32 (us32 x 24) 255) ∧ i8 (i8 (sr32 x 16)) = i8 (an32 (us32 x 16) 255)) ∧ i8 (i8 (sr32 x 8)) = i8 (an32 (us32 x 8) 255) ∧ i8 (i8 (sr32 x 0)) = i8 (an32 x 255) := by
  have s24 : sr32 x 24 = x / 16777216 := sr_o x 24 (by decide) hx
  have s16 : sr32 x 16 = x / 65536 := sr_o x 16 (by decide) hx
  have s8 : sr32 x 8 = x / 256 := sr_o x 8 (by decide) hx
  have s0 : sr32 x 0 = x / 1 := sr_o x 0 (by decide) hx
  have u24 : us32 x 24 = (((x % 4294967296).toNat / 16777216 : Nat) : Int) := us_o x 24 (by decide)
  have u16 : us32 x 16 = (((x % 4294967296).toNat / 65536 : Nat) : Int) := us_o x 16 (by decide)
  have u8 : us32 x 8 = (((x % 4294967296).toNat / 256 : Nat) : Int) := us_o x 8 (by decide)
  have hb : ∀ a b : Int, a % 256 = b % 256 → i8 (i8 a) = i8 (b % 256) := fun a b h => by
    unfold i8; simp only [Int.bmod_def]; omega
  rw [s24, s16, s8, s0, u24, u16, u8, an255, an255, an255, an255]
  unfold rng at hx
  exact ⟨⟨hb _ _ (by omega), hb _ _ (by omega)⟩, hb _ _ (by omega), hb _ _ (by omega)⟩
def Sad (o k : Nat) : Prop := o = 2 ∧ k = 1
def Tad (o : Nat) : Prop := o = 4
def Sa9 (o k : Nat) : Prop := o = 50 ∧ k = 18
def Ta9 (o : Nat) : Prop := o = 60
theorem add1 {w m : Wd} (hI : INr w m) (hlt : gF m 50 18 < 500) {b c : Int} (hb : i8 (i8 c) = i8 (an32 b 255)) : ∃ w', p_X0_add 2 b w = some w' ∧ frm Sad Tad w w' ∧ INr w' (sF (sA m 60 (gF m 50 18) (i8 (i8 c))) 50 18 (gF m 50 18 + 1)) := by
  obtain ⟨h1, h2, h3⟩ := hI
  have e : an32 b 255 = b % 256 := an255 b
  unfold p_X0_add
  rw [h1, put_in (by rw [show ln (2 + 1 + 1) = 500 from rfl]; omega), Option.bind_some, show gF (sA w (2 + 1 + 1) (gF m 50 18) (an32 b 255)) 2 1 = gF m 50 18 from h1]
  refine ⟨_, rfl, frm_sF (frm_sA (frm_refl w) rfl) ⟨rfl, rfl⟩, ?_, ?_, fun i i0 i1 => ?_⟩
  · rw [gF_sF, if_pos ⟨rfl, rfl⟩, gF_sF, if_pos ⟨rfl, rfl⟩]
  · rw [gF_sF, if_pos ⟨rfl, rfl⟩]; omega
  · rw [gF_sF, if_pos ⟨rfl, rfl⟩] at i1
    rw [gA_sF, gA_sF, gA_sA, gA_sA]
    by_cases d : i = gF m 50 18
    · rw [if_pos ⟨rfl, d⟩, if_pos ⟨rfl, d⟩, hb, e]; exact ⟨by omega, rfl⟩
    · rw [if_neg (fun x => d x.2), if_neg (fun x => d x.2)]; exact h3 i i0 (by omega)
theorem add4 {w m : Wd} (hI : INr w m) (hlt : gF m 50 18 + 4 ≤ 500) {x : Int} (hx : rng x) : ∃ w' m', p_X0_addFour 2 x w = some w' ∧ p_X9_appendFour x m = some m' ∧ frm Sad Tad w w' ∧ frm Sa9 Ta9 m m' ∧ INr w' m' ∧ gF m' 50 18 = gF m 50 18 + 4 := by
  obtain ⟨⟨b1, b2'⟩, b3, b4⟩ := byte_b hx
  have h0 := hI.2.1
  obtain ⟨w1, a1, a2, a3⟩ := add1 hI (by omega) b1
  obtain ⟨w2, c1, c2, c3⟩ := add1 a3 (by rw [gF_sF, if_pos ⟨rfl, rfl⟩]; omega) b2'
  obtain ⟨w3, d1, d2, d3⟩ := add1 c3 (by rw [gF_sF, if_pos ⟨rfl, rfl⟩, gF_sF, if_pos ⟨rfl, rfl⟩]; omega) b3
  obtain ⟨w4, e1, e2, e3⟩ := add1 d3 (by rw [gF_sF, if_pos ⟨rfl, rfl⟩, gF_sF, if_pos ⟨rfl, rfl⟩, gF_sF, if_pos ⟨rfl, rfl⟩]; omega) b4
  refine ⟨w4, _, ?_, ?_, frm_trans a2 (frm_trans c2 (frm_trans d2 e2)), ?_, e3, ?_⟩
  · unfold p_X0_addFour
    rw [a1, Option.bind_some, c1, Option.bind_some, d1, Option.bind_some, e1, Option.bind_some]
  · obtain ⟨n, hn⟩ : ∃ n, FU = n + 5 := ⟨999995, rfl⟩
    unfold p_X9_appendFour
    have g1 : ∀ (z : Wd) (v : Int), gF (sF z 50 18 v) 50 18 = v := fun _ _ => by rw [gF_sF, if_pos ⟨rfl, rfl⟩]
    have st : ∀ (n : Nat) (s : Int) (z : Wd), 0 ≤ s → s ≤ 24 → 0 ≤ gF z 50 18 → gF z 50 18 < 500 → p_X9_appendFour_3 (n + 1) x s z = p_X9_appendFour_3 n x (s + (-8)) (sF (sA z 60 (gF z 50 18) (i8 (i8 (sr32 x s)))) 50 18 (gF z 50 18 + 1)) := fun n s z s0 s1 z0 z1 => by
      simp (disch := omega) only [p_X9_appendFour_3, lt32_o, inb_f, if_false]
      rw [if_neg (by omega), Option.bind_some]; rfl
    rw [hn, st _ _ _ (by decide) (by decide) (by omega) (by omega), st _ _ _ (by decide) (by decide) (by rw [g1]; omega) (by rw [g1]; omega), st _ _ _ (by decide) (by decide) (by rw [g1, g1]; omega) (by rw [g1, g1]; omega), st _ _ _ (by decide) (by decide) (by rw [g1, g1, g1]; omega) (by rw [g1, g1, g1]; omega)]
    simp (disch := omega) only [p_X9_appendFour_3, lt32_o]
    rw [if_pos (by decide)]
    rfl
  · exact frm_sF (frm_sA (frm_sF (frm_sA (frm_sF (frm_sA (frm_sF (frm_sA (frm_refl m) rfl) ⟨rfl, rfl⟩) rfl) ⟨rfl, rfl⟩) rfl) ⟨rfl, rfl⟩) rfl) ⟨rfl, rfl⟩
  · simp only [gF_sF, and_self, if_true]; omega
section IO
variable {k na : Nat} {wC wM : Wd} {xs : Nat → Int32} {i : Int}
theorem frm_ad {w w' : Wd} (h : frm Sad Tad w w') : frm SCi TCi w w' := frm_mono h (fun o k h => by unfold Sad at h; unfold SCi; omega) (fun o h => by unfold Tad at h; unfold TCi; omega)
theorem frm_a9 {w w' : Wd} (h : frm Sa9 Ta9 w w') : frm SMi TMi w w' := frm_mono h (fun o k h => by unfold Sa9 at h; unfold SMi; omega) (fun o h => by unfold Ta9 at h; unfold TMi; omega)
theorem OUr.fr {w m w' m' : Wd} (h : OUr w m) (hC : frm Sad Tad w w') (hM : frm Sa9 Ta9 m m') : OUr w' m' := by
  have e : gF m' 50 33 = gF m 50 33 := hM.1 50 33 (by unfold Sa9; omega)
  refine ⟨by rw [e, hC.1 5 1 (by unfold Sad; omega)]; exact h.1, by rw [e]; exact h.2.1, fun i i0 i1 => ?_⟩
  rw [e] at i1
  rw [hC.2.1 7 (by unfold Tad; omega), hM.2.1 64 (by unfold Ta9; omega)]
  exact h.2.2 i i0 i1
theorem op0 (h : RR k na wC wM) : ∃ z, p_op_0 xs i na wC wM = some z ∧ RR k z.1 z.2.1 z.2.2 := by
  unfold p_op_0 p_L_append
  have q1 := sc_rng xs (i + 1)
  have q2 := sc_rng xs (i + 2)
  have q3 := sc_rng xs (i + 3)
  have q4 := sc_rng xs (i + 4)
  have q5 := sc_rng xs (i + 5)
  generalize sc xs (i + 1) = x1 at *
  generalize sc xs (i + 2) = x2 at *
  generalize sc xs (i + 3) = x3 at *
  generalize sc xs (i + 4) = x4 at *
  generalize sc xs (i + 5) = x5 at *
  have hI : INr wC wM := h.2.2.2.2.2.1
  have hO : OUr wC wM := h.2.2.2.2.2.2.1
  have h0 := hI.2.1
  unfold p_X8_append p_X9_append p_X9_append_19
  rw [hI.1]
  simp (disch := omega) only [lt32_o]
  by_cases c : 480 < gF wM 50 18
  · rw [if_pos c, if_pos (show 500 < gF wM 50 18 + 20 by omega)]
    refine wex (h := hnd1 1) (f := fun r w => sA w 34 0 (w32 r)) (e := 1) (c := 1) (na' := na) (wC' := wC) (r := 0) (wM' := sF wM 50 0 1) rfl ?_ rfl (Or.inl rfl) rfl (h.fr (frm_refl _) (frmM_0 _ _))
    rw [show p_X9_passes 0 wM = some (0, sF wM 50 0 1) from passes_o (p := false), Option.bind_some]
    rfl
  · rw [if_neg c, if_neg (show ¬ 500 < gF wM 50 18 + 20 by omega)]
    rw [show p_X9_passes 1 wM = some (1, sF wM 50 0 0) from passes_o (p := true), Option.bind_some]
    dsimp only
    rw [if_neg (show ¬ eq32 1 0 = true by decide +kernel)]
    have hI0 : INr wC (sF wM 50 0 0) := hI
    obtain ⟨w1, m1, a1, a2, a3, a4, a5, a6⟩ := add4 hI0 (show gF wM 50 18 + 4 ≤ 500 by omega) q1
    have e1 : gF m1 50 18 = gF wM 50 18 + 4 := a6
    obtain ⟨w2, m2, b1, b2', b3, b4, b5, b6⟩ := add4 a5 (by omega) q2
    obtain ⟨w3, m3, c1, c2, c3, c4, c5, c6⟩ := add4 b5 (by omega) q3
    obtain ⟨w4, m4, d1, d2, d3, d4, d5, d6⟩ := add4 c5 (by omega) q4
    obtain ⟨w5, m5, f1, f2, f3, f4, f5, f6⟩ := add4 d5 (by omega) q5
    have hC := frm_trans a3 (frm_trans b3 (frm_trans c3 (frm_trans d3 f3)))
    have hM := frm_trans a4 (frm_trans b4 (frm_trans c4 (frm_trans d4 f4)))
    refine wok (r := gF m5 50 18) (na' := na) (wC' := w5) (wM' := m5) ?_ ?_ ((hM.1 50 0 (by unfold Sa9; omega)).trans rfl) ((h.fr (frm_refl _) (frmM_0 wM 0)).io (frm_ad hC) (frm_a9 hM) f5 (OUr.fr (show OUr wC (sF wM 50 0 0) from hO) hC hM))
    · rw [a1, Option.bind_some, b1, Option.bind_some, c1, Option.bind_some, d1, Option.bind_some, f1, Option.bind_some, f5.1]
    · rw [a2, Option.bind_some, b2', Option.bind_some, c2, Option.bind_some, d2, Option.bind_some, f2, Option.bind_some]
theorem op1 (h : RR k na wC wM) : ∃ z, p_op_1 xs i na wC wM = some z ∧ RR k z.1 z.2.1 z.2.2 := by
  unfold p_op_1 p_L_truncate
  have hx := sc_rng xs (i + 1)
  generalize sc xs (i + 1) = x at *
  have hx' := hx
  unfold rng at hx'
  have hI : INr wC wM := h.2.2.2.2.2.1
  have hO : OUr wC wM := h.2.2.2.2.2.2.1
  have h0 := hI.2.1
  unfold p_X8_truncate p_X9_truncate p_X8_truncate_15
  rw [hI.1, w32_o hx', w32_o (by omega), in_o (by omega), Option.bind_some]
  dsimp only
  rw [passes_o, Option.bind_some]
  simp (disch := omega) only [lt32_o, eq32_b2]
  by_cases c : 0 ≤ x ∧ x ≤ gF wM 50 18
  · rw [if_neg (show ¬ x < 0 by omega), if_neg (show ¬ gF wM 50 18 < x by omega), decide_eq_true c, if_neg (show ¬ true = false by decide), Option.bind_some]
    refine ⟨(na, sF wC 2 1 x, sF (sF wM 50 0 0) 50 18 x), ?_, ?_⟩
    · show ((some (0, na, sF wC 2 1 x)).bind _) = _
      rw [Option.bind_some, Option.bind_some, thrown_eq, Option.bind_some]
      rfl
    · refine (h.fr (frm_refl _) (frmM_0 wM 0)).io (frm_sF (frm_refl _) (by unfold SCi; omega)) (frm_sF (frm_refl _) (by unfold SMi; omega)) ⟨by rw [gF_sF, if_pos ⟨rfl, rfl⟩, gF_sF, if_pos ⟨rfl, rfl⟩], by rw [gF_sF, if_pos ⟨rfl, rfl⟩]; omega, fun i i0 i1 => ?_⟩ hO
      rw [gF_sF, if_pos ⟨rfl, rfl⟩] at i1
      exact hI.2.2 i i0 (by omega)
  · have e8 : (if x < 0 then some (Sum.inr 2, na, wC) else if gF wM 50 18 < x then some (Sum.inr 2, na, wC) else some (Sum.inl 0, na, sF wC 2 1 x)) = (some (Sum.inr 2, na, wC) : Option Rz) := by
      by_cases d : x < 0
      · rw [if_pos d]
      · rw [if_neg d, if_pos (by omega)]
    rw [e8, decide_eq_false c, if_pos rfl]
    refine ⟨(na, wC, sF wM 50 0 1), ?_, h.fr (frm_refl _) (frmM_0 wM 1)⟩
    show ((some (1, na, wC)).bind _) = _
    rw [Option.bind_some, Option.bind_some, thrown_eq, Option.bind_some]
    rfl
end IO
