/-! ===== the law's text comes into the class ===== -/
theorem or_sl {v b : Nat} (hv : v < 8388608) (hb : b < 256) : or32 (sl32 ((v : Nat) : Int) 8) ((b : Nat) : Int) = ((256 * v + b : Nat) : Int) := by
  have hbt : ∀ (m i : Nat), i < 32 → bI ((m : Nat) : Int) i = m.testBit i := fun m i hi => by
    unfold bI; rw [nI_i]; exact bt_nI m hi
  have key : (Int32.ofInt (sl32 ((v : Nat) : Int) 8) ||| Int32.ofInt ((b : Nat) : Int)) = nI (256 * v + b) := b_ext (fun i hi => by
    rw [b_or, bt_nI _ hi]
    show (bI (sl32 ((v : Nat) : Int) 8) i || bI ((b : Nat) : Int) i) = _
    rw [bI_sl _ (n := 8) ⟨by decide, by decide⟩ hi, hbt b i hi, hbt v (i - (8 : Int).toNat) (by omega)]
    have h2 := Nat.testBit_two_pow_mul_add v (show b < 2 ^ 8 by omega) i
    rw [show 2 ^ 8 * v + b = 256 * v + b from rfl] at h2
    rw [h2]
    by_cases c : i < 8
    · rw [if_pos c, decide_eq_false (show ¬ (8 : Int) ≤ (i : Int) by omega), Bool.false_and, Bool.false_or]
    · have hz : b.testBit i = false := Nat.testBit_lt_two_pow (Nat.lt_of_lt_of_le (show b < 2 ^ 8 by omega) (Nat.pow_le_pow_right (by decide) (by omega)))
      rw [if_neg c, decide_eq_true (show (8 : Int) ≤ (i : Int) by omega), Bool.true_and, hz, Bool.or_false]
      rfl)
  unfold or32
  rw [key, nI_int (by omega)]
theorem four_v {t : List Int} (h : asc t) {x : Int} (hx : 0 ≤ x) : ∃ c0 c1 c2 c3 : Nat, (c0 < 128 ∧ c1 < 128 ∧ c2 < 128 ∧ c3 < 128) ∧ (Bt t x = (c0 : Nat) ∧ Bt t (x + 1) = (c1 : Nat) ∧ Bt t (x + 2) = (c2 : Nat) ∧ Bt t (x + 3) = (c3 : Nat)) ∧ fourF t x = ((256 * (256 * (256 * c0 + c1) + c2) + c3 : Nat) : Int) := by
  have hB : ∀ i : Int, 0 ≤ i → ∃ c : Nat, c < 128 ∧ Bt t i = (c : Nat) ∧ (if i < (t.length : Nat) then t.getD i.toNat 0 else 0) = ((c : Nat) : Int) := fun i hi => by
    by_cases q : i < (t.length : Nat)
    · have h1 := h.at i.toNat (by omega)
      exact ⟨(t.getD i.toNat 0).toNat, by omega, (by omega : t.getD i.toNat 0 = _), by rw [if_pos q]; omega⟩
    · refine ⟨0, by decide, ?_, if_neg q⟩
      unfold Bt
      rw [List.getD_eq_getElem?_getD, List.getElem?_eq_none (by omega)]; rfl
  obtain ⟨c0, a0, b0, d0⟩ := hB x hx
  obtain ⟨c1, a1, b1, d1⟩ := hB (x + 1) (by omega)
  obtain ⟨c2, a2, b2', d2⟩ := hB (x + 2) (by omega)
  obtain ⟨c3, a3, b3, d3⟩ := hB (x + 3) (by omega)
  refine ⟨c0, c1, c2, c3, ⟨a0, a1, a2, a3⟩, ⟨b0, b1, b2', b3⟩, ?_⟩
  have e0 : or32 (sl32 0 8) ((c0 : Nat) : Int) = ((c0 : Nat) : Int) := by
    have := or_sl (v := 0) (b := c0) (by decide) (by omega)
    rw [show 256 * 0 + c0 = c0 by omega] at this
    exact this
  unfold fourF
  show fr t x 3 (0 + 1) (or32 (sl32 0 8) (if x + 0 < (t.length : Nat) then t.getD (x + 0).toNat 0 else 0)) = _
  rw [Int.add_zero, d0, e0]
  show fr t x 2 (0 + 1 + 1) (or32 (sl32 (c0 : Nat) 8) (if x + (0 + 1) < (t.length : Nat) then t.getD (x + (0 + 1)).toNat 0 else 0)) = _
  rw [show x + (0 + 1) = x + 1 from rfl, d1, or_sl (by omega) (by omega)]
  show fr t x 1 (0 + 1 + 1 + 1) (or32 (sl32 ((256 * c0 + c1 : Nat) : Int) 8) (if x + (0 + 1 + 1) < (t.length : Nat) then t.getD (x + (0 + 1 + 1)).toNat 0 else 0)) = _
  rw [show x + (0 + 1 + 1) = x + 2 from rfl, d2, or_sl (by omega) (by omega)]
  show or32 (sl32 ((256 * (256 * c0 + c1) + c2 : Nat) : Int) 8) (if x + (0 + 1 + 1 + 1) < (t.length : Nat) then t.getD (x + (0 + 1 + 1 + 1)).toNat 0 else 0) = _
  rw [show x + (0 + 1 + 1 + 1) = x + 3 from rfl, d3, or_sl (by omega) (by omega)]
section FD
variable {k na : Nat}
/-- one byte more -/
theorem addB {w m : Wd} (h : RR k na w m) {c : Int} (hc : gF w 2 1 = c) (hlt : c < 500) (b : Int) : ∃ w' m', p_X0_add 2 b w = some w' ∧ RR k na w' m' ∧ gA m' 51 = gA m 51 ∧ gF w' 2 1 = c + 1 ∧ (∀ i, i ≠ c → gA w' 4 i = gA w 4 i) ∧ gA w' 4 c = b % 256 := by
  have hI : INr w m := h.2.2.2.2.2.1
  have hO : OUr w m := h.2.2.2.2.2.2.1
  obtain ⟨h1, h2, h3⟩ := hI
  have e : an32 b 255 = b % 256 := an255 b
  have fC : frm Sad Tad w (sF (sA w 4 c (b % 256)) 2 1 (c + 1)) := frm_sF (frm_sA (frm_refl w) rfl) ⟨rfl, rfl⟩
  have fM : frm Sa9 Ta9 m (sF (sA m 60 c (i8 (b % 256))) 50 18 (c + 1)) := frm_sF (frm_sA (frm_refl m) rfl) ⟨rfl, rfl⟩
  refine ⟨sF (sA w 4 c (b % 256)) 2 1 (c + 1), sF (sA m 60 c (i8 (b % 256))) 50 18 (c + 1), ?_, h.io (frm_ad fC) (frm_a9 fM) ⟨?_, ?_, fun i i0 i1 => ?_⟩ (hO.fr fC fM), funext fun i => fM.2.1 51 (by unfold Ta9; decide) i, by rw [gF_sF, if_pos ⟨rfl, rfl⟩], fun i hi => ?_, ?_⟩
  · unfold p_X0_add
    rw [hc, put_in (o := 2 + 1) (by rw [show ln (2 + 1 + 1) = 500 from rfl]; omega), Option.bind_some, e, show gF (sA w (2 + 1 + 1) c (b % 256)) 2 1 = c from hc]
  · rw [gF_sF, if_pos ⟨rfl, rfl⟩, gF_sF, if_pos ⟨rfl, rfl⟩]
  · rw [gF_sF, if_pos ⟨rfl, rfl⟩]; omega
  · rw [gF_sF, if_pos ⟨rfl, rfl⟩] at i1
    rw [gA_sF, gA_sF, gA_sA, gA_sA]
    by_cases d : i = c
    · rw [if_pos ⟨rfl, d⟩, if_pos ⟨rfl, d⟩]; exact ⟨by omega, rfl⟩
    · rw [if_neg (fun x => d x.2), if_neg (fun x => d x.2)]; exact h3 i i0 (by omega)
  · rw [gA_sF, gA_sA, if_neg (fun q => hi q.2)]
  · rw [gA_sF, gA_sA, if_pos ⟨rfl, rfl⟩]
def FED (t : List Int) (w : Wd) (c : Int) : Prop := gF w 2 1 = c ∧ ∀ i, 0 ≤ i → i < c → gA w 4 i = Bt t i
theorem addF {w m : Wd} {t : List Int} (ht : asc t) (h : RR k na w m) {c : Int} (hF : FED t w c) (hlt : 0 ≤ c ∧ c + 4 ≤ 500) : ∃ w' m', p_X0_addFour 2 (fourF t c) w = some w' ∧ RR k na w' m' ∧ gA m' 51 = gA m 51 ∧ FED t w' (c + 4) := by
  obtain ⟨c0, c1, c2, c3, ⟨a0, a1, a2, a3⟩, ⟨b0, b1, b2', b3⟩, hv⟩ := four_v ht hlt.1
  generalize hx : fourF t c = x at hv ⊢
  have u24 : us32 x 24 = (((x % 4294967296).toNat / 16777216 : Nat) : Int) := us_o x 24 (by decide)
  have u16 : us32 x 16 = (((x % 4294967296).toNat / 65536 : Nat) : Int) := us_o x 16 (by decide)
  have u8 : us32 x 8 = (((x % 4294967296).toNat / 256 : Nat) : Int) := us_o x 8 (by decide)
  have xr : (x % 4294967296).toNat = 256 * (256 * (256 * c0 + c1) + c2) + c3 := by omega
  obtain ⟨w1, m1, p1, q1, r1, s1, t1, v1⟩ := addB h hF.1 (by omega) (us32 x 24)
  obtain ⟨w2, m2, p2, q2, r2, s2, t2, v2⟩ := addB q1 s1 (by omega) (us32 x 16)
  obtain ⟨w3, m3, p3, q3, r3, s3, t3, v3⟩ := addB q2 s2 (by omega) (us32 x 8)
  obtain ⟨w4, m4, p4', q4, r4, s4, t4, v4⟩ := addB q3 s3 (by omega) x
  refine ⟨w4, m4, ?_, q4, by rw [r4, r3, r2, r1], by rw [s4]; omega, fun i i0 i1 => ?_⟩
  · unfold p_X0_addFour
    rw [p1, Option.bind_some, p2, Option.bind_some, p3, Option.bind_some, p4', Option.bind_some]
  · by_cases d3 : i = c + 1 + 1 + 1
    · rw [d3, v4, show c + 1 + 1 + 1 = c + 3 by omega, b3]; omega
    · rw [t4 i d3]
      by_cases d2 : i = c + 1 + 1
      · rw [d2, v3, show c + 1 + 1 = c + 2 by omega, b2', u8, xr]; omega
      · rw [t3 i d2]
        by_cases d1 : i = c + 1
        · rw [d1, v2, b1, u16, xr]; omega
        · rw [t2 i d1]
          by_cases d0 : i = c
          · rw [d0, v1, b0, u24, xr]; omega
          · rw [t1 i d0]; exact hF.2 i i0 (by omega)
theorem fed_o {t : List Int} (ht : asc t) (hl : t.length ≤ 400) {f : Rw} : ∀ (j : Nat) (w m : Wd) (c last : Int), RR k na w m → gA m 51 = f → FED t w c → last = c → 0 ≤ c ∧ c + 20 * j ≤ 440 → (j = 0 → (t.length : Int) ≤ c ∧ 0 < c) → (j ≠ 0 → c + 20 * (j : Int) - 20 < t.length ∨ c + 20 * (j : Int) - 20 = 0) →
    (t.length : Int) ≤ c + 20 * j → ∃ w' m', fedF t (j + 1) c last w = some w' ∧ RR k na w' m' ∧ gA m' 51 = f ∧ TXC w' (Bt t) (t.length : Nat) := by
  intro j
  induction j with
  | zero =>
    intro w m c last h hf hF hlast hc h0 _ hle
    subst hlast
    obtain ⟨z1, z2⟩ := h0 rfl
    have hI : INr w m := h.2.2.2.2.2.1
    have hO : OUr w m := h.2.2.2.2.2.2.1
    obtain ⟨i1, i2, i3⟩ := hI
    have fC : frm Sad Tad w (sF w 2 1 (t.length : Nat)) := frm_sF (frm_refl w) ⟨rfl, rfl⟩
    have fM : frm Sa9 Ta9 m (sF m 50 18 (t.length : Nat)) := frm_sF (frm_refl m) ⟨rfl, rfl⟩
    have hg : gF w 2 1 = last := hF.1
    refine ⟨sF w 2 1 (t.length : Nat), sF m 50 18 (t.length : Nat), ?_, h.io (frm_ad fC) (frm_a9 fM) ⟨?_, ?_, fun i j0 j1 => ?_⟩ (hO.fr fC fM), hf, ?_⟩
    · unfold fedF
      rw [if_neg (by omega), mn32_o (by omega), show min last ((t.length : Nat) : Int) = (t.length : Nat) by omega]
      unfold p_Y8_truncate
      rw [hg, if_neg (by rw [lt32_o (by omega)]; omega), if_neg (by rw [lt32_o (by omega)]; omega)]
    · rw [gF_sF, if_pos ⟨rfl, rfl⟩, gF_sF, if_pos ⟨rfl, rfl⟩]
    · rw [gF_sF, if_pos ⟨rfl, rfl⟩]; omega
    · rw [gF_sF, if_pos ⟨rfl, rfl⟩] at j1
      exact i3 i j0 (by omega)
    · refine ⟨by rw [gF_sF, if_pos ⟨rfl, rfl⟩], by omega, fun i j0 j1 => ⟨hF.2 i j0 (by omega), ?_⟩⟩
      have h1 := ht.at i.toNat (by omega)
      show 0 ≤ t.getD i.toNat 0 ∧ t.getD i.toNat 0 ≤ 255
      omega
  | succ j ih =>
    intro w m c last h hf hF hlast hc h0 hlt hle
    have hk : c < (t.length : Nat) ∨ c = 0 := by rcases hlt (by omega) with q | q <;> omega
    obtain ⟨w1, m1, a1, a2, a3, a4⟩ := addF ht h hF (by omega)
    obtain ⟨w2, m2, b1, b2', b3, b4⟩ := addF ht a2 a4 (by omega)
    obtain ⟨w3, m3, c1, c2, c3, c4⟩ := addF ht b2' b4 (by omega)
    obtain ⟨w4, m4, d1, d2, d3, d4⟩ := addF ht c2 c4 (by omega)
    obtain ⟨w5, m5, e1, e2, e3, e4⟩ := addF ht d2 d4 (by omega)
    have hcs : c + 4 + 4 = c + 8 ∧ c + 4 + 4 + 4 = c + 12 ∧ c + 4 + 4 + 4 + 4 = c + 16 ∧ c + 4 + 4 + 4 + 4 + 4 = c + 20 := by omega
    rw [hcs.2.2.2] at e4
    rw [hcs.2.2.1] at e1
    rw [hcs.2.1] at d1
    rw [hcs.1] at c1
    obtain ⟨w6, m6, g1, g2, g3, g4⟩ := ih w5 m5 (c + 20) (gF w5 2 1) e2 (by rw [e3, d3, c3, b3, a3]; exact hf) e4 e4.1 (by omega) (by omega) (by omega) (by omega)
    refine ⟨w6, m6, ?_, g2, g3, g4⟩
    have hap : p_Y8_append (fourF t c) (fourF t (c + 4)) (fourF t (c + 8)) (fourF t (c + 12)) (fourF t (c + 16)) w = some (gF w5 2 1, w5) := by
      unfold p_Y8_append
      rw [hF.1, if_neg (by rw [lt32_o (by omega)]; omega), a1, Option.bind_some, b1, Option.bind_some, c1, Option.bind_some, d1, Option.bind_some, e1, Option.bind_some]
    rw [fedF, if_pos hk, hap, Option.bind_some]
    exact g1
/-- the law's feed -/
theorem feed_o {t : List Int} (ht : asc t) (hl : t.length ≤ 400) {w m : Wd} (h : RR k na w m) (h0 : gF w 2 1 = 0) : ∃ n w' m', fedF t n 0 0 w = some w' ∧ RR k na w' m' ∧ gA m' 51 = gA m 51 ∧ TXC w' (Bt t) (t.length : Nat) := by
  have hF : FED t w 0 := ⟨h0, fun i i0 i1 => absurd i1 (by omega)⟩
  obtain ⟨j, hj⟩ : ∃ j : Nat, 1 ≤ j ∧ ((t.length : Int) ≤ 20 * j) ∧ (20 * (j : Int) - 20 < t.length ∨ 20 * (j : Int) - 20 = 0) := ⟨if t.length = 0 then 1 else (t.length + 19) / 20, by split <;> omega⟩
  obtain ⟨w', m', a⟩ := fed_o ht hl (f := gA m 51) j w m 0 0 h rfl hF rfl (by omega) (by omega) (by omega) (by omega)
  exact ⟨j + 1, w', m', a⟩
end FD
