/-! ===== flaws counted by bits ===== -/
theorem bt_nI (k : Nat) {i : Nat} (hi : i < 32) : bt (nI k) i = k.testBit i := by
  unfold bt
  show (BitVec.ofNat 32 k).getLsbD i = _
  rw [BitVec.getLsbD_ofNat, decide_eq_true hi, Bool.true_and]
theorem nI_int {k : Nat} (h : k < 2147483648) : (nI k).toInt = (k : Int) := by
  rw [← nI_i, w32_toInt, w32_id (by omega) (by omega)]
theorem an32_n {a b : Nat} (ha : a < 2147483648) : an32 (a : Int) (b : Int) = ((a &&& b : Nat) : Int) := by
  unfold an32
  rw [nI_i, nI_i, show nI a &&& nI b = nI (a &&& b) from b_ext (fun i hi => by
    rw [b_and, bt_nI _ hi, bt_nI _ hi, bt_nI _ hi, Nat.testBit_and])]
  exact nI_int (Nat.lt_of_le_of_lt Nat.and_le_left ha)
theorem us32_n {a s : Nat} (ha : a < 2147483648) (hs : s < 32) : us32 (a : Int) (s : Int) = ((a / 2 ^ s : Nat) : Int) := by
  unfold us32
  rw [nI_i, nI_i]
  rw [show ((nI a).toUInt32 >>> ((nI s).toUInt32 &&& Int32.toUInt32 31)).toInt32 = nI (a / 2 ^ s) from b_ext (fun i hi => by
    rw [b_ushr s hs, bt_nI _ hi, Nat.testBit_div_two_pow]
    by_cases c : s + i < 32
    · rw [bt_nI _ c, Nat.add_comm]
    · rw [b_big (by omega), Nat.add_comm i s]
      exact (Nat.testBit_lt_two_pow (Nat.lt_of_lt_of_le ha (Nat.pow_le_pow_right (n := 2) (by decide) (show 31 ≤ s + i by omega)))).symm)]
  exact nI_int (Nat.lt_of_le_of_lt (Nat.div_le_self _ _) ha)
theorem and16 (q r Q R : Nat) (hr : r < 16) (hR : R < 16) : (16 * q + r) &&& (16 * Q + R) = 16 * (q &&& Q) + (r &&& R) := by
  have h1 : r &&& R < 16 := Nat.lt_of_le_of_lt Nat.and_le_left hr
  apply Nat.eq_of_testBit_eq
  intro i
  rw [Nat.testBit_and, show 16 = 2 ^ 4 from rfl, Nat.testBit_two_pow_mul_add _ hr, Nat.testBit_two_pow_mul_add _ hR, Nat.testBit_two_pow_mul_add _ h1]
  by_cases c : i < 4
  · rw [if_pos c, if_pos c, if_pos c, Nat.testBit_and]
  · rw [if_neg c, if_neg c, if_neg c, Nat.testBit_and]
theorem nb_t : ∀ n, n < 16 → ∀ b, b < 2 → (8 * b + n / 2) &&& 5 ≤ n ∧ (8 * b + n / 2) &&& 5 = (n / 2) &&& 5 ∧ n - ((n / 2) &&& 5) < 16 := by decide +kernel
theorem nb_u : ∀ t, t < 16 → ∀ b, b < 4 → (4 * b + t / 4) &&& 3 = t / 4 ∧ t &&& 3 = t % 4 := by decide +kernel
theorem nb_p : ∀ n, n < 16 → (n - ((n / 2) &&& 5)) % 4 + (n - ((n / 2) &&& 5)) / 4 = n % 2 + n / 2 % 2 + n / 4 % 2 + n / 8 % 2 := by decide +kernel
theorem nb_f : ∀ p, p < 16 → p &&& 15 = p ∧ p &&& 0 = 0 := by decide +kernel
theorem h6 (a0 a1 a2 a3 a4 a5 m0 m1 m2 m3 m4 m5 : Nat) (h : a0 < 16 ∧ a1 < 16 ∧ a2 < 16 ∧ a3 < 16 ∧ a4 < 16 ∧ a5 < 16) (hm : m0 < 16 ∧ m1 < 16 ∧ m2 < 16 ∧ m3 < 16 ∧ m4 < 16 ∧ m5 < 16) (M : Nat) :
    (16 * (16 * (16 * (16 * (16 * a5 + a4) + a3) + a2) + a1) + a0) &&& (16 * (16 * (16 * (16 * (16 * (16 * M + m5) + m4) + m3) + m2) + m1) + m0) = 16 * (16 * (16 * (16 * (16 * (a5 &&& m5) + (a4 &&& m4)) + (a3 &&& m3)) + (a2 &&& m2)) + (a1 &&& m1)) + (a0 &&& m0) := by
  rw [and16 _ _ _ _ h.1 hm.1, and16 _ _ _ _ h.2.1 hm.2.1, and16 _ _ _ _ h.2.2.1 hm.2.2.1, and16 _ _ _ _ h.2.2.2.1 hm.2.2.2.1, and16 _ _ _ _ h.2.2.2.2.1 hm.2.2.2.2.1]
  have h5 := and16 0 a5 M m5 h.2.2.2.2.2 hm.2.2.2.2.2
  rw [Nat.mul_zero, Nat.zero_add, Nat.zero_and, Nat.mul_zero, Nat.zero_add] at h5
  rw [h5]
theorem popT {a0 a1 a2 a3 a4 a5 : Nat} (h : a0 < 16 ∧ a1 < 16 ∧ a2 < 16 ∧ a3 < 16 ∧ a4 < 16 ∧ a5 < 16) {m : Nat} (hm : m = 16 * (16 * (16 * (16 * (16 * a5 + a4) + a3) + a2) + a1) + a0) :
    m - ((m / 2) &&& 1431655765) = 16 * (16 * (16 * (16 * (16 * (a5 - ((a5 / 2) &&& 5)) + (a4 - ((a4 / 2) &&& 5))) + (a3 - ((a3 / 2) &&& 5))) + (a2 - ((a2 / 2) &&& 5))) + (a1 - ((a1 / 2) &&& 5))) + (a0 - ((a0 / 2) &&& 5)) := by
  have e : m / 2 = 16 * (16 * (16 * (16 * (16 * (8 * 0 + a5 / 2) + (8 * (a5 % 2) + a4 / 2)) + (8 * (a4 % 2) + a3 / 2)) + (8 * (a3 % 2) + a2 / 2)) + (8 * (a2 % 2) + a1 / 2)) + (8 * (a1 % 2) + a0 / 2) := by omega
  have e2 : (1431655765 : Nat) = 16 * (16 * (16 * (16 * (16 * (16 * 85 + 5) + 5) + 5) + 5) + 5) + 5 := by decide
  rw [e, e2, h6 _ _ _ _ _ _ _ _ _ _ _ _ (by omega) (by decide)]
  have t0 := nb_t a0 h.1 (a1 % 2) (by omega)
  have t1 := nb_t a1 h.2.1 (a2 % 2) (by omega)
  have t2 := nb_t a2 h.2.2.1 (a3 % 2) (by omega)
  have t3 := nb_t a3 h.2.2.2.1 (a4 % 2) (by omega)
  have t4 := nb_t a4 h.2.2.2.2.1 (a5 % 2) (by omega)
  have t5 := nb_t a5 h.2.2.2.2.2 0 (by omega)
  rw [t0.2.1, t1.2.1, t2.2.1, t3.2.1, t4.2.1, t5.2.1]
  rw [t0.2.1] at t0
  rw [t1.2.1] at t1
  rw [t2.2.1] at t2
  rw [t3.2.1] at t3
  rw [t4.2.1] at t4
  rw [t5.2.1] at t5
  omega
theorem popU {a0 a1 a2 a3 a4 a5 : Nat} (h : a0 < 16 ∧ a1 < 16 ∧ a2 < 16 ∧ a3 < 16 ∧ a4 < 16 ∧ a5 < 16) {m : Nat} (hm : m = 16 * (16 * (16 * (16 * (16 * a5 + a4) + a3) + a2) + a1) + a0) :
    (m &&& 858993459) + ((m / 4) &&& 858993459) = 16 * (16 * (16 * (16 * (16 * (a5 % 4 + a5 / 4) + (a4 % 4 + a4 / 4)) + (a3 % 4 + a3 / 4)) + (a2 % 4 + a2 / 4)) + (a1 % 4 + a1 / 4)) + (a0 % 4 + a0 / 4) := by
  have e : m / 4 = 16 * (16 * (16 * (16 * (16 * (4 * 0 + a5 / 4) + (4 * (a5 % 4) + a4 / 4)) + (4 * (a4 % 4) + a3 / 4)) + (4 * (a3 % 4) + a2 / 4)) + (4 * (a2 % 4) + a1 / 4)) + (4 * (a1 % 4) + a0 / 4) := by omega
  have e2 : (858993459 : Nat) = 16 * (16 * (16 * (16 * (16 * (16 * 51 + 3) + 3) + 3) + 3) + 3) + 3 := by decide
  rw [e, hm, e2, h6 _ _ _ _ _ _ _ _ _ _ _ _ (by omega) (by decide), h6 _ _ _ _ _ _ _ _ _ _ _ _ (by omega) (by decide)]
  have t0 := nb_u a0 h.1 (a1 % 4) (by omega)
  have t1 := nb_u a1 h.2.1 (a2 % 4) (by omega)
  have t2 := nb_u a2 h.2.2.1 (a3 % 4) (by omega)
  have t3 := nb_u a3 h.2.2.2.1 (a4 % 4) (by omega)
  have t4 := nb_u a4 h.2.2.2.2.1 (a5 % 4) (by omega)
  have t5 := nb_u a5 h.2.2.2.2.2 0 (by omega)
  rw [t0.1, t1.1, t2.1, t3.1, t4.1, t5.1, t0.2, t1.2, t2.2, t3.2, t4.2, t5.2]
  omega
/-- so many bits of 24 -/
def popN (m : Nat) : Nat := m % 2 + m / 2 % 2 + m / 4 % 2 + m / 8 % 2 + m / 16 % 2 + m / 32 % 2 + m / 64 % 2 + m / 128 % 2 + m / 256 % 2 + m / 512 % 2 + m / 1024 % 2 + m / 2048 % 2 + m / 4096 % 2 + m / 8192 % 2 + m / 16384 % 2 + m / 32768 % 2 + m / 65536 % 2 + m / 131072 % 2 + m / 262144 % 2 + m / 524288 % 2 + m / 1048576 % 2 + m / 2097152 % 2 + m / 4194304 % 2 + m / 8388608 % 2
theorem nib (q : Nat) : q % 16 % 2 + q % 16 / 2 % 2 + q % 16 / 4 % 2 + q % 16 / 8 % 2 = q % 2 + q / 2 % 2 + q / 4 % 2 + q / 8 % 2 := by
  have h1 : q % 16 % 2 = q % 2 := by omega
  have h2 : q % 16 / 2 % 2 = q / 2 % 2 := by omega
  have h3 : q % 16 / 4 % 2 = q / 4 % 2 := by omega
  have h4 : q % 16 / 8 % 2 = q / 8 % 2 := by omega
  rw [h1, h2, h3, h4]
theorem popE {b0 b1 b2 b3 b4 b5 : Nat} (l0 : b0 ≤ 4) (l1 : b1 ≤ 4) (l2 : b2 ≤ 4) (l3 : b3 ≤ 4) (l4 : b4 ≤ 4) (l5 : b5 ≤ 4) : (65536 * (b4 + b5) + 256 * (b2 + b3) + (b0 + b1) + (65536 * (b4 + b5) + 256 * (b2 + b3) + (b0 + b1)) / 256 + (65536 * (b4 + b5) + 256 * (b2 + b3) + (b0 + b1) + (65536 * (b4 + b5) + 256 * (b2 + b3) + (b0 + b1)) / 256) / 65536) % 64 = b0 + b1 + b2 + b3 + b4 + b5 := by
  have e1 : (65536 * (b4 + b5) + 256 * (b2 + b3) + (b0 + b1)) / 256 = 256 * (b4 + b5) + (b2 + b3) := by omega
  rw [e1]
  have e2 : (65536 * (b4 + b5) + 256 * (b2 + b3) + (b0 + b1) + (256 * (b4 + b5) + (b2 + b3))) / 65536 = b4 + b5 := by omega
  rw [e2]
  omega
theorem bnd4 {b0 b1 b2 b3 b4 b5 : Nat} (l0 : b0 ≤ 4) (l1 : b1 ≤ 4) (l2 : b2 ≤ 4) (l3 : b3 ≤ 4) (l4 : b4 ≤ 4) (l5 : b5 ≤ 4) : 65536 * (b4 + b5) + 256 * (b2 + b3) + (b0 + b1) < 1000000 := by omega
theorem popB0 {m : Nat} (h : m < 16777216) : m = 16 * (16 * (16 * (16 * (16 * (m / 1048576 % 16) + m / 65536 % 16) + m / 4096 % 16) + m / 256 % 16) + m / 16 % 16) + m % 16 := by omega
theorem lt16 (q : Nat) : q % 16 < 16 := Nat.mod_lt _ (by decide)
theorem pop4 (q : Nat) : q % 2 + q / 2 % 2 + q / 4 % 2 + q / 8 % 2 ≤ 4 := by
  have h1 : q % 2 < 2 := Nat.mod_lt _ (by decide)
  have h2 : q / 2 % 2 < 2 := Nat.mod_lt _ (by decide)
  have h3 : q / 4 % 2 < 2 := Nat.mod_lt _ (by decide)
  have h4 : q / 8 % 2 < 2 := Nat.mod_lt _ (by decide)
  omega
def p4 (q : Nat) : Nat := q % 2 + q / 2 % 2 + q / 4 % 2 + q / 8 % 2
theorem popB {m : Nat} (h : m < 16777216) : ((m - ((m / 2) &&& 1431655765)) &&& 858993459) + (((m - ((m / 2) &&& 1431655765)) / 4) &&& 858993459) = 16 * (16 * (16 * (16 * (16 * p4 (m / 1048576) + p4 (m / 65536)) + p4 (m / 4096)) + p4 (m / 256)) + p4 (m / 16)) + p4 m := by
  have hb := popB0 h
  have t0 := (nb_t (m % 16) (lt16 _) 0 (by decide)).2.2
  have t1 := (nb_t (m / 16 % 16) (lt16 _) 0 (by decide)).2.2
  have t2 := (nb_t (m / 256 % 16) (lt16 _) 0 (by decide)).2.2
  have t3 := (nb_t (m / 4096 % 16) (lt16 _) 0 (by decide)).2.2
  have t4 := (nb_t (m / 65536 % 16) (lt16 _) 0 (by decide)).2.2
  have t5 := (nb_t (m / 1048576 % 16) (lt16 _) 0 (by decide)).2.2
  have hT := popT ⟨lt16 m, lt16 (m / 16), lt16 (m / 256), lt16 (m / 4096), lt16 (m / 65536), lt16 (m / 1048576)⟩ hb
  have hU := popU ⟨t0, t1, t2, t3, t4, t5⟩ hT
  rw [hU, nb_p _ (lt16 _), nb_p _ (lt16 _), nb_p _ (lt16 _), nb_p _ (lt16 _), nb_p _ (lt16 _), nb_p _ (lt16 _), nib, nib, nib, nib, nib, nib]
  rfl
theorem popC {b0 b1 b2 b3 b4 b5 B : Nat} (l0 : b0 ≤ 4) (l1 : b1 ≤ 4) (l2 : b2 ≤ 4) (l3 : b3 ≤ 4) (l4 : b4 ≤ 4) (l5 : b5 ≤ 4) (hU : B = 16 * (16 * (16 * (16 * (16 * b5 + b4) + b3) + b2) + b1) + b0) : B < 2147483648 ∧ B + B / 16 < 2147483648 ∧ (B + B / 16) &&& 252645135 = 65536 * (b4 + b5) + 256 * (b2 + b3) + (b0 + b1) := by
  have e : B + B / 16 = 16 * (16 * (16 * (16 * (16 * b5 + (b4 + b5)) + (b3 + b4)) + (b2 + b3)) + (b1 + b2)) + (b0 + b1) := by omega
  have e2 : (252645135 : Nat) = 16 * (16 * (16 * (16 * (16 * (16 * 15 + 0) + 15) + 0) + 15) + 0) + 15 := by decide
  refine ⟨by omega, by omega, ?_⟩
  rw [e, e2, h6 _ _ _ _ _ _ _ _ _ _ _ _ (by omega) (by decide)]
  rw [(nb_f b5 (by omega)).2, (nb_f (b4 + b5) (by omega)).1, (nb_f (b3 + b4) (by omega)).2, (nb_f (b2 + b3) (by omega)).1, (nb_f (b1 + b2) (by omega)).2, (nb_f (b0 + b1) (by omega)).1]
  omega
theorem s11 (z : Nat) (hz : z < 2147483648) : an32 (z : Int) 63 = ((z % 64 : Nat) : Int) := by
  rw [show (63 : Int) = ((63 : Nat) : Int) from rfl, an32_n hz]
  exact congrArg (fun q : Nat => (q : Int)) (Nat.and_two_pow_sub_one_eq_mod z 6)
theorem bc_n0 {m A B C : Nat} (h : m < 16777216) (hA : m - ((m / 2) &&& 1431655765) = A) (hB : (A &&& 858993459) + ((A / 4) &&& 858993459) = B) (hBl : B < 2147483648 ∧ B + B / 16 < 2147483648) (hC : (B + B / 16) &&& 252645135 = C) (hCl : C < 1000000) (w : Wd) : p_J6_bitCount_0f7a4 (m : Int) w = some ((((C + C / 256 + (C + C / 256) / 65536) % 64 : Nat) : Int), w) := by
  have hle : (m / 2) &&& 1431655765 ≤ m := Nat.le_trans Nat.and_le_left (Nat.div_le_self _ _)
  have hAl : A < 2147483648 := by omega
  have hA4 : A / 4 < 2147483648 := by omega
  have hm2 : m / 2 < 2147483648 := by omega
  have hml : m < 2147483648 := by omega
  unfold p_J6_bitCount_0f7a4
  rw [Option.bind_some, Option.bind_some]
  have s1 : us32 (m : Int) 1 = ((m / 2 : Nat) : Int) := us32_n (s := 1) hml (by decide)
  have s2 : an32 ((m / 2 : Nat) : Int) 1431655765 = (((m / 2) &&& 1431655765 : Nat) : Int) := an32_n (b := 1431655765) hm2
  have s3 : (m : Int) - (((m / 2) &&& 1431655765 : Nat) : Int) = (A : Nat) := by rw [← hA, Int.natCast_sub hle]
  rw [s1, s2, s3]
  have s4 : an32 (A : Int) 858993459 = ((A &&& 858993459 : Nat) : Int) := an32_n (b := 858993459) hAl
  have s5 : us32 (A : Int) 2 = ((A / 4 : Nat) : Int) := us32_n (s := 2) hAl (by decide)
  have s6 : an32 ((A / 4 : Nat) : Int) 858993459 = (((A / 4) &&& 858993459 : Nat) : Int) := an32_n (b := 858993459) hA4
  rw [s4, s5, s6, ← Int.natCast_add, hB]
  have s7 : us32 (B : Int) 4 = ((B / 16 : Nat) : Int) := us32_n (s := 4) hBl.1 (by decide)
  have s8 : an32 ((B + B / 16 : Nat) : Int) 252645135 = (((B + B / 16) &&& 252645135 : Nat) : Int) := an32_n (b := 252645135) hBl.2
  rw [s7, ← Int.natCast_add, s8, hC]
  have s9 : us32 (C : Int) 8 = ((C / 256 : Nat) : Int) := us32_n (s := 8) (by omega) (by decide)
  rw [s9, ← Int.natCast_add]
  have s10 : us32 ((C + C / 256 : Nat) : Int) 16 = (((C + C / 256) / 65536 : Nat) : Int) := us32_n (s := 16) (by omega) (by decide)
  rw [s10, ← Int.natCast_add, s11 _ (by omega)]
theorem bc_n {m : Nat} (h : m < 16777216) (w : Wd) : p_J6_bitCount_0f7a4 (m : Int) w = some (((popN m : Nat) : Int), w) := by
  have hc := popC (pop4 m) (pop4 (m / 16)) (pop4 (m / 256)) (pop4 (m / 4096)) (pop4 (m / 65536)) (pop4 (m / 1048576)) (popB h)
  have h0 := pop4 m
  have h1 := pop4 (m / 16)
  have h2 := pop4 (m / 256)
  have h3 := pop4 (m / 4096)
  have h4 := pop4 (m / 65536)
  have h5 := pop4 (m / 1048576)
  rw [bc_n0 h rfl rfl ⟨hc.1, hc.2.1⟩ hc.2.2 (bnd4 h0 h1 h2 h3 h4 h5) w, popE h0 h1 h2 h3 h4 h5]
  unfold popN
  simp only [Nat.div_div_eq_div_mul, Nat.reduceMul, Nat.add_assoc]
theorem bc_congr {x y : Int} (h : Int32.ofInt x = Int32.ofInt y) (w : Wd) : p_J6_bitCount_0f7a4 x w = p_J6_bitCount_0f7a4 y w := by
  have hu : ∀ s, us32 x s = us32 y s := fun s => by unfold us32; rw [h]
  have ha : ∀ a b, an32 (x - a) b = an32 (y - a) b := fun a b => by
    unfold an32; rw [← sub32, ← sub32, h]
  have hv : ∀ a s, us32 (x - a) s = us32 (y - a) s := fun a s => by
    unfold us32; rw [← sub32, ← sub32, h]
  unfold p_J6_bitCount_0f7a4
  simp only [hu, ha, hv]
theorem sm_add (g : Int → Int) (a : Nat) : ∀ b : Nat, sm g (a + b) = sm g a + sm (fun i => g (a + i)) b := by
  intro b
  induction b with
  | zero => show sm g a = sm g a + 0; omega
  | succ b ih =>
    show sm g (a + b) + g ((a + b : Nat) : Int) = sm g a + (sm (fun i => g (a + i)) b + g ((a : Int) + (b : Int)))
    rw [ih, Int.natCast_add]; omega
def rowN (f : Rw) (r : Int) : Int := sm (fun c => fcF f c r) 24
theorem nf_rows (f : Rw) : ∀ n : Nat, sm (fun k => f (11 + k)) (24 * n) = sm (rowN f) n := by
  intro n
  induction n with
  | zero => rfl
  | succ n ih =>
    rw [show 24 * (n + 1) = 24 * n + 24 by omega, sm_add, ih]
    show _ + _ = sm (rowN f) n + rowN f n
    refine congrArg (sm (rowN f) n + ·) (sm_congr 24 fun i i0 i1 => ?_)
    show f (11 + (((24 * n : Nat) : Int) + i)) = f (11 + 24 * (n : Int) + i)
    exact congrArg f (by omega)
theorem popRow {f : Rw} (hV : VB f) {x r : Int} (hr : 0 ≤ r ∧ r < 12) (hb : ∀ i : Nat, i < 32 → bI x i = (decide (i < 24) && decide (fcF f i r = 1))) (w : Wd) : p_J6_bitCount_0f7a4 x w = some (rowN f r, w) := by
  obtain ⟨m, hm, hx⟩ : ∃ m : Nat, m < 2 ^ 32 ∧ Int32.ofInt x = nI m := ⟨(Int32.ofInt x).toBitVec.toNat, (Int32.ofInt x).toBitVec.isLt, Int32.toBitVec_inj.mp (BitVec.eq_of_toNat_eq (by show _ = (BitVec.ofNat 32 _).toNat; rw [BitVec.toNat_ofNat, Nat.mod_eq_of_lt (BitVec.isLt _)]))⟩
  have hbit : ∀ i, i < 32 → m.testBit i = (decide (i < 24) && decide (fcF f i r = 1)) := fun i hi => by
    rw [← bt_nI m hi, ← hx]; exact hb i hi
  have hlt : m < 16777216 := by
    apply Nat.lt_of_not_le
    intro hge
    obtain ⟨i, i0, i1⟩ := Nat.exists_ge_and_testBit_of_ge_two_pow (n := 24) (x := m) hge
    by_cases c : i < 32
    · rw [hbit i c, decide_eq_false (by omega), Bool.false_and] at i1; exact absurd i1 (by decide)
    · rw [Nat.testBit_lt_two_pow (Nat.lt_of_lt_of_le hm (Nat.pow_le_pow_right (n := 2) (by decide) (by omega)))] at i1; exact absurd i1 (by decide)
  rw [bc_congr (hx.trans (nI_i m).symm) w, bc_n hlt w]
  refine congrArg (fun q => some (q, w)) ?_
  have hc : ∀ i : Nat, i < 24 → ((m / 2 ^ i % 2 : Nat) : Int) = fcF f i r := fun i hi => by
    have h1 := hbit i (by omega)
    rw [decide_eq_true hi, Bool.true_and, Nat.testBit_eq_decide_div_mod_eq] at h1
    have h2 := decide_eq_decide.mp h1
    rcases hV.fc (c := i) (r := r) (by omega) (by omega) hr.1 hr.2 with h3 | h3
    · have : ¬ m / 2 ^ i % 2 = 1 := fun e => by have := h2.mp e; omega
      omega
    · have := h2.mpr h3
      omega
  have e : rowN f r = ((((((((((((((((((((((((0 + fcF f (0 : Nat) r) + fcF f (1 : Nat) r) + fcF f (2 : Nat) r) + fcF f (3 : Nat) r) + fcF f (4 : Nat) r) + fcF f (5 : Nat) r) + fcF f (6 : Nat) r) + fcF f (7 : Nat) r) + fcF f (8 : Nat) r) + fcF f (9 : Nat) r) + fcF f (10 : Nat) r) + fcF f (11 : Nat) r) + fcF f (12 : Nat) r) + fcF f (13 : Nat) r) + fcF f (14 : Nat) r) + fcF f (15 : Nat) r) + fcF f (16 : Nat) r) + fcF f (17 : Nat) r) + fcF f (18 : Nat) r) + fcF f (19 : Nat) r) + fcF f (20 : Nat) r) + fcF f (21 : Nat) r) + fcF f (22 : Nat) r) + fcF f (23 : Nat) r) := rfl
  rw [e, ← hc 0 (by decide), ← hc 1 (by decide), ← hc 2 (by decide), ← hc 3 (by decide), ← hc 4 (by decide), ← hc 5 (by decide), ← hc 6 (by decide), ← hc 7 (by decide), ← hc 8 (by decide), ← hc 9 (by decide), ← hc 10 (by decide), ← hc 11 (by decide), ← hc 12 (by decide), ← hc 13 (by decide), ← hc 14 (by decide), ← hc 15 (by decide), ← hc 16 (by decide), ← hc 17 (by decide), ← hc 18 (by decide), ← hc 19 (by decide), ← hc 20 (by decide), ← hc 21 (by decide), ← hc 22 (by decide), ← hc 23 (by decide)]
  unfold popN
  simp only [Nat.reducePow, Nat.div_one, Int.natCast_add, Int.zero_add]
theorem flawC_o {f : Rw} {w : Wd} {o : Nat} (ho : SLo o) (hV : VB f) (hS : RS w o f) : p_X6_flawCount o w = some (nfF f, w) := by
  have hr := hV.r
  have e1 : gF w o 1 = f 1 := hS.1.2.1
  have hl := sum_loop (lp := fun n x s => p_X6_flawCount_4 o n s x w) (g := rowN f) (b := f 1) (w := w)
    (fun n x s x0 x1 => by
      show p_X6_flawCount_4 o (n + 1) s x w = p_X6_flawCount_4 o n _ (x + 1) w
      simp (disch := omega) only [p_X6_flawCount_4, e1, lt32_o, x1, if_true]
      rw [at_in ⟨x0, by rw [show ln (o + 1 + 1) = 12 from ho.l2]; omega⟩, Option.bind_some]
      dsimp only
      rw [popRow hV ⟨x0, by omega⟩ (hS.2.2.1 x x0 (by omega)), Option.bind_some])
    (fun n x s x0 => by
      show p_X6_flawCount_4 o (n + 1) s x w = _
      simp (disch := omega) only [p_X6_flawCount_4, e1, lt32_o]
      rw [if_neg (by omega)])
    FU 0 0 (by decide) (by omega) (by have : FU = 1000000 := rfl; omega)
  unfold p_X6_flawCount
  refine hl.trans (congrArg (fun q => some (q, w)) ?_)
  have h0 : ∀ n : Nat, (f 1).toNat ≤ n → n ≤ 12 → sm (rowN f) n = sm (rowN f) (f 1).toNat := by
    intro n
    induction n with
    | zero => intro a _; rw [show (f 1).toNat = 0 by omega]
    | succ n ih =>
      intro a b
      by_cases c : (f 1).toNat = n + 1
      · rw [c]
      · have hz : rowN f n = 0 := by
          have : ∀ q : Nat, q ≤ 24 → sm (fun c => fcF f c n) q = 0 := by
            intro q
            induction q with
            | zero => intro _; rfl
            | succ q ihq =>
              intro hq
              show sm _ q + fcF f q n = 0
              rw [ihq (by omega)]
              rcases hV.fc (c := q) (r := n) (by omega) (by omega) (by omega) (by omega) with h3 | h3
              · omega
              · have h4 := hS.2.2.2.2.2.2 q n (by omega) (by omega) (by omega) (by omega) h3
                unfold isCF at h4
                have := of_decide_eq_true h4
                omega
          exact this 24 (by omega)
        show sm (rowN f) n + rowN f n = _
        rw [hz, ih (by omega) (by omega)]; omega
  show 0 + (_ - 0) = nfF f
  unfold nfF
  rw [show 288 = 24 * 12 from rfl, nf_rows, h0 12 (by omega) (by omega)]
  omega
