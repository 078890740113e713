/-! ===== bits of numbers (the first rows: the family BITS, pasted) ===== -/
def bt (x : Int32) (i : Nat) : Bool := x.toBitVec.getLsbD i
theorem b_ext {x y : Int32} (h : ∀ i, i < 32 → bt x i = bt y i) : x = y := Int32.toBitVec_inj.mp (BitVec.eq_of_getLsbD_eq (fun i hi => h i hi))
theorem b_or (x y : Int32) (i : Nat) : bt (x ||| y) i = (bt x i || bt y i) := by unfold bt; rw [Int32.toBitVec_or, BitVec.getLsbD_or]
theorem b_and (x y : Int32) (i : Nat) : bt (x &&& y) i = (bt x i && bt y i) := by unfold bt; rw [Int32.toBitVec_and, BitVec.getLsbD_and]
theorem b_xor (x y : Int32) (i : Nat) : bt (x ^^^ y) i = (bt x i ^^ bt y i) := by unfold bt; rw [Int32.toBitVec_xor, BitVec.getLsbD_xor]
theorem b_big {x : Int32} {i : Nat} (h : 32 ≤ i) : bt x i = false := BitVec.getLsbD_of_ge _ _ h
theorem b_m1 : ∀ i, i < 32 → bt (-1) i = true := by decide +kernel
theorem b_0 (i : Nat) : bt 0 i = false := BitVec.getLsbD_zero
theorem s_l : ∀ n, n < 32 → ((nI n &&& 31).toBitVec.smod 32).toNat = n := by decide +kernel
theorem s_u : ∀ n, n < 32 → (((nI n).toUInt32 &&& Int32.toUInt32 31).toBitVec % 32).toNat = n := by decide +kernel
theorem b_shl (n : Nat) (hn : n < 32) (x : Int32) {i : Nat} (hi : i < 32) : bt (x <<< (nI n &&& 31)) i = (decide (n ≤ i) && bt x (i - n)) := by
  unfold bt
  rw [Int32.toBitVec_shiftLeft]
  show (x.toBitVec <<< ((nI n &&& 31).toBitVec.smod 32).toNat).getLsbD i = _
  rw [s_l n hn, BitVec.getLsbD_shiftLeft]
  rcases Nat.lt_or_ge i n with h | h
  · simp [h, Nat.not_le.mpr h]
  · simp [hi, h, Nat.not_lt.mpr h]
theorem b_ushr (n : Nat) (hn : n < 32) (x : Int32) (i : Nat) : bt ((x.toUInt32 >>> ((nI n).toUInt32 &&& Int32.toUInt32 31)).toInt32) i = bt x (n + i) := by
  show (x.toUInt32 >>> ((nI n).toUInt32 &&& Int32.toUInt32 31)).toBitVec.getLsbD i = x.toUInt32.toBitVec.getLsbD (n + i)
  rw [UInt32.toBitVec_shiftRight]
  show (x.toUInt32.toBitVec >>> (((nI n).toUInt32 &&& Int32.toUInt32 31).toBitVec % 32).toNat).getLsbD i = _
  rw [s_u n hn, BitVec.getLsbD_ushiftRight]
theorem b_sshr (n : Nat) (hn : n < 32) (x : Int32) {i : Nat} (hi : i < 32) : bt (x >>> (nI n &&& 31)) i = if n + i < 32 then bt x (n + i) else bt x 31 := by
  unfold bt
  rw [Int32.toBitVec_shiftRight]
  show (x.toBitVec.sshiftRight ((nI n &&& 31).toBitVec.smod 32).toNat).getLsbD i = _
  rw [s_l n hn, BitVec.getLsbD_sshiftRight, BitVec.msb_eq_getLsbD_last]
  simp [hi]
def bI (x : Int) (i : Nat) : Bool := bt (Int32.ofInt x) i
theorem nI_i (n : Nat) : Int32.ofInt (n : Int) = nI n := by
  apply Int32.toBitVec_inj.mp
  show BitVec.ofInt 32 (n : Int) = BitVec.ofNat 32 n
  exact BitVec.ofInt_natCast 32 n
theorem bI_and (a b : Int) (i : Nat) : bI (an32 a b) i = (bI a i && bI b i) := by
  unfold bI an32; rw [ofInt_toInt]; exact b_and _ _ _
theorem bI_or (a b : Int) (i : Nat) : bI (or32 a b) i = (bI a i || bI b i) := by
  unfold bI or32; rw [ofInt_toInt]; exact b_or _ _ _
theorem bI_xor (a b : Int) (i : Nat) : bI (xo32 a b) i = (bI a i ^^ bI b i) := by
  unfold bI xo32; rw [ofInt_toInt]; exact b_xor _ _ _
theorem bI_sl (a : Int) {n : Int} (h : 0 ≤ n ∧ n < 32) {i : Nat} (hi : i < 32) : bI (sl32 a n) i = (decide (n ≤ i) && bI a (i - n.toNat)) := by
  obtain ⟨m, rfl⟩ := Int.eq_ofNat_of_zero_le h.1
  unfold bI sl32
  rw [ofInt_toInt]
  show bt (Int32.ofInt a <<< (Int32.ofInt (m : Int) &&& 31)) i = _
  rw [nI_i, b_shl m (by omega) _ hi]
  show _ = (decide ((m : Int) ≤ i) && _)
  rw [show decide ((m : Int) ≤ i) = decide (m ≤ i) from decide_eq_decide.mpr (by omega)]; rfl
theorem bI_sr (a : Int) {n : Int} (h : 0 ≤ n ∧ n < 32) {i : Nat} (hi : i < 32) : bI (sr32 a n) i = if n.toNat + i < 32 then bI a (n.toNat + i) else bI a 31 := by
  obtain ⟨m, rfl⟩ := Int.eq_ofNat_of_zero_le h.1
  unfold bI sr32
  rw [ofInt_toInt]
  show bt (Int32.ofInt a >>> (Int32.ofInt (m : Int) &&& 31)) i = _
  rw [nI_i, b_sshr m (by omega) _ hi]; rfl
theorem bI_eq {a b : Int} : (eq32 a b = true) ↔ ∀ i, i < 32 → bI a i = bI b i := by
  rw [← eq32_i]
  exact ⟨fun h i _ => by unfold bI; rw [h], fun h => b_ext h⟩
theorem bI_0 (i : Nat) : bI 0 i = false := b_0 i
theorem bI_1 : ∀ i, i < 32 → bI 1 i = decide (i = 0) := by decide +kernel
theorem bI_m1 : ∀ i, i < 32 → bI (-1) i = true := b_m1
theorem bI_pow : ∀ n : Nat, n < 31 → ∀ i, i < 32 → bI (sl32 1 n) i = decide (i = n) := by decide +kernel
theorem bI_cell0 : ∀ n : Nat, n ≤ 12 → ∀ i, i < 32 → bI (sl32 1 n - 1) i = decide (i < n) := by decide +kernel
theorem bI_cells {s l : Int} (h : 0 ≤ s ∧ s ≤ 24 ∧ 0 ≤ l ∧ l ≤ 12) {i : Nat} (hi : i < 32) : bI (sl32 (sl32 1 l - 1) s) i = decide (s ≤ i ∧ (i : Int) < s + l) := by
  rw [bI_sl _ (by omega) hi]
  obtain ⟨m, rfl⟩ := Int.eq_ofNat_of_zero_le h.2.2.1
  by_cases c : s ≤ i
  · rw [decide_eq_true c, Bool.true_and]
    have h2 := bI_cell0 m (by omega) (i - s.toNat) (by omega)
    exact h2.trans (decide_eq_decide.mpr (by omega))
  · rw [decide_eq_false c, Bool.false_and, decide_eq_false (by omega)]
theorem an1_o (y : Int) : eq32 (an32 y 1) 1 = bI y 0 := by
  have h : (eq32 (an32 y 1) 1 = true) ↔ bI y 0 = true := by
    rw [bI_eq]
    constructor
    · intro h; have h0 := h 0 (by decide); rw [bI_and, bI_1 0 (by decide)] at h0; simpa using h0
    · intro h i hi
      rw [bI_and, bI_1 i hi]
      by_cases c : i = 0
      · subst c; rw [h]; rfl
      · rw [decide_eq_false c, Bool.and_false]
  cases h1 : eq32 (an32 y 1) 1 <;> cases h2 : bI y 0 <;> simp_all
theorem an0_o (a b : Int) : (eq32 (an32 a b) 0 = true) ↔ ∀ i, i < 32 → ¬ (bI a i = true ∧ bI b i = true) := by
  rw [bI_eq]
  constructor
  · rintro h i hi ⟨h1, h2⟩
    have h3 := h i hi
    rw [bI_and, bI_0, h1, h2] at h3
    exact absurd h3 (by decide)
  · intro h i hi
    rw [bI_and, bI_0]
    have h3 := h i hi
    cases h1 : bI a i <;> cases h2 : bI b i <;> simp_all
theorem bI_sr0 (a : Int) {n : Nat} (h : n < 32) : bI (sr32 a (n : Int)) 0 = bI a n := by
  rw [bI_sr a (by omega) (by decide), if_pos (by show n + 0 < 32; omega)]; rfl
