/-! ===== a part put in, the model ===== -/
def inF (T : Rw) (t b0 K m : Int) (B : Int → Int) : Rw := fun j =>
  if j = 10 then T 10 + m else if j = 9 then T 9 + 1 else if j = 299 + 2 * t + 1 then m else if j = 299 + 2 * t then K
  else if 299 + 2 * t + 2 ≤ j ∧ j < 299 + 2 * T 9 + 2 then T (j - 2)
  else if 319 + 13 * b0 ≤ j ∧ j < 319 + 13 * b0 + 13 * m then B (j - (319 + 13 * b0))
  else if 319 + 13 * b0 + 13 * m ≤ j ∧ j < 319 + 13 * (T 10 + m) then T (j - 13 * m) else T j
section IN
variable {T : Rw} {t b0 K m : Int} {B : Int → Int}
theorem inF_rest (h9 : 0 ≤ T 9 ∧ T 9 ≤ 9) (ht : 0 ≤ t ∧ t ≤ T 9) (hb : 0 ≤ b0 ∧ b0 ≤ T 10 ∧ 0 ≤ m) (h10 : T 10 + m ≤ 60) {i : Int} (h : i ≤ 8 ∨ (11 ≤ i ∧ i < 299) ∨ 1099 ≤ i) : inF T t b0 K m B i = T i := by
  unfold inF
  rw [if_neg (by omega), if_neg (by omega), if_neg (by omega), if_neg (by omega), if_neg (by omega), if_neg (by omega), if_neg (by omega)]
theorem in_ps (h9 : 0 ≤ T 9 ∧ T 9 ≤ 9) (ht : 0 ≤ t ∧ t ≤ T 9) (hb : 0 ≤ b0 ∧ 0 ≤ m) {q : Int} (hq : 0 ≤ q ∧ q ≤ T 9) : psF (inF T t b0 K m B) q = if q < t then psF T q else if q = t then m else psF T (q - 1) := by
  unfold psF inF
  rw [if_neg (by omega), if_neg (by omega)]
  by_cases c : q < t
  · rw [if_neg (by omega), if_neg (by omega), if_neg (by omega), if_neg (by omega), if_neg (by omega), if_pos c]
  · rw [if_neg c]
    by_cases d : q = t
    · rw [if_pos (by omega), if_pos d]
    · rw [if_neg (by omega), if_neg (by omega), if_pos (by omega), if_neg d]; exact congrArg T (by omega)
theorem in_pk (h9 : 0 ≤ T 9 ∧ T 9 ≤ 9) (ht : 0 ≤ t ∧ t ≤ T 9) (hb : 0 ≤ b0 ∧ 0 ≤ m) {q : Int} (hq : 0 ≤ q ∧ q ≤ T 9) : pkF (inF T t b0 K m B) q = if q < t then pkF T q else if q = t then K else pkF T (q - 1) := by
  unfold pkF inF
  rw [if_neg (by omega), if_neg (by omega)]
  by_cases c : q < t
  · rw [if_neg (by omega), if_neg (by omega), if_neg (by omega), if_neg (by omega), if_neg (by omega), if_pos c]
  · rw [if_neg c]
    by_cases d : q = t
    · rw [if_neg (by omega), if_pos (by omega), if_pos d]
    · rw [if_neg (by omega), if_neg (by omega), if_pos (by omega), if_neg d]; exact congrArg T (by omega)
theorem in_fir (h9 : 0 ≤ T 9 ∧ T 9 ≤ 9) (ht : 0 ≤ t ∧ t ≤ T 9) (hb : 0 ≤ b0 ∧ 0 ≤ m) : ∀ n : Nat, (n : Int) ≤ T 9 + 1 → firF (inF T t b0 K m B) n = if (n : Int) ≤ t then firF T n else firF T ((n : Int) - 1) + m := by
  intro n
  induction n with
  | zero => intro _; rw [if_pos (show ((0 : Nat) : Int) ≤ t from ht.1)]; rfl
  | succ n ih =>
    intro hn
    have e : ((n + 1 : Nat) : Int) = (n : Int) + 1 := by omega
    rw [e, firF_step (by omega), ih (by omega), in_ps h9 ht hb (by omega)]
    by_cases c : (n : Int) < t
    · rw [if_pos (show (n : Int) ≤ t by omega), if_pos c, if_pos (show (n : Int) + 1 ≤ t by omega), firF_step (by omega)]
    · rw [if_neg c, if_neg (show ¬ (n : Int) + 1 ≤ t by omega), show (n : Int) + 1 - 1 = n by omega]
      by_cases d : (n : Int) = t
      · rw [if_pos (show (n : Int) ≤ t by omega), if_pos d]
      · rw [if_neg (show ¬ (n : Int) ≤ t by omega), if_neg d]
        have := firF_step (f := T) (p := (n : Int) - 1) (by omega)
        rw [show (n : Int) - 1 + 1 = n by omega] at this
        omega
theorem in_fir' (h9 : 0 ≤ T 9 ∧ T 9 ≤ 9) (ht : 0 ≤ t ∧ t ≤ T 9) (hb : 0 ≤ b0 ∧ 0 ≤ m) {q : Int} (hq : 0 ≤ q ∧ q ≤ T 9 + 1) : firF (inF T t b0 K m B) q = if q ≤ t then firF T q else firF T (q - 1) + m := by
  have := in_fir (K := K) (m := m) (B := B) h9 ht hb q.toNat (by omega)
  rw [Int.toNat_of_nonneg hq.1] at this
  exact this
theorem in_word (h9 : 0 ≤ T 9 ∧ T 9 ≤ 9) (ht : 0 ≤ t ∧ t ≤ T 9) (hb : 0 ≤ b0 ∧ 0 ≤ m) {v d : Int} (hv : 0 ≤ v ∧ v < T 10 + m) (hd : 0 ≤ d ∧ d < 13) : inF T t b0 K m B (319 + 13 * v + d) = if v < b0 then T (319 + 13 * v + d) else if v < b0 + m then B (13 * (v - b0) + d) else T (319 + 13 * (v - m) + d) := by
  unfold inF
  rw [if_neg (by omega), if_neg (by omega), if_neg (by omega), if_neg (by omega), if_neg (by omega)]
  by_cases c : v < b0
  · rw [if_neg (by omega), if_neg (by omega), if_pos c]
  · rw [if_neg c]
    by_cases e : v < b0 + m
    · rw [if_pos (by omega), if_pos e]; exact congrArg B (by omega)
    · rw [if_neg (by omega), if_pos (by omega), if_neg e]; exact congrArg T (by omega)
end IN
def mvF (f : Rw) (p t : Int) : Rw := inF (tpF f p) t (firF (tpF f p) t) (pkF f p) (psF f p) (fun i => f (319 + 13 * firF f p + i))
theorem tpF_9 {f : Rw} {p : Int} (hV : VB f) (hp : 0 ≤ p ∧ p < f 9) : tpF f p 9 = f 9 - 1 ∧ tpF f p 10 = f 10 - psF f p := by
  have h9 := hV.p
  have h10 := hV.w
  have hps := hV.ps hp.1 hp.2
  have hfn := firF_next hV hp.1 hp.2
  constructor
  · unfold tpF; rw [if_neg (by omega), if_neg (by omega)]; rfl
  · unfold tpF; rw [if_neg (by omega), if_neg (by omega)]; rfl
theorem mvF_sel {f : Rw} {p t : Int} (hV : VB f) (hp : 0 ≤ p ∧ p < f 9) (ht : 0 ≤ t ∧ t < f 9) : SEL f (mvF f p t) (mvS p t) ∧ mvF f p t 9 = f 9 := by
  have h9 := hV.p
  have h10 := hV.w
  have hps := hV.ps hp.1 hp.2
  have hT := tpF_sel hV hp
  have hTV := hT.VB hV
  obtain ⟨t9, t10⟩ := tpF_9 hV hp
  have hfT := firF_rng hTV (p := t) (by omega)
  have hend := hT.2.2.2.1
  obtain ⟨b0, hb0⟩ : ∃ b0, firF (tpF f p) t = b0 := ⟨_, rfl⟩
  unfold mvF
  rw [hb0] at hfT ⊢
  generalize hm : psF f p = m at *
  have e9 : inF (tpF f p) t b0 (pkF f p) m (fun i => f (319 + 13 * firF f p + i)) 9 = f 9 := by
    unfold inF; rw [if_neg (by decide), if_pos rfl, t9]; omega
  have e10 : inF (tpF f p) t b0 (pkF f p) m (fun i => f (319 + 13 * firF f p + i)) 10 = f 10 := by
    unfold inF; rw [if_pos rfl, t10]; omega
  have hb' : 0 ≤ b0 ∧ 0 ≤ m := ⟨hfT.1, by omega⟩
  have q9 : 0 ≤ tpF f p 9 ∧ tpF f p 9 ≤ 9 := by omega
  have qt : 0 ≤ t ∧ t ≤ tpF f p 9 := by omega
  refine ⟨⟨fun i hi => ?_, by rw [e9]; exact h9, by rw [e10]; exact h10, ?_, fun q q0 q1 => ?_⟩, e9⟩
  · rw [inF_rest q9 qt ⟨hfT.1, hfT.2, by omega⟩ (by omega) (by omega)]; exact hT.1 i hi
  · rw [e9, e10, in_fir' q9 qt hb' (by omega), if_neg (by omega), show f 9 - 1 = tpF f p 9 by omega, hend]; omega
  · rw [e9] at q1
    rw [in_pk q9 qt hb' ⟨q0, by omega⟩, in_ps q9 qt hb' ⟨q0, by omega⟩, in_fir' q9 qt hb' ⟨q0, by omega⟩]
    by_cases c : q = t
    · have hs : mvS p t q = p := if_pos c
      rw [hs, if_neg (show ¬ q < t by omega), if_pos c, if_neg (show ¬ q < t by omega), if_pos c, if_pos (show q ≤ t by omega), c, hb0]
      refine ⟨hp, rfl, hm.symm, fun u u0 u1 => ?_⟩
      rw [hm] at u1
      refine ⟨?_, fun kk k0 k1 => ?_⟩
      · have := in_word (K := pkF f p) (m := m) (B := fun i => f (319 + 13 * firF f p + i)) q9 qt hb' (v := b0 + u) (d := 0) ⟨by omega, by omega⟩ (by decide)
        rw [if_neg (by omega), if_pos (by omega), Int.add_zero] at this
        unfold wnF
        exact this.trans (congrArg f (by omega))
      · have := in_word (K := pkF f p) (m := m) (B := fun i => f (319 + 13 * firF f p + i)) q9 qt hb' (v := b0 + u) (d := 1 + kk) ⟨by omega, by omega⟩ (by omega)
        rw [if_neg (by omega), if_pos (by omega)] at this
        unfold wbF
        exact (congrArg _ (by omega)).trans (this.trans (congrArg f (by omega)))
    · by_cases d : q < t
      · obtain ⟨a1, a2, a3, a4⟩ := hT.2.2.2.2 q q0 (by omega)
        have hmo := firF_mono hTV (show q + 1 ≤ t by omega) (by omega)
        rw [firF_step q0, hb0, a3] at hmo
        have hq0 := (firF_rng hTV (p := q) (by omega)).1
        rw [show mvS p t q = shS p q from (if_neg c).trans (if_pos d), if_pos d, if_pos d, if_pos (show q ≤ t by omega)]
        refine ⟨a1, a2, a3, fun u u0 u1 => ?_⟩
        obtain ⟨z1, z2⟩ := a4 u u0 u1
        refine ⟨z1 ▸ ?_, fun kk k0 k1 => (z2 kk k0 k1) ▸ ?_⟩
        · have := in_word (K := pkF f p) (m := m) (B := fun i => f (319 + 13 * firF f p + i)) q9 qt hb' (v := firF (tpF f p) q + u) (d := 0) ⟨by omega, by omega⟩ (by decide)
          rw [if_pos (by omega), Int.add_zero] at this
          exact this
        · have := in_word (K := pkF f p) (m := m) (B := fun i => f (319 + 13 * firF f p + i)) q9 qt hb' (v := firF (tpF f p) q + u) (d := 1 + kk) ⟨by omega, by omega⟩ (by omega)
          rw [if_pos (by omega)] at this
          unfold wbF
          exact (congrArg _ (by omega)).trans (this.trans (congrArg _ (by omega)))
      · obtain ⟨a1, a2, a3, a4⟩ := hT.2.2.2.2 (q - 1) (by omega) (by omega)
        have hmo := firF_mono hTV (show t ≤ q - 1 by omega) (by omega)
        rw [hb0] at hmo
        have hnx := firF_next hTV (p := q - 1) (by omega) (by omega)
        rw [a3] at hnx
        rw [show mvS p t q = shS p (q - 1) from (if_neg c).trans (if_neg d), if_neg d, if_neg c, if_neg d, if_neg c, if_neg (show ¬ q ≤ t by omega)]
        refine ⟨a1, a2, a3, fun u u0 u1 => ?_⟩
        obtain ⟨z1, z2⟩ := a4 u u0 u1
        refine ⟨z1 ▸ ?_, fun kk k0 k1 => (z2 kk k0 k1) ▸ ?_⟩
        · have := in_word (K := pkF f p) (m := m) (B := fun i => f (319 + 13 * firF f p + i)) q9 qt hb' (v := firF (tpF f p) (q - 1) + m + u) (d := 0) ⟨by omega, by omega⟩ (by decide)
          rw [if_neg (by omega), if_neg (by omega), Int.add_zero] at this
          unfold wnF
          exact this.trans (congrArg _ (by omega))
        · have := in_word (K := pkF f p) (m := m) (B := fun i => f (319 + 13 * firF f p + i)) q9 qt hb' (v := firF (tpF f p) (q - 1) + m + u) (d := 1 + kk) ⟨by omega, by omega⟩ (by omega)
          rw [if_neg (by omega), if_neg (by omega)] at this
          unfold wbF
          exact (congrArg _ (by omega)).trans (this.trans (congrArg _ (by omega)))
theorem mvF_Z {f : Rw} {p t : Int} (hV : VB f) (hp : 0 ≤ p ∧ p < f 9) (ht : 0 ≤ t ∧ t < f 9) (hZ : Z0 f) : Z0 (mvF f p t) := fun i hi => by
  have h9 := hV.p
  have h10 := hV.w
  have hps := hV.ps hp.1 hp.2
  obtain ⟨t9, t10⟩ := tpF_9 hV hp
  have hTV := (tpF_sel hV hp).VB hV
  have hfT := firF_rng hTV (p := t) (by omega)
  unfold mvF
  rw [inF_rest (by omega) (by omega) ⟨hfT.1, hfT.2, by omega⟩ (by omega) (by omega)]
  exact tpF_Z hV hp hZ i hi
