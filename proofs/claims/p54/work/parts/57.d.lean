/-! ===== carved letters stay ===== -/
def ktF (f : Rw) : Int := if f 8 = 0 then 0 else wlF f (f 8 - 1) + 1
def sbF (f g : Rw) (v : Int) : Bool := decide (rLF f v = rLF g v) && (decide (cLF f v = cLF g v) && (decide (wnF f v = wnF g v) && allb (fun k => decide (wbF f v k = wbF g v k)) (wnF f v).toNat 0))
def stF (f g : Rw) : Bool := decide (ktF f ≤ nLF g) && allb (sbF f g) (ktF f).toNat 0
theorem kt_rng {f : Rw} (hV : VB f) (h8 : 0 ≤ f 8 ∧ f 8 ≤ laF f (nLF f)) : (0 ≤ ktF f ∧ ktF f ≤ nLF f) ∧ (∀ v, 0 ≤ v → v ≤ nLF f → (laF f v < f 8 ↔ v < ktF f)) ∧ f 8 ≤ laF f (ktF f) := by
  have hn := nL_rng hV
  unfold ktF
  by_cases c : f 8 = 0
  · rw [if_pos c]
    refine ⟨⟨Int.le_refl _, hn.1⟩, fun v v0 v1 => ?_, by rw [laF_0]; omega⟩
    have := laF_rng hV v0 (show v ≤ f 10 by omega)
    omega
  · rw [if_neg c]
    obtain ⟨⟨q1, q2⟩, q3, q4⟩ := wl_ex hV ⟨hn.1, hn.2.1⟩ (n := f 8 - 1) ⟨by omega, by omega⟩
    refine ⟨⟨by omega, by omega⟩, fun v v0 v1 => ?_, by rw [laF_step q1]; omega⟩
    constructor
    · intro h
      rcases Int.lt_or_le v (wlF f (f 8 - 1) + 1) with d | d
      · exact d
      · have := laF_mono hV d (by omega)
        rw [laF_step q1] at this
        omega
    · intro h
      have := laF_mono hV (show v ≤ wlF f (f 8 - 1) by omega) (by omega)
      omega
section ST
variable {k na : Nat} {wC wM : Wd}
/-- the class's word is the same on the trial -/
theorem sameWord_o {w : Wd} {f g : Rw} (hf : VB f) (hg : VB g) (hS : RS w 100 f) (hT : RS w 116 g) {v : Int} (hv : 0 ≤ v ∧ v < f 10) (hv2 : v < g 10) : p_X6_sameWord 100 116 v w = some (b2 (decide (wnF f v = wnF g v) && allb (fun k => decide (wbF f v k = wbF g v k)) (wnF f v).toNat 0), w) := by
  have hwf := hf.wn hv.1 hv.2
  have hwg := hg.wn hv.1 hv2
  unfold p_X6_sameWord
  rw [lenC_o SLo_0 hf hS hv, Option.bind_some]
  dsimp only
  rw [lenC_o SLo_1 hg hT ⟨hv.1, hv2⟩, Option.bind_some]
  dsimp only
  by_cases c : wnF f v = wnF g v
  · rw [if_pos (by rw [eq32_o (by omega)]; exact c), decide_eq_true c, Bool.true_and]
    have hl : ∀ (m n : Nat) (x : Int), 0 ≤ x → x + m = wnF f v → m < n → p_X6_sameWord_23 100 116 n v x w = some (b2 (allb (fun k => decide (wbF f v k = wbF g v k)) m x), w) := by
      intro m
      induction m with
      | zero =>
        intro n x x0 x1 hn
        obtain ⟨n', rfl⟩ : ∃ n', n = n' + 1 := ⟨n - 1, by omega⟩
        simp only [p_X6_sameWord_23]
        rw [lenC_o SLo_0 hf hS hv, Option.bind_some]
        dsimp only
        rw [if_neg (by rw [lt32_o (by omega)]; omega)]; rfl
      | succ m ih =>
        intro n x x0 x1 hn
        obtain ⟨n', rfl⟩ : ∃ n', n = n' + 1 := ⟨n - 1, by omega⟩
        have b1 := hf.wb hv.1 hv.2 x0 (show x < wnF f v by omega)
        have b2' := hg.wb hv.1 hv2 x0 (show x < wnF g v by omega)
        unfold isB at b1 b2'
        simp only [p_X6_sameWord_23]
        rw [lenC_o SLo_0 hf hS hv, Option.bind_some]
        dsimp only
        rw [if_pos (by rw [lt32_o (by omega)]; omega), byteC_o SLo_0 hf hS hv ⟨x0, by omega⟩, Option.bind_some]
        dsimp only
        rw [byteC_o SLo_1 hg hT ⟨hv.1, hv2⟩ ⟨x0, by omega⟩, Option.bind_some]
        dsimp only
        show _ = some (b2 (decide (wbF f v x = wbF g v x) && allb _ m (x + 1)), w)
        by_cases d : wbF f v x = wbF g v x
        · rw [if_pos (by rw [eq32_o (by omega)]; exact d), decide_eq_true d, Bool.true_and]
          exact ih n' (x + 1) (by omega) (by omega) (by omega)
        · rw [if_neg (by rw [eq32_o (by omega)]; exact d), decide_eq_false d]; rfl
    exact hl (wnF f v).toNat FU 0 (by decide) (by omega) (by have : FU = 1000000 := rfl; omega)
  · rw [if_neg (by rw [eq32_o (by omega)]; exact c), decide_eq_false c]; rfl
theorem LY_at {w : Wd} {l : Nat} {f : Rw} (hV : VB f) (hl : LAo l) (hL : LY w l f) {v : Int} (hv : 0 ≤ v ∧ v < nLF f) : p_X5_at (l + 1) v w = some (rLF f v, w) ∧ p_X5_at (l + 3) v w = some (cLF f v, w) := by
  have hn := nL_rng hV
  rw [atR_o hl (by omega), atC_o hl (by omega), (hL.1.2 v hv.1 hv.2).1, (hL.1.2 v hv.1 hv.2).2]
  exact ⟨rfl, rfl⟩
theorem staysC {w : Wd} {f g : Rw} (hf : VB f) (hg : VB g) (h8 : 0 ≤ f 8 ∧ f 8 ≤ laF f (nLF f)) (hS : RS w 100 f) (hL : LY w 10 f) (hT : RS w 116 g) : ∃ w', (∀ na : Nat, p_X8_needCarvedStay na w = some (if stF f g = true then .inl 0 else .inr 1, na, w')) ∧ frm (SLC 20) (TLC 20) w w' := by
  have hn := nL_rng hf
  have hng := nL_rng hg
  have h288 := (lF_ok hf).2.2.2
  obtain ⟨k1, k2, k3⟩ := kt_rng hf h8
  obtain ⟨w1, a1, a2, a3⟩ := layC SLo_1 (l := 20) (Or.inr rfl) hg hT
  have hS1 := hS.lay a2 SLo_0 (Or.inr rfl)
  have hT1 := hT.lay a2 SLo_1 (Or.inr rfl)
  have hL1 : LY w1 10 f := hL.fr a2 (by unfold SLC; omega) (by unfold TLC; omega) (by unfold TLC; omega)
  refine ⟨w1, fun na => ?_, a2⟩
  have hone : ∀ v, 0 ≤ v → v < nLF f → p_X8_sameOnTrial v w1 = some (b2 (decide (v < nLF g) && sbF f g v), w1) := by
    intro v v0 v1
    have hrc := rc_rng hf ⟨v0, v1⟩
    unfold p_X8_sameOnTrial
    rw [show gF w1 20 4 = nLF g from a3.1.1]
    by_cases c : v < nLF g
    · have hrg := rc_rng hg ⟨v0, c⟩
      rw [if_pos (by rw [lt32_o (by omega)]; exact c), decide_eq_true c, Bool.true_and, (LY_at hf (l := 10) (Or.inl rfl) hL1 ⟨v0, v1⟩).1, Option.bind_some]
      dsimp only
      rw [(LY_at hg (l := 20) (Or.inr rfl) a3 ⟨v0, c⟩).1, Option.bind_some]
      dsimp only
      unfold sbF
      by_cases d : rLF f v = rLF g v
      · rw [if_pos (by rw [eq32_o (by omega)]; exact d), decide_eq_true d, Bool.true_and, (LY_at hf (l := 10) (Or.inl rfl) hL1 ⟨v0, v1⟩).2, Option.bind_some]
        dsimp only
        rw [(LY_at hg (l := 20) (Or.inr rfl) a3 ⟨v0, c⟩).2, Option.bind_some]
        dsimp only
        by_cases e : cLF f v = cLF g v
        · rw [if_pos (by rw [eq32_o (by omega)]; exact e), decide_eq_true e, Bool.true_and, sameWord_o hf hg hS1 hT1 ⟨v0, by omega⟩ (by omega), Option.bind_some]
          simp only [eq32_b2]
          cases (decide (wnF f v = wnF g v) && allb (fun k => decide (wbF f v k = wbF g v k)) (wnF f v).toNat 0) <;> rfl
        · rw [if_neg (by rw [eq32_o (by omega)]; exact e), decide_eq_false e]; rfl
      · rw [if_neg (by rw [eq32_o (by omega)]; exact d), decide_eq_false d]; rfl
    · rw [if_neg (by rw [lt32_o (by omega)]; exact c), decide_eq_false c]; rfl
  have hl : ∀ (m n : Nat) (v : Int), 0 ≤ v → v + m = ktF f → m < n → p_X8_carvedStay_10 n (f 8 - laF f v) v w1 = some (b2 (allb (fun v => decide (v < nLF g) && sbF f g v) m v), w1) := by
    intro m
    induction m with
    | zero =>
      intro n v v0 v1 hnn
      obtain ⟨n', rfl⟩ : ∃ n', n = n' + 1 := ⟨n - 1, by omega⟩
      have hla := laF_rng hf v0 (show v ≤ f 10 by omega)
      have hk := k2 v v0 (by omega)
      simp (disch := omega) only [p_X8_carvedStay_10, show gF w1 10 4 = nLF f from hL1.1.1, lt32_o]
      by_cases c : v < nLF f
      · rw [if_pos c, if_neg (by omega)]; rfl
      · rw [if_neg c]; rfl
    | succ m ih =>
      intro n v v0 v1 hnn
      obtain ⟨n', rfl⟩ : ∃ n', n = n' + 1 := ⟨n - 1, by omega⟩
      have hla := laF_rng hf v0 (show v ≤ f 10 by omega)
      have hk := (k2 v v0 (by omega)).mpr (by omega)
      simp (disch := omega) only [p_X8_carvedStay_10, show gF w1 10 4 = nLF f from hL1.1.1, lt32_o]
      rw [if_pos (by omega), if_pos (by omega), hone v v0 (by omega), Option.bind_some]
      simp only [eq32_b2]
      show _ = some (b2 ((decide (v < nLF g) && sbF f g v) && allb _ m (v + 1)), w1)
      cases hq : (decide (v < nLF g) && sbF f g v) with
      | false => rw [if_pos rfl]; rfl
      | true =>
        rw [if_neg (by decide), show p_X5_at 107 v w1 = some (wnF f v, w1) from lenC_o SLo_0 hf hS1 ⟨v0, by omega⟩, Option.bind_some]
        dsimp only
        rw [show f 8 - laF f v - wnF f v = f 8 - laF f (v + 1) by rw [laF_step v0]; omega]
        exact ih n' (v + 1) (by omega) (by omega) (by omega)
  have hst : allb (fun v => decide (v < nLF g) && sbF f g v) (ktF f).toNat 0 = stF f g := by
    have e : allb (fun v => decide (v < nLF g) && sbF f g v) (ktF f).toNat 0 = true ↔ stF f g = true := by
      unfold stF
      rw [Bool.and_eq_true, allb_iff, allb_iff, decide_eq_true_eq]
      constructor
      · intro h
        refine ⟨?_, fun i i0 i1 => (Bool.and_eq_true _ _ ▸ h i i0 i1).2⟩
        rcases Int.lt_or_le 0 (ktF f) with d | d
        · have := of_decide_eq_true (Bool.and_eq_true _ _ ▸ h (ktF f - 1) (by omega) (by omega)).1
          omega
        · omega
      · rintro ⟨h1, h2⟩ i i0 i1
        have := h2 i i0 i1
        show (decide (i < nLF g) && sbF f g i) = true
        rw [decide_eq_true (by omega), this]; rfl
    cases h1 : allb (fun v => decide (v < nLF g) && sbF f g v) (ktF f).toNat 0 <;> cases h2 : stF f g <;> simp_all
  unfold p_X8_needCarvedStay
  rw [a1, Option.bind_some]
  have hcs : p_X8_carvedStay w1 = some (b2 (stF f g), w1) := by
    unfold p_X8_carvedStay
    have := hl (ktF f).toNat FU 0 (by decide) (by omega) (by have : FU = 1000000 := rfl; omega)
    rw [laF_0, Int.sub_zero, hst] at this
    rw [show gF w1 100 11 = f 8 from hS1.1.2.2.2.2.2]; exact this
  rw [hcs, Option.bind_some]
  simp only [eq32_b2]
  cases stF f g <;> rfl
/-! the model keeps in mind -/
def KEP (w : Wd) (f : Rw) : Prop := gF w 50 16 = ktF f ∧ ∀ v, 0 ≤ v → v < ktF f → gA w 57 v = rLF f v ∧ gA w 58 v = cLF f v ∧ ∀ j, 0 ≤ j → j < 13 → gA w 59 (13 * v + j) = f (319 + 13 * v + j)
def ASI (w : Wd) (f : Rw) : Prop := ∀ i, 0 ≤ i → i < 1099 → gA w 55 i = f i
theorem keepAside_o (w : Wd) : p_X9_keepAside w = some (setR w 55 (fun j => if 0 ≤ j ∧ j < 0 + 1099 then gA w 51 (0 + (j - 0)) else gA w 55 j)) := by
  unfold p_X9_keepAside
  exact cp_loop (lp := fun n x w => p_X9_keepAside_2 n x w) (fin := some) (dst := 55) (src := 51) (od := 0) (os := 0) (b := 1099) (w := w) (by decide)
    (fun n x f x0 x1 => by
      simp (disch := omega) only [p_X9_keepAside_2, lt32_o, x1, if_true, inb_f, if_false]
      rw [Int.zero_add])
    (fun n f => by simp (disch := omega) only [p_X9_keepAside_2, lt32_o, Int.lt_irrefl, if_false])
    FU (by decide) (by have : FU = 1000000 := rfl; omega)
theorem layBack_o (w : Wd) (r : Int) : p_X9_layBack r w = some (r, setR w 51 (fun j => if 0 ≤ j ∧ j < 0 + 1099 then gA w 55 (0 + (j - 0)) else gA w 51 j)) := by
  unfold p_X9_layBack
  exact cp_loop (lp := fun n x w => p_X9_layBack_2 n r x w) (fin := fun w => some (r, w)) (dst := 51) (src := 55) (od := 0) (os := 0) (b := 1099) (w := w) (by decide)
    (fun n x f x0 x1 => by
      simp (disch := omega) only [p_X9_layBack_2, lt32_o, x1, if_true, inb_f, if_false]
      rw [Int.zero_add])
    (fun n f => by simp (disch := omega) only [p_X9_layBack_2, lt32_o, Int.lt_irrefl, if_false])
    FU (by decide) (by have : FU = 1000000 := rfl; omega)
theorem aside_p (w : Wd) {f : Rw} (h : gA w 51 = f) : ASI (setR w 55 (fun j => if 0 ≤ j ∧ j < 0 + 1099 then gA w 51 (0 + (j - 0)) else gA w 55 j)) f := fun i i0 i1 => by
  rw [gA_setR, if_pos rfl, if_pos (by omega), h, Int.zero_add, Int.sub_zero]
theorem back_p {w : Wd} {f f' : Rw} (hA : ASI w f) (h : gA w 51 = f') (hZ : Z0 f) (hZ' : Z0 f') : gA (setR w 51 (fun j => if 0 ≤ j ∧ j < 0 + 1099 then gA w 55 (0 + (j - 0)) else gA w 51 j)) 51 = f := funext fun i => by
  rw [gA_setR, if_pos rfl]
  by_cases c : 0 ≤ i ∧ i < 1099
  · rw [if_pos (by omega), Int.zero_add, Int.sub_zero]; exact hA i c.1 c.2
  · rw [if_neg (by omega), h, hZ' i c, hZ i c]
theorem frm_51 {w w' : Wd} (h : frm SMf TM5 w w') (h5 : gA w' 51 = gA w 51) : frm SMf TMf w w' := ⟨h.1, fun o ho i => by
  by_cases c : o = 51
  · rw [c, h5]
  · exact h.2.1 o (fun q => by rcases q with q | q; exact ho q; exact c q) i, h.2.2⟩
theorem keepCarved_o (h : RR k na wC wM) {w : Wd} (hw : frm SMf TMf wM w) : ∃ w', p_X9_keepCarved w = some w' ∧ frm SMf TMf wM w' ∧ KEP w' (gA wM 51) ∧ gF w' 50 0 = gF w 50 0 := by
  obtain ⟨vB, v1, v3, v4, v5, v6, v7, v8⟩ := h.V
  have hn := nL_rng h.B
  have h288 := (lF_ok h.B).2.2.2
  obtain ⟨k1, k2, k3⟩ := kt_rng h.B v8
  obtain ⟨w1, a1, a2, a3, a4⟩ := h.lay hw
  obtain ⟨e1, e2, e3⟩ := h.ny a2
  have h35 : p_X9_keepCarved w = p_X9_keepCarved_35 (ktF (gA wM 51)) w1 := by
    unfold p_X9_keepCarved
    rw [a1, Option.bind_some]
    dsimp only
    rw [if_neg (by decide), cRe e1]
    unfold ktF
    by_cases c : gA wM 51 8 = 0
    · rw [if_pos c, if_pos (by rw [c]; exact e00)]
    · rw [if_neg c, if_neg (by rw [eq32_o (by omega)]; exact c), if_neg (by decide), wordOfLetter_o e1 h.B ⟨hn.1, hn.2.1⟩ ⟨by omega, by omega⟩, Option.bind_some]
  rw [h35]
  unfold p_X9_keepCarved_35
  let Q : Int → Wd → Prop := fun v w' => 0 ≤ v ∧ frm SMf TMf wM w' ∧ AR9 w' (nLF (gA wM 51)) (rLF (gA wM 51)) (cLF (gA wM 51)) ∧ gF w' 50 16 = ktF (gA wM 51) ∧ gF w' 50 0 = gF w 50 0 ∧
    ∀ u, 0 ≤ u → u < v → gA w' 57 u = rLF (gA wM 51) u ∧ gA w' 58 u = cLF (gA wM 51) u ∧ ∀ j, 0 ≤ j → j < 13 → gA w' 59 (13 * u + j) = gA wM 51 (319 + 13 * u + j)
  obtain ⟨w', b1, b2', b3, b4, b5, b6, b7⟩ := loop_up (lp := fun n x w => p_X9_keepCarved_40 n x w) (fin := some) (b := ktF (gA wM 51)) (I := Q)
    (fun n x w' hx hI => by
      obtain ⟨i0, i1, i2, i3, i4, i5⟩ := hI
      simp (disch := omega) only [p_X9_keepCarved_40, i3, lt32_o, hx, if_true, inb_f, if_false, Option.bind_some]
      have eR := (i2.2 x i0 (by omega)).1
      have eC : gA (sA w' 57 x (gA w' 53 x)) 54 x = cLF (gA wM 51) x := (i2.2 x i0 (by omega)).2
      rw [eC, eR]
      have hfr : frm SMf TMf wM (sA (sA w' 57 x (rLF (gA wM 51) x)) 58 x (cLF (gA wM 51) x)) := frm_sA (frm_sA i1 (by unfold TMf; omega)) (by unfold TMf; omega)
      obtain ⟨w2, q1, q2, q3, q4, q5⟩ := loop_up (lp := fun m j w => p_X9_keepCarved_74 (p_X9_keepCarved_40 n) m x j w) (fin := fun w => p_X9_keepCarved_40 n (x + 1) w) (b := 13)
        (I := fun j w2 => 0 ≤ j ∧ frm S0 (fun o => o = 59) (sA (sA w' 57 x (rLF (gA wM 51) x)) 58 x (cLF (gA wM 51) x)) w2 ∧ (∀ j', 0 ≤ j' → j' < j → gA w2 59 (13 * x + j') = gA wM 51 (319 + 13 * x + j')) ∧ (∀ p, p < 13 * x → gA w2 59 p = gA w' 59 p))
        (fun m j w2 hj hI => by
          obtain ⟨j0, j1, j2, j3⟩ := hI
          have hny := h.ny (frm_trans hfr (frm_mono j1 (fun _ _ h => absurd h id) (fun o h => by unfold TMf; omega)))
          simp (disch := omega) only [p_X9_keepCarved_74, lt32_o, hj, if_true, inb_f, if_false]
          rw [cRe hny.1]
          refine ⟨_, rfl, by omega, frm_sA j1 rfl, fun j' a b => ?_, fun p hp => ?_⟩
          · rw [gA_sA]
            by_cases d : j' = j
            · rw [if_pos ⟨rfl, by omega⟩, d]
            · rw [if_neg (by omega)]; exact j2 j' a (by omega)
          · rw [gA_sA, if_neg (by omega)]; exact j3 p hp)
        (fun m w2 hI => by
          simp (disch := omega) only [p_X9_keepCarved_74, lt32_o, Int.lt_irrefl, if_false]; rfl)
        FU 0 (sA (sA w' 57 x (rLF (gA wM 51) x)) 58 x (cLF (gA wM 51) x)) (by decide) ⟨Int.le_refl _, frm_refl _, fun j' a b => absurd b (by omega), fun p _ => rfl⟩ (by decide)
      refine ⟨w2, q1, by omega, frm_trans hfr (frm_mono q3 (fun _ _ h => absurd h id) (fun o h => by unfold TMf; omega)), ?_, ?_, ?_, fun u u0 u1 => ?_⟩
      · exact AR9.fr (w := sA (sA w' 57 x (rLF (gA wM 51) x)) 58 x (cLF (gA wM 51) x)) i2 q3 id (by decide) (by decide)
      · exact (q3.1 50 16 id).trans i3
      · exact (q3.1 50 0 id).trans i4
      · rw [q3.2.1 57 (by decide), q3.2.1 58 (by decide)]
        by_cases d : u = x
        · subst d
          exact ⟨by rw [gA_sA, if_neg (by omega), gA_sA, if_pos ⟨rfl, rfl⟩], by rw [gA_sA, if_pos ⟨rfl, rfl⟩], fun j j0 j1 => q4 j j0 j1⟩
        · obtain ⟨x1, x2, x3⟩ := i5 u u0 (by omega)
          refine ⟨by rw [gA_sA, if_neg (by omega), gA_sA, if_neg (by omega)]; exact x1, by rw [gA_sA, if_neg (by omega), gA_sA, if_neg (by omega)]; exact x2, fun j j0 j1 => ?_⟩
          rw [q5 _ (by omega)]; exact x3 j j0 j1)
    (fun n w' hI => by
      simp (disch := omega) only [p_X9_keepCarved_40, hI.2.2.2.1, lt32_o, Int.lt_irrefl, if_false])
    FU 0 (sF w1 50 16 (ktF (gA wM 51))) k1.1 ⟨Int.le_refl _, frm_sF a2 (by unfold SMf; omega), a3, rfl, a4, fun u u0 u1 => absurd u1 (by omega)⟩ (by have : FU = 1000000 := rfl; omega)
  exact ⟨w', b1, b3, ⟨b5, b7⟩, b6⟩
theorem begin_o (h : RR k na wC wM) {w : Wd} (hw : frm SMf TMf wM w) : ∃ w', p_X9_beginChange w = some w' ∧ frm SMf TMf wM w' ∧ KEP w' (gA wM 51) ∧ ASI w' (gA wM 51) ∧ gF w' 50 0 = gF w 50 0 := by
  obtain ⟨w1, a1, a2, a3, a4⟩ := keepCarved_o h hw
  unfold p_X9_beginChange
  rw [a1, Option.bind_some, keepAside_o, Option.bind_some]
  refine ⟨_, rfl, frm_setR a2 (by unfold TMf; omega), ?_, aside_p w1 (h.ny a2).2.2, a4⟩
  exact a3
end ST
