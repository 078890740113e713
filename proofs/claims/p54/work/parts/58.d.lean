/-! ===== a change that carved letters allow ===== -/
section SU
variable {k na : Nat} {wC wM : Wd}
theorem isAsKept_o {f g : Rw} (hf : VB f) (hg : VB g) {w : Wd} (hcr : cR w = g) (hA : AR9 w (nLF g) (rLF g) (cLF g)) (hK : KEP w f) {v : Int} (hv : 0 ≤ v ∧ v < ktF f) (hvf : v < nLF f) (hvg : v < nLF g) : p_X9_isAsKept v w = some (b2 (sbF f g v), w) := by
  have hrf := rc_rng hf ⟨hv.1, hvf⟩
  have hrg := rc_rng hg ⟨hv.1, hvg⟩
  have hnf := nL_rng hf
  have hng := nL_rng hg
  obtain ⟨q1, q2, q3⟩ := hK.2 v hv.1 hv.2
  obtain ⟨p1, p2⟩ := hA.2 v hv.1 hvg
  have q30 : gA w 59 (13 * v) = wnF f v := by
    have := q3 0 (by decide) (by decide)
    rw [Int.add_zero, Int.add_zero] at this
    exact this
  have h55 : ∀ b : Bool, (b = true → wnF f v = wnF g v) → ∀ (m n : Nat) (x : Int) (b' : Bool), (b' = true → b = true) → 0 ≤ x → x + m = wnF g v → m < n → p_X9_isAsKept_55 n v (b2 b') x w = some (b2 (b' && allb (fun k => decide (wbF f v k = wbF g v k)) m x), w) := by
    intro b hb m
    induction m with
    | zero =>
      intro n x b' hbb x0 x1 hn
      obtain ⟨n', rfl⟩ : ∃ n', n = n' + 1 := ⟨n - 1, by omega⟩
      simp only [p_X9_isAsKept_55]
      rw [bytesOf_o hcr (by omega), Option.bind_some]
      dsimp only
      rw [if_neg (by rw [lt32_o (by omega)]; omega), zr_b2]
      cases b' <;> rfl
    | succ m ih =>
      intro n x b' hbb x0 x1 hn
      obtain ⟨n', rfl⟩ : ∃ n', n = n' + 1 := ⟨n - 1, by omega⟩
      simp only [p_X9_isAsKept_55]
      rw [bytesOf_o hcr (by omega), Option.bind_some]
      dsimp only
      rw [if_pos (by rw [lt32_o (by omega)]; omega)]
      cases hb' : b' with
      | false => rw [if_pos (show eq32 (b2 false) 0 = true by decide +kernel), zr_b2]; rfl
      | true =>
        have hw := hb (hbb hb')
        have b1 := hf.wb hv.1 (show v < f 10 by omega) x0 (show x < wnF f v by omega)
        have b2' := hg.wb hv.1 (show v < g 10 by omega) x0 (show x < wnF g v by omega)
        unfold isB at b1 b2'
        rw [if_neg (show ¬ eq32 (b2 true) 0 = true by decide +kernel), byteOf_o hcr (by omega) (by omega), Option.bind_some]
        dsimp only
        rw [if_neg (by rw [inb_f (by omega)]; exact id)]
        have e59 : gA w 59 (13 * v + 1 + x) = wbF f v x := by
          rw [show 13 * v + 1 + x = 13 * v + (1 + x) by omega, q3 (1 + x) (by omega) (by omega)]
          unfold wbF
          exact congrArg f (by omega)
        rw [e59]
        show _ = some (b2 (true && (decide (wbF f v x = wbF g v x) && allb _ m (x + 1))), w)
        unfold p_X9_isAsKept_95
        by_cases d : wbF f v x = wbF g v x
        · rw [if_pos (by rw [eq32_o (by omega)]; exact d.symm), decide_eq_true d]
          have := ih n' (x + 1) true (fun _ => hbb hb') (by omega) (by omega) (by omega)
          exact this
        · rw [if_neg (by rw [eq32_o (by omega)]; exact fun e => d e.symm), decide_eq_false d]
          have := ih n' (x + 1) false (fun e => absurd e (by decide)) (by omega) (by omega) (by omega)
          exact this
  have hrun : ∀ b : Bool, (b = true → wnF f v = wnF g v) → p_X9_isAsKept_52 v (b2 b) w = some (b2 (b && allb (fun k => decide (wbF f v k = wbF g v k)) (wnF g v).toNat 0), w) := fun b hb =>
    h55 b hb (wnF g v).toNat FU 0 b id (by decide) (by omega) (by have : FU = 1000000 := rfl; omega)
  have hno : p_X9_isAsKept_51 v w = some (b2 false, w) := by
    have := hrun false (fun e => absurd e (by decide))
    unfold p_X9_isAsKept_51
    exact this
  unfold p_X9_isAsKept sbF
  rw [if_neg (show ¬ inb v 60 = false by rw [inb_f (by omega)]; exact id), if_neg (show ¬ inb v 60 = false by rw [inb_f (by omega)]; exact id), if_neg (show ¬ inb v 60 = false by rw [inb_f (by omega)]; exact id), if_neg (show ¬ inb v 60 = false by rw [inb_f (by omega)]; exact id), p1, p2, q1, q2, hno]
  by_cases c : rLF f v = rLF g v
  · rw [if_pos (by rw [eq32_o (by omega)]; exact c.symm), decide_eq_true c, Bool.true_and]
    by_cases d : cLF f v = cLF g v
    · rw [if_pos (by rw [eq32_o (by omega)]; exact d.symm), decide_eq_true d, Bool.true_and, bytesOf_o hcr (by omega), Option.bind_some]
      dsimp only
      rw [if_neg (by rw [inb_f (by omega)]; exact id), q30]
      by_cases e : wnF f v = wnF g v
      · rw [if_pos (by rw [eq32_o (by omega)]; exact e.symm), decide_eq_true e, e]
        exact hrun true (fun _ => e)
      · rw [if_neg (by rw [eq32_o (by omega)]; exact fun q => e q.symm), decide_eq_false e, hno]; rfl
    · rw [if_neg (by rw [eq32_o (by omega)]; exact fun q => d q.symm), decide_eq_false d]; rfl
  · rw [if_neg (by rw [eq32_o (by omega)]; exact fun q => c q.symm), decide_eq_false c]; rfl
theorem allStay_o {f g : Rw} (hf : VB f) (hg : VB g) (h8 : 0 ≤ f 8 ∧ f 8 ≤ laF f (nLF f)) {w : Wd} (hcr : cR w = g) (hp : gP w 50 3 = 51) (hK : KEP w f) : ∃ w', p_X9_allStay w = some (b2 (stF f g), w') ∧ frm SL9 TL9 w w' ∧ gF w' 50 6 = nLF g := by
  obtain ⟨w1, a1, a2, a3⟩ := lay9 hg hcr hp
  obtain ⟨k1, k2, k3⟩ := kt_rng hf h8
  have hnf := nL_rng hf
  have hng := nL_rng hg
  have hcr1 : cR w1 = g := (cR_frm a1 hp (by unfold TL9; decide)).trans hcr
  have hK1 : KEP w1 f := ⟨(a1.1 50 16 (by unfold SL9; omega)).trans hK.1, fun v v0 v1 =>
    ⟨(a1.2.1 57 (by unfold TL9; decide) v).trans (hK.2 v v0 v1).1, (a1.2.1 58 (by unfold TL9; decide) v).trans (hK.2 v v0 v1).2.1, fun j j0 j1 => (a1.2.1 59 (by unfold TL9; decide) _).trans ((hK.2 v v0 v1).2.2 j j0 j1)⟩⟩
  refine ⟨w1, ?_, a1, a3.1⟩
  have hl : ∀ b : Bool, (b = true → ktF f ≤ nLF g) → ∀ (m n : Nat) (v : Int) (b' : Bool), (b' = true → b = true) → 0 ≤ v → v + m = ktF f → m < n → p_X9_allStay_19 n (b2 b') v w1 = some (b2 (b' && allb (sbF f g) m v), w1) := by
    intro b hb m
    induction m with
    | zero =>
      intro n v b' hbb v0 v1 hn
      obtain ⟨n', rfl⟩ : ∃ n', n = n' + 1 := ⟨n - 1, by omega⟩
      simp (disch := omega) only [p_X9_allStay_19, hK1.1, lt32_o]
      rw [if_neg (by omega), zr_b2]
      cases b' <;> rfl
    | succ m ih =>
      intro n v b' hbb v0 v1 hn
      obtain ⟨n', rfl⟩ : ∃ n', n = n' + 1 := ⟨n - 1, by omega⟩
      simp (disch := omega) only [p_X9_allStay_19, hK1.1, lt32_o]
      rw [if_pos (by omega)]
      cases hb' : b' with
      | false => rw [if_pos (show eq32 (b2 false) 0 = true by decide +kernel), zr_b2]; rfl
      | true =>
        have hw := hb (hbb hb')
        rw [if_neg (show ¬ eq32 (b2 true) 0 = true by decide +kernel), isAsKept_o hf hg hcr1 a3 hK1 ⟨v0, by omega⟩ (by omega) (by omega), Option.bind_some]
        dsimp only
        rw [ih n' (v + 1) (sbF f g v) (fun _ => hbb hb') (by omega) (by omega) (by omega)]
        rfl
  unfold p_X9_allStay
  rw [a2, Option.bind_some]
  dsimp only
  rw [hK1.1]
  unfold p_X9_allStay_16
  by_cases c : ktF f ≤ nLF g
  · rw [if_neg (by rw [lt32_o (by omega)]; omega)]
    have := hl true (fun _ => c) (ktF f).toNat FU 0 true id (by decide) (by omega) (by have : FU = 1000000 := rfl; omega)
    unfold stF
    rw [decide_eq_true c]; exact this
  · rw [if_pos (by rw [lt32_o (by omega)]; omega)]
    have := hl false (fun e => absurd e (by decide)) (ktF f).toNat FU 0 false id (by decide) (by omega) (by have : FU = 1000000 := rfl; omega)
    unfold stF
    rw [decide_eq_false c]; exact this
theorem st_la {f g : Rw} (h : stF f g = true) (hf : VB f) (hg : VB g) (h8 : 0 ≤ f 8 ∧ f 8 ≤ laF f (nLF f)) : f 8 ≤ laF g (nLF g) := by
  obtain ⟨k1, k2, k3⟩ := kt_rng hf h8
  have hng := nL_rng hg
  have h1 := Bool.and_eq_true _ _ ▸ h
  have h2 := of_decide_eq_true h1.1
  have h3 := (allb_iff _ _).mp h1.2
  have e : laF f (ktF f) = laF g (ktF f) := sm_congr _ fun i i0 i1 => by
    have := h3 i i0 (by omega)
    unfold sbF at this
    rw [Bool.and_eq_true, Bool.and_eq_true, Bool.and_eq_true] at this
    exact of_decide_eq_true this.2.2.1
  have := laF_mono hg h2 hng.2.1
  omega
/-- both sides of a change that carved letters may forbid -/
theorem op_stay (h : RR k na wC wM) {wC1 wM1 : Wd} {f' : Rw} (hC : frm SCf TCf wC wC1) (hS : RS wC1 116 f') (hM : frm SMf TM5 wM wM1) (hK : KEP wM1 (gA wM 51)) (hA : ASI wM1 (gA wM 51)) (h51 : gA wM1 51 = f') (hV : VB f') (hZ : Z0 f') (h2 : 2 ≤ f' 1) (h38 : ∀ i, 3 ≤ i → i ≤ 8 → f' i = gA wM 51 i) (K : Nat → Wd → Option Rz) :
    (∃ na' wC' wM', (bindG (p_X8_needCarvedStay na wC1) fun _ n8 w9 => bindG (p_X8_settle n8 w9) fun _ n13 w14 => K n13 w14) = K na' wC' ∧ p_X9_stays wM1 = some (1, wM') ∧ RR (k + 1) na' wC' wM' ∧ gA wM' 51 = f' ∧ gF wM' 50 6 = nLF f' ∧ gF wM' 50 0 = gF wM1 50 0) ∨
    (∃ wC' wM', (bindG (p_X8_needCarvedStay na wC1) fun _ n8 w9 => bindG (p_X8_settle n8 w9) fun _ n13 w14 => K n13 w14) = some (.inr 1, na, wC') ∧ p_X9_stays wM1 = some (0, wM') ∧ RR k na wC' wM') := by
  obtain ⟨vB, v1, v3, v4, v5, v6, v7, v8⟩ := h.V
  have h1 := h.fr hC (frm_refl wM)
  obtain ⟨w2, a1, a2⟩ := staysC h.B hV v8 h1.S h1.L hS
  have a3 : frm SCf TCf wC w2 := frm_trans hC (frm_mono a2 (fun o k h => by have := h.1; unfold SCf; omega) (fun o h => by unfold TLC at h; unfold TCf; omega))
  have hS2 : RS w2 116 f' := hS.lay a2 SLo_1 (Or.inr rfl)
  have hp1 : gP wM1 50 3 = 51 := (hM.2.2 _ _).trans h.pp
  have hcr : cR wM1 = f' := by unfold cR; rw [hp1, h51]
  obtain ⟨m2, b1, b2', b3⟩ := allStay_o h.B hV v8 hcr hp1 hK
  have hM2 : frm SMf TM5 wM m2 := frm_trans hM (frm_5 (frm_L9 b2'))
  have hA2 : ASI m2 (gA wM 51) := fun i i0 i1 => (b2'.2.1 55 (by unfold TL9; decide) i).trans (hA i i0 i1)
  have h512 : gA m2 51 = f' := (funext fun i => b2'.2.1 51 (by unfold TL9; decide) i).trans h51
  have ht2 : gF m2 50 0 = gF wM1 50 0 := b2'.1 50 0 (by unfold SL9; omega)
  unfold p_X9_stays
  rw [a1 na, b1, Option.bind_some]
  simp only [eq32_b2]
  cases hst : stF (gA wM 51) f' with
  | true =>
    left
    rw [if_pos rfl, bindG_l, if_neg (by decide)]
    have e31 : gF m2 50 31 = gF wM 50 31 := hM2.1 50 31 (by unfold SMf; omega)
    obtain ⟨m3, c1, c2, c3, c4, c5⟩ := rem9 (o := 55) (Or.inr rfl) e31 h.pa.2
    have nP : ∀ j, prM m2 j = prM wM j := fun j => congrArg nrm (funext fun i => hM2.2.1 63 (by unfold TM5 TMf; omega) _)
    have n55 : nrm (gA m2 55) = gA wM 51 := funext fun i => by
      unfold nrm
      by_cases c : 0 ≤ i ∧ i < 1099
      · rw [if_pos c]; exact hA2 i c.1 c.2
      · rw [if_neg c]; exact (h.z i c).symm
    have hCM : CHM wM m3 (gF wM 50 31) (shO (gF wM 50 31)) (gA wM 51) f' := by
      refine ⟨(c2.2.2 _ _).trans ((hM2.2.2 _ _).trans h.pp), (funext fun i => c2.2.1 51 (by decide) i).trans h512, c3, fun j j0 j1 => (c4 j j0 j1).trans (nP _), c5.trans n55, ⟨?_, ?_, ?_, ?_⟩, fun i => ?_, fun i => ?_, fun i => ?_, fun i => ?_⟩
      · exact (c2.1 50 18 (by decide)).trans (hM2.1 50 18 (by unfold SMf; omega))
      · exact (c2.1 50 24 (by decide)).trans (hM2.1 50 24 (by unfold SMf; omega))
      · exact (c2.1 50 25 (by decide)).trans (hM2.1 50 25 (by unfold SMf; omega))
      · exact (c2.1 50 33 (by decide)).trans (hM2.1 50 33 (by unfold SMf; omega))
      · exact (c2.2.1 60 (by decide) i).trans (hM2.2.1 60 (by unfold TM5 TMf; omega) i)
      · exact (c2.2.1 61 (by decide) i).trans (hM2.2.1 61 (by unfold TM5 TMf; omega) i)
      · exact (c2.2.1 62 (by decide) i).trans (hM2.2.1 62 (by unfold TM5 TMf; omega) i)
      · exact (c2.2.1 64 (by decide) i).trans (hM2.2.1 64 (by unfold TM5 TMf; omega) i)
    have hV' : VF (k + 1) f' := by
      refine ⟨hV, h2, by rw [h38 3 (by decide) (by decide)]; exact v3, by rw [h38 4 (by decide) (by decide)]; exact v4, by rw [h38 5 (by decide) (by decide), h38 3 (by decide) (by decide)]; exact v5, by rw [h38 6 (by decide) (by decide)]; omega, by rw [h38 7 (by decide) (by decide)]; omega, ?_⟩
      rw [h38 8 (by decide) (by decide)]
      exact ⟨v8.1, st_la hst vB hV v8⟩
    obtain ⟨na', wC', s1, s2⟩ := h.settle a3 hS2 hV' hZ hCM
    rw [s1, bindG_l, c1, Option.bind_some]
    exact ⟨na', wC', m3, rfl, rfl, s2, hCM.2.1, (c2.1 50 6 (by decide)).trans b3, (c2.1 50 0 (by decide)).trans ht2⟩
  | false =>
    right
    rw [if_neg (by decide), bindG_r, if_pos rfl, layBack_o, Option.bind_some]
    refine ⟨w2, _, rfl, rfl, h.fr a3 (frm_51 (frm_setR hM2 (Or.inr rfl)) (back_p hA2 h512 h.z hZ))⟩
end SU
