/-! ===== the class lays all; its letters ===== -/
section LE
variable {f : Rw} {o l : Nat}
theorem centre_o (ho : SLo o) (hl : LAo l) (hV : VB f) {w : Wd} {R C : Int → Int} {a to : Int} (hto : to ≤ f 10) (hS : RS w o f) (hL : VL f to R C) (hA : ∀ i, 0 ≤ i → i < to → gA w (l + 2) i = R i ∧ gA w (l + 4) i = C i) (h0 : 0 ≤ a) (h1 : a < to) (hM : MC f a to R C) :
    ∃ w', p_X2_centre l o a to w = some w' ∧ frm (SLC l) (TLC l) w w' ∧ (∀ i, gA w' (l + 2) i = gA w (l + 2) i) ∧ (∀ o k, gF w' o k = gF w o k) ∧ ∀ i, 0 ≤ i → i < to → gA w' (l + 4) i = ceF f R to 100 a (a + 1) C i := by
  have h3 := hV.w
  unfold p_X2_centre
  exact centreC ho hl hV (Int.le_refl _) hto 100 FU a (a + 1) C w hS hL hA h0 (by omega) (by omega) (fun i i0 i1 => by rw [show i = a by omega]) hM (by omega) (by have : FU = 1000000 := rfl; omega)
theorem lay109 (hl : LAo l) (hV : VB f) {w : Wd} (hw : gF w o 7 = f 10) {u : Int} (hu : gF w l 4 = u) (h0 : 0 ≤ u ∧ u ≤ f 10) :
    ∃ w', p_X2_lay_109 l o w = some w' ∧ frm (SLC l) (TLC l) w w' ∧ gF w' l 4 = u ∧ (∀ i, i < u → gA w' (l + 2) i = gA w (l + 2) i ∧ gA w' (l + 4) i = gA w (l + 4) i) ∧ ∀ i, u ≤ i → i < f 10 → gA w' (l + 2) i = -1 ∧ gA w' (l + 4) i = -1 := by
  have h3 := hV.w
  unfold p_X2_lay_109
  obtain ⟨w', h1, h2, g1, g2, g3, g4⟩ := loop_up (lp := fun n x w => p_X2_lay_114 l o n x w) (fin := some) (b := f 10)
    (I := fun x w' => u ≤ x ∧ frm (SLC l) (TLC l) w w' ∧ (∀ o k, gF w' o k = gF w o k) ∧ (∀ i, i < u → gA w' (l + 2) i = gA w (l + 2) i ∧ gA w' (l + 4) i = gA w (l + 4) i) ∧ ∀ i, u ≤ i → i < x → gA w' (l + 2) i = -1 ∧ gA w' (l + 4) i = -1)
    (fun n x w' hx hI => by
      obtain ⟨i0, i1, i2, i3, i4⟩ := hI
      have e7 : gF w' o 7 = f 10 := (i2 o 7).trans hw
      simp (disch := omega) only [p_X2_lay_114, e7, lt32_o, hx, if_true]
      rw [put_in (o := l + 1) ⟨by omega, by rw [show ln (l + 1 + 1) = 60 from hl.l2]; omega⟩, Option.bind_some, put_in (o := l + 3) ⟨by omega, by rw [show ln (l + 3 + 1) = 60 from hl.l4]; omega⟩, Option.bind_some]
      refine ⟨_, rfl, by omega, frm_sA (frm_sA i1 (Or.inl rfl)) (Or.inr rfl), i2, fun i hi => ?_, fun i hi hi2 => ?_⟩
      · show gA (sA (sA w' (l + 2) x (-1)) (l + 4) x (-1)) (l + 2) i = _ ∧ gA (sA (sA w' (l + 2) x (-1)) (l + 4) x (-1)) (l + 4) i = _
        simp only [gA_sA]
        rw [if_neg (by omega), if_neg (by omega), if_neg (by omega), if_neg (by omega)]
        exact i3 i hi
      · show gA (sA (sA w' (l + 2) x (-1)) (l + 4) x (-1)) (l + 2) i = _ ∧ gA (sA (sA w' (l + 2) x (-1)) (l + 4) x (-1)) (l + 4) i = _
        simp only [gA_sA]
        by_cases d : i = x
        · rw [if_neg (by omega), if_pos ⟨trivial, d⟩, if_pos ⟨trivial, d⟩]; exact ⟨rfl, rfl⟩
        · rw [if_neg (by omega), if_neg (by omega), if_neg (by omega), if_neg (by omega)]
          exact i4 i hi (by omega))
    (fun n w' hI => by
      have e7 : gF w' o 7 = f 10 := (hI.2.2.1 o 7).trans hw
      simp (disch := omega) only [p_X2_lay_114, e7, lt32_o, Int.lt_irrefl, if_false])
    FU u w h0.2 ⟨Int.le_refl _, frm_refl w, fun _ _ => rfl, fun _ _ => ⟨rfl, rfl⟩, fun i hi hi2 => absurd hi2 (by omega)⟩ (by have : FU = 1000000 := rfl; omega)
  rw [hu]
  exact ⟨w', h1, g1, (g2 l 4).trans hu, g3, g4⟩
theorem layC19 (ho : SLo o) (hl : LAo l) (hV : VB f) : ∀ (cnt n : Nat) (p : Int) (w : Wd) (st : Ly), RS w o f → 0 ≤ p → p + cnt = f 9 → VS f (firF f p) st → AGC w l st → cnt < n →
    ∃ w', frm (SLC l) (TLC l) w w' ∧ p_X2_lay_19 l o n (firF f p) p w = p_X2_lay_109 l o w' ∧ ARC w' l (lyF f cnt p st).1 (lyF f cnt p st).2.2.2.1 (lyF f cnt p st).2.2.2.2 := by
  have h9 := hV.p
  have h10 := hV.w
  intro cnt
  induction cnt with
  | zero =>
    intro n p w st hR h0 h1 hS hA h5
    obtain ⟨n', rfl⟩ : ∃ n', n = n' + 1 := ⟨n - 1, by omega⟩
    have e4 : gF w o 4 = f 9 := hR.1.2.2.2.1
    refine ⟨w, frm_refl w, ?_, hA.2.2⟩
    simp (disch := omega) only [p_X2_lay_19, e4, lt32_o]
    rw [if_neg (by omega)]
  | succ cnt ih =>
    intro n p w st hR h0 h1 hS hA h5
    obtain ⟨n', rfl⟩ : ∃ n', n = n' + 1 := ⟨n - 1, by omega⟩
    have hps := hV.ps h0 (show p < f 9 by omega)
    have hpk := hV.pk h0 (show p < f 9 by omega)
    have hfn := firF_next hV h0 (show p < f 9 by omega)
    have hn : ((psF f p).toNat : Int) = psF f p := Int.toNat_of_nonneg (by omega)
    have e1 : st.1 = firF f p := hS.1
    have e4 : gF w o 4 = f 9 := hR.1.2.2.2.1
    have l4 : gF w l 4 = firF f p := hA.2.2.1.trans e1
    have hst : firF f (p + 1) = firF f p + psF f p := firF_step h0
    obtain ⟨w1, a1, a2, a3, a4⟩ := lwsC ho hl hV (to := firF f p + psF f p) (psF f p).toNat FU (firF f p) w st hR hfn.1 (by omega) hfn.2 hS hA (by have : FU = 1000000 := rfl; omega)
    have hR1 : RS w1 o f := hR.lay a1 ho hl
    have hlw := lwF_ok hV (psF f p).toNat (firF f p) st hfn.1 (by omega) hS
    have hmc := lwF_mc hV hfn.1 (psF f p).toNat (firF f p) st (Int.le_refl _) (by omega) hS (fun i j i0 ij j1 => absurd j1 (by omega)) (fun i i0 i1 => absurd i1 (by omega))
    rw [hn] at hlw hmc
    have hlp := lpF_ok hV h0 (show p < f 9 by omega) hS hS.2.2.1.2
    simp (disch := omega) only [p_X2_lay_19, e4, l4, lt32_o]
    rw [if_pos (by omega), if_pos (eq32_self _), sizeC_o ho hV hR (by omega), Option.bind_some]
    dsimp only
    rw [show p_X2_layWords l o (firF f p + psF f p) w = some w1 by
      unfold p_X2_layWords; rw [l4]; exact a2, Option.bind_some]
    have e1' : gF w1 l 4 = (lwF f (psF f p).toNat (firF f p) st).2.1 := a4.1
    have eg : gF w1 o 2 = f 2 := hR1.1.2.2.1
    rw [e1']
    unfold lyF
    by_cases c : (lwF f (psF f p).toNat (firF f p) st).1 = true
    · have hVS := hlw.1 c
      have hMC := hmc c
      obtain ⟨A6, A7, A4, AA⟩ := a3 c
      rw [hVS.1, if_pos (eq32_self _), kindC_o ho hV hR1 (by omega), Option.bind_some]
      dsimp only
      simp (disch := omega) only [eq32_o]
      have clp : (lpF f p st).1 = true := by unfold lpF; rw [e1, if_pos c]
      rw [if_pos clp]
      have key : ∀ w2 : Wd, frm (SLC l) (TLC l) w1 w2 → gF w2 l 6 = (lwF f (psF f p).toNat (firF f p) st).2.2.1 → ARC w2 l (lpF f p st).2.1 (lpF f p st).2.2.2.2.1 (lpF f p st).2.2.2.2.2 →
          ∃ w', frm (SLC l) (TLC l) w w' ∧ p_X2_lay_83 l o (p_X2_lay_19 l o n') (firF f p + psF f p) p w2 = p_X2_lay_109 l o w' ∧ ARC w' l (lyF f cnt (p + 1) (lpF f p st).2).1 (lyF f cnt (p + 1) (lpF f p st).2).2.2.2.1 (lyF f cnt (p + 1) (lpF f p st).2).2.2.2.2 := by
        intro w2 hfr2 h6 hAR
        have hR2 : RS w2 o f := hR1.lay hfr2 ho hl
        unfold p_X2_lay_83
        rw [Option.bind_some, h6, hR2.1.2.2.1, ← hst]
        have hfr3 : frm (SLC l) (TLC l) w2 (sF (sF w2 l 6 ((lwF f (psF f p).toNat (firF f p) st).2.2.1 + (f 2 + 1))) l 7 0) := frm_sF (frm_sF (frm_refl w2) ⟨rfl, Or.inr (Or.inl rfl)⟩) ⟨rfl, Or.inr (Or.inr rfl)⟩
        obtain ⟨w', b1, b2', b3⟩ := ih n' (p + 1) _ (lpF f p st).2 (hR2.lay hfr3 ho hl) (by omega) (by omega) (hlp.1 clp) ⟨by
            rw [gF_sF, if_neg (by omega), gF_sF, if_pos ⟨rfl, rfl⟩]; unfold lpF; rw [e1, if_pos c], by
            rw [gF_sF, if_pos ⟨rfl, rfl⟩]; unfold lpF; rw [e1, if_pos c], by
            rw [gF_sF, if_neg (by omega), gF_sF, if_neg (by omega)]; exact hAR.1, hAR.2⟩ (by omega)
        exact ⟨w', frm_trans a1 (frm_trans hfr2 (frm_trans hfr3 b1)), b2', b3⟩
      by_cases c2 : pkF f p = 0
      · rw [if_pos c2]
        obtain ⟨w2, m1, m2, m3, m4, m5⟩ := centre_o ho hl hV (w := w1) (a := firF f p) (to := firF f p + psF f p) hfn.2 hR1 hVS.2.1 (fun i i0 i1 => AA i i0 (by rw [hVS.1]; exact i1)) hfn.1 (by omega) hMC
        rw [m1, Option.bind_some]
        refine key w2 m2 ((m4 l 6).trans A6) ?_
        unfold lpF
        rw [e1, if_pos c, if_pos c2]
        refine ⟨(m4 l 4).trans A4, fun i i0 i1 => ?_⟩
        have i1' : i < (lwF f (psF f p).toNat (firF f p) st).2.1 := i1
        exact ⟨(m3 i).trans (AA i i0 i1').1, m5 i i0 (by rw [hVS.1] at i1'; exact i1')⟩
      · rw [if_neg c2]
        refine key w1 (frm_refl w1) A6 ?_
        unfold lpF
        rw [e1, if_pos c, if_neg c2]
        exact ⟨A4, AA⟩
    · obtain ⟨u, u0, u1, u2⟩ := hlw.2 (bfF c)
      have clp : ¬ (lpF f p st).1 = true := by unfold lpF; rw [e1, if_neg c]; exact c
      have el : (lpF f p st).2 = (lwF f (psF f p).toNat (firF f p) st).2 := by unfold lpF; rw [e1, if_neg c]
      rw [u2.1]
      simp (disch := omega) only [eq32_o]
      rw [if_neg (by omega), if_neg clp, el]
      unfold p_X2_lay_83
      rw [Option.bind_some]
      obtain ⟨n2, rfl⟩ : ∃ n2, n' = n2 + 1 := ⟨n' - 1, by omega⟩
      have hfr3 : ∀ x : Int, frm (SLC l) (TLC l) w1 (sF (sF w1 l 6 x) l 7 0) := fun x => frm_sF (frm_sF (frm_refl w1) ⟨rfl, Or.inr (Or.inl rfl)⟩) ⟨rfl, Or.inr (Or.inr rfl)⟩
      refine ⟨_, frm_trans a1 (hfr3 (gF w1 l 6 + (gF w1 o 2 + 1))), ?_, by rw [gF_sF, if_neg (by omega), gF_sF, if_neg (by omega)]; exact a4.1, a4.2⟩
      have e4' : gF (sF (sF w1 l 6 (gF w1 l 6 + (gF w1 o 2 + 1))) l 7 0) o 4 = f 9 := (hR1.lay (hfr3 _) ho hl).1.2.2.2.1
      have el4 : gF (sF (sF w1 l 6 (gF w1 l 6 + (gF w1 o 2 + 1))) l 7 0) l 4 = u := by
        rw [gF_sF, if_neg (by omega), gF_sF, if_neg (by omega), e1']; exact u2.1
      simp (disch := omega) only [p_X2_lay_19, e4', el4, lt32_o, eq32_o]
      by_cases d : p + 1 < f 9
      · rw [if_pos d, if_neg (by omega)]
      · rw [if_neg d]
/-- what a layout says -/
def LY (w : Wd) (l : Nat) (f : Rw) : Prop := ARC w l (nLF f) (rLF f) (cLF f) ∧ ∀ i, nLF f ≤ i → i < f 10 → gA w (l + 2) i = -1 ∧ gA w (l + 4) i = -1
theorem layC (ho : SLo o) (hl : LAo l) (hV : VB f) {w : Wd} (hS : RS w o f) : ∃ w', p_X2_lay l o w = some w' ∧ frm (SLC l) (TLC l) w w' ∧ LY w' l f := by
  have h9 := hV.p
  unfold p_X2_lay
  rw [Option.bind_some]
  have hfr : frm (SLC l) (TLC l) w (sF (sF (sF w l 4 0) l 6 0) l 7 0) := frm_sF (frm_sF (frm_sF (frm_refl w) ⟨rfl, Or.inl rfl⟩) ⟨rfl, Or.inr (Or.inl rfl)⟩) ⟨rfl, Or.inr (Or.inr rfl)⟩
  obtain ⟨w1, a1, a2, a3⟩ := layC19 ho hl hV (f 9).toNat FU 0 (sF (sF (sF w l 4 0) l 6 0) l 7 0) L0 (hS.lay hfr ho hl) (by decide) (by omega) VS_0 ⟨by rw [gF_sF, if_neg (by omega), gF_sF, if_pos ⟨rfl, rfl⟩]; rfl, by rw [gF_sF, if_pos ⟨rfl, rfl⟩]; rfl, by rw [gF_sF, if_neg (by omega), gF_sF, if_neg (by omega), gF_sF, if_pos ⟨rfl, rfl⟩]; rfl, fun i i0 i1 => absurd i1 (by show ¬ i < 0; omega)⟩ (by have : FU = 1000000 := rfl; omega)
  have hok := lF_ok hV
  have hR1 : RS w1 o f := (hS.lay hfr ho hl).lay a1 ho hl
  obtain ⟨w2, b1, b2', b3, b4, b5⟩ := lay109 (o := o) hl hV hR1.1.2.2.2.2.1 a3.1 ⟨hok.1, hok.2.1⟩
  refine ⟨w2, a2.trans b1, frm_trans hfr (frm_trans a1 b2'), ⟨b3, fun i i0 i1 => ?_⟩, b5⟩
  rw [(b4 i i1).1, (b4 i i1).2]
  exact a3.2 i i0 i1
end LE
