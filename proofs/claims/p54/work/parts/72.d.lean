/-! ===== what is written ===== -/
def SCo (o k : Nat) : Prop := SCf o k ∨ (o = 5 ∧ k = 1)
def TCo (o : Nat) : Prop := TCf o ∨ o = 7
def SMo (o k : Nat) : Prop := o = 50 ∧ k ≠ 18 ∧ k ≠ 24 ∧ k ≠ 25 ∧ k ≠ 31
def TMo (o : Nat) : Prop := TMf o ∨ o = 64
theorem RR.out {k na : Nat} {wC wM wC' wM' : Wd} (h : RR k na wC wM) (hC : frm SCo TCo wC wC') (hM : frm SMo TMo wM wM') (hO : OUr wC' wM') : RR k na wC' wM' := by
  refine h.io (frm_mono hC (fun o k h => Or.elim h Or.inl (fun h => Or.inr (Or.inr h))) (fun o h => Or.elim h Or.inl (fun h => Or.inr (Or.inr h)))) (frm_mono hM (fun o k h => ⟨h.1, h.2.2.1, h.2.2.2.1, h.2.2.2.2⟩) (fun o h => Or.elim h Or.inl (fun h => Or.inr (Or.inr h)))) ?_ hO
  obtain ⟨h1, h2, h3⟩ : INr wC wM := h.2.2.2.2.2.1
  have e : gF wM' 50 18 = gF wM 50 18 := hM.1 50 18 (by unfold SMo; omega)
  refine ⟨by rw [e, hC.1 2 1 (by unfold SCo SCf; omega)]; exact h1, by rw [e]; exact h2, fun i i0 i1 => ?_⟩
  rw [e] at i1
  rw [hC.2.1 4 (by unfold TCo TCf; omega), hM.2.1 60 (by unfold TMo TMf; omega)]
  exact h3 i i0 i1
theorem wr1 {w m : Wd} (hO : OUr w m) (hlt : gF m 50 33 < 900) {b : Int} (hb : 0 ≤ b ∧ b ≤ 127) : ∃ w' m', p_X0_add 5 b w = some w' ∧ p_X9_write b m = some m' ∧ frm SCo TCo w w' ∧ frm SMo TMo m m' ∧ OUr w' m' ∧ gF m' 50 33 = gF m 50 33 + 1 ∧ gF m' 50 0 = gF m 50 0 ∧ gF m' 50 6 = gF m 50 6 ∧ (∀ i, gA m' 53 i = gA m 53 i) ∧ (∀ i, gA m' 54 i = gA m 54 i) := by
  obtain ⟨h1, h2, h3⟩ := hO
  have e : an32 b 255 = b := by rw [an255]; omega
  have e2 : i8 (i8 b) = b := by unfold i8; simp only [Int.bmod_def]; omega
  refine ⟨sF (sA w 7 (gF m 50 33) (an32 b 255)) 5 1 (gF w 5 1 + 1), sF (sA m 64 (gF m 50 33) (i8 (i8 b))) 50 33 (gF m 50 33 + 1), ?_, ?_, ?_, ?_, ⟨?_, ?_, fun i i0 i1 => ?_⟩, ?_, ?_, ?_, fun i => ?_, fun i => ?_⟩
  · unfold p_X0_add
    rw [h1, put_in (by rw [show ln (5 + 1 + 1) = 900 from rfl]; omega), Option.bind_some]
    exact congrArg (fun v => some (sF (sA w 7 (gF m 50 33) (an32 b 255)) 5 1 (v + 1))) h1
  · unfold p_X9_write
    rw [if_neg (by rw [inb_f (by omega)]; exact id), Option.bind_some]; rfl
  · exact frm_sF (frm_sA (frm_refl w) (Or.inr rfl)) (Or.inr ⟨rfl, rfl⟩)
  · exact frm_sF (frm_sA (frm_refl m) (Or.inr rfl)) (by unfold SMo; omega)
  · rw [gF_sF, if_pos ⟨rfl, rfl⟩, gF_sF, if_pos ⟨rfl, rfl⟩]
    show gF w 5 1 + 1 = gF m 50 33 + 1
    rw [h1]
  · rw [gF_sF, if_pos ⟨rfl, rfl⟩]
    show 0 ≤ gF m 50 33 + 1 ∧ gF m 50 33 + 1 ≤ 900
    omega
  · rw [gF_sF, if_pos ⟨rfl, rfl⟩] at i1
    have i1' : i < gF m 50 33 + 1 := i1
    rw [gA_sF, gA_sF, gA_sA, gA_sA]
    by_cases d : i = gF m 50 33
    · rw [if_pos ⟨rfl, d⟩, if_pos ⟨rfl, d⟩, e2, e]
    · rw [if_neg (fun x => d x.2), if_neg (fun x => d x.2)]; exact h3 i i0 (by omega)
  · rw [gF_sF, if_pos ⟨rfl, rfl⟩]
  · rw [gF_sF, if_neg (by decide)]; rfl
  · rw [gF_sF, if_neg (by decide)]; rfl
  · rw [gA_sF, gA_sA, if_neg (by omega)]
  · rw [gA_sF, gA_sA, if_neg (by omega)]
def sgF (f : Rw) (x y : Int) : Int :=
  if woF f x y = -1 then 46 else if x - cLF f (woF f x y) < max 0 (min (f 8 - laF f (woF f x y)) (wnF f (woF f x y))) then (if wbF f (woF f x y) (x - cLF f (woF f x y)) < 97 then wbF f (woF f x y) (x - cLF f (woF f x y)) else wbF f (woF f x y) (x - cLF f (woF f x y)) - 32) else wbF f (woF f x y) (x - cLF f (woF f x y))
theorem fl_wo {f : Rw} (hV : VB f) {x y : Int} (h : flF f x y = true) : woF f x y = -1 := by
  rcases woF_rng hV x y with g | ⟨g1, g2, g3, g4, g5⟩
  · exact g.1
  · have h1 := (lF_ok hV).2.2.1.1 (woF f x y) g1 g2
    have h2 := h1.2.2.2
    unfold fitF at h2
    rw [Bool.and_eq_true] at h2
    have h3 := (allb_iff _ _).mp h2.2 x g4 (by omega)
    rw [g3, h] at h3
    exact absurd h3 (by decide)
section OW
variable {k na : Nat} {wC wM : Wd} {xs : Nat → Int32} {i : Int}
theorem sgF_rng (h : RR k na wC wM) {x y : Int} : 0 ≤ sgF (gA wM 51) x y ∧ sgF (gA wM 51) x y ≤ 127 := by
  have hn := nL_rng h.B
  unfold sgF
  rcases woF_rng h.B x y with g | ⟨g1, g2, g3, g4, g5⟩
  · rw [if_pos g.1]; decide
  · rw [if_neg (by omega)]
    have hb := h.B.wb (v := woF (gA wM 51) x y) (k := x - cLF (gA wM 51) (woF (gA wM 51) x y)) g1 (by omega) (by omega) (by omega)
    unfold isB at hb
    generalize wbF (gA wM 51) (woF (gA wM 51) x y) (x - cLF (gA wM 51) (woF (gA wM 51) x y)) = b at *
    by_cases c1 : x - cLF (gA wM 51) (woF (gA wM 51) x y) < max 0 (min (gA wM 51 8 - laF (gA wM 51) (woF (gA wM 51) x y)) (wnF (gA wM 51) (woF (gA wM 51) x y)))
    · rw [if_pos c1]
      by_cases c2 : b < 97
      · rw [if_pos c2]; omega
      · rw [if_neg c2]; omega
    · rw [if_neg c1]; omega
theorem signOn_o (h : RR k na wC wM) {x y : Int} (hx : rng x) (hy : rng y) : p_X8_signOn x y wC = some (sgF (gA wM 51) x y, wC) := by
  have hn := nL_rng h.B
  unfold p_X8_signOn sgF
  rw [wordOn_o h.B h.S h.L hx hy, Option.bind_some]
  dsimp only
  rcases woF_rng h.B x y with g | ⟨g1, g2, g3, g4, g5⟩
  · rw [if_pos g.1, g.1, if_pos (by decide +kernel)]
  · have hw := h.B.w
    have hrc := rc_rng h.B (v := woF (gA wM 51) x y) ⟨g1, g2⟩
    rw [if_neg (show ¬ eq32 (woF (gA wM 51) x y) (-1) = true by rw [eq32_o (by omega)]; omega), if_neg (show ¬ woF (gA wM 51) x y = -1 by omega)]
    rw [at13_o h ⟨g1, by omega⟩, Option.bind_some, if_pos g2]
    dsimp only
    have hb := h.B.wb (v := woF (gA wM 51) x y) (k := x - cLF (gA wM 51) (woF (gA wM 51) x y)) g1 (by omega) (by omega) (by omega)
    unfold isB at hb
    rw [byteC_o SLo_0 h.B h.S ⟨g1, by omega⟩ ⟨by omega, by omega⟩, Option.bind_some]
    dsimp only
    rw [carvedC_o h ⟨g1, by omega⟩, Option.bind_some]
    dsimp only
    generalize wbF (gA wM 51) (woF (gA wM 51) x y) (x - cLF (gA wM 51) (woF (gA wM 51) x y)) = b at *
    unfold p_X8_signOn_77 p_X8_signOn_78
    rw [if_pos (show eq32 0 0 = true from e00), if_neg (show ¬ eq32 1 0 = true by decide +kernel)]
    simp (disch := omega) only [lt32_o]
    by_cases c1 : x - cLF (gA wM 51) (woF (gA wM 51) x y) < max 0 (min (gA wM 51 8 - laF (gA wM 51) (woF (gA wM 51) x y)) (wnF (gA wM 51) (woF (gA wM 51) x y)))
    · rw [if_pos c1, if_pos c1]
      by_cases c2 : b < 97
      · rw [if_pos c2, if_pos c2]
      · rw [if_neg c2, if_neg c2, if_neg (show ¬ 122 < b by omega), show b - 97 + 65 = b - 32 by omega]
    · rw [if_neg c1, if_neg c1]
theorem shown_o (h : RR k na wC wM) {x y : Int} (hw : 0 ≤ woF (gA wM 51) x y) : p_X9_shown (woF (gA wM 51) x y) (x - cLF (gA wM 51) (woF (gA wM 51) x y)) wM = some (sgF (gA wM 51) x y, wM) := by
  have hn := nL_rng h.B
  have hw60 := h.B.w
  rcases woF_rng h.B x y with g | ⟨g1, g2, g3, g4, g5⟩
  · exact absurd hw (by omega)
  · have hrc := rc_rng h.B (v := woF (gA wM 51) x y) ⟨g1, g2⟩
    have hb := h.B.wb (v := woF (gA wM 51) x y) (k := x - cLF (gA wM 51) (woF (gA wM 51) x y)) g1 (by omega) (by omega) (by omega)
    unfold isB at hb
    unfold p_X9_shown sgF
    rw [if_neg (show ¬ woF (gA wM 51) x y = -1 by omega), byteOf_o h.f ⟨g1, by omega⟩ ⟨by omega, by omega⟩, Option.bind_some]
    dsimp only
    rw [carvedOf_o h (frm_refl _) ⟨g1, by omega⟩, Option.bind_some]
    dsimp only
    generalize wbF (gA wM 51) (woF (gA wM 51) x y) (x - cLF (gA wM 51) (woF (gA wM 51) x y)) = b at *
    simp (disch := omega) only [lt32_o]
    by_cases c1 : x - cLF (gA wM 51) (woF (gA wM 51) x y) < max 0 (min (gA wM 51 8 - laF (gA wM 51) (woF (gA wM 51) x y)) (wnF (gA wM 51) (woF (gA wM 51) x y)))
    · rw [if_pos c1, if_pos c1]
      by_cases c2 : b < 97
      · rw [if_pos c2, if_pos c2]
      · rw [if_neg c2, if_neg c2]
    · rw [if_neg c1, if_neg c1]
end OW
