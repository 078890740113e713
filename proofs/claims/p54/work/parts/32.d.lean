/-! ===== the model lays a part, and all ===== -/
theorem lay17 {f : Rw} (hV : VB f) {p from0 to : Int} : ∀ (cnt n : Nat) (v : Int) (w : Wd) (st : Ly), cR w = f → gP w 50 3 = 51 → 0 ≤ v → v + cnt = to → to ≤ f 10 → VS f v st → AG9 w st → cnt < n →
    ∃ w', frm SL9 TL9 w w' ∧ (((lwF f cnt v st).1 = true ∧ p_X9_layPart_17 n p from0 to v w = p_X9_layPart_93 p from0 to w' ∧ AG9 w' (lwF f cnt v st).2) ∨
      ((lwF f cnt v st).1 = false ∧ p_X9_layPart_17 n p from0 to v w = some (0, w') ∧ AR9 w' (lwF f cnt v st).2.1 (lwF f cnt v st).2.2.2.2.1 (lwF f cnt v st).2.2.2.2.2)) := by
  have hw60 := hV.w
  intro cnt
  induction cnt with
  | zero =>
    intro n v w st hf hp h0 h1 h2 hS hA h5
    obtain ⟨n', rfl⟩ : ∃ n', n = n' + 1 := ⟨n - 1, by omega⟩
    refine ⟨w, frm_refl w, Or.inl ⟨rfl, ?_, hA⟩⟩
    simp (disch := omega) only [p_X9_layPart_17, lt32_o]
    rw [if_neg (by omega)]
  | succ cnt ih =>
    intro n v w st hf hp h0 h1 h2 hS hA h5
    obtain ⟨n', rfl⟩ : ∃ n', n = n' + 1 := ⟨n - 1, by omega⟩
    have hwn := hV.wn h0 (show v < f 10 by omega)
    obtain ⟨A7, A8, A6, AA⟩ := hA
    have e1 : st.1 = v := hS.1
    obtain ⟨w1, b1, b2', b3⟩ := findPlace9 hV hwn hf hp A7 A8 hS.2.2.1 hS.2.2.2.1
    have hfr1 : frm SL9 TL9 w w1 := frm_mono b2' (fun o k h => ⟨h.1, Or.inr h.2⟩) (fun o h => absurd h id)
    have hf1 : cR w1 = f := (cR_frm hfr1 hp (by unfold TL9; decide)).trans hf
    have hp1 : gP w1 50 3 = 51 := (hfr1.2.2 _ _).trans hp
    have h61 : gF w1 50 6 = v := by rw [b2'.1 50 6 (by unfold SF9; decide), A6, e1]
    have hAA : ∀ i, 0 ≤ i → i < v → gA w1 53 i = st.2.2.2.1 i ∧ gA w1 54 i = st.2.2.2.2 i := fun i i0 i1 => by
      rw [b2'.2.1 53 (by unfold T0; exact id), b2'.2.1 54 (by unfold T0; exact id)]; exact AA i i0 (by rw [e1]; exact i1)
    simp (disch := omega) only [p_X9_layPart_17, lt32_o]
    rw [if_pos (by omega), bytesOf_o hf (by omega), Option.bind_some]
    show ∃ w', _ ∧ ((_ ∧ ((p_X9_findPlace (wnF f v) w).bind _) = _ ∧ _) ∨ (_ ∧ ((p_X9_findPlace (wnF f v) w).bind _) = _ ∧ _))
    rw [b1, Option.bind_some]
    simp only [eq32_b2]
    unfold lwF
    by_cases c : (fpF f (wnF f v) FP0 st.2.1 st.2.2.1).1 = true
    · obtain ⟨d7, d8⟩ := b3 c
      have hVS := VS_word hV h0 (by omega) hS c
      rw [if_pos c, if_neg (by rw [c]; decide), if_neg (by rw [inb_f (by omega)]; exact id), if_neg (by rw [inb_f (by omega)]; exact id), Option.bind_some]
      have hd8 : gF (sA w1 53 v (gF w1 50 7)) 50 8 = (fpF f (wnF f v) FP0 st.2.1 st.2.2.1).2.2 := d8
      rw [hd8, d7]
      have hfr2 : frm SL9 TL9 w (sA (sA w1 53 v (fpF f (wnF f v) FP0 st.2.1 st.2.2.1).2.1) 54 v (fpF f (wnF f v) FP0 st.2.1 st.2.2.1).2.2) := frm_sA (frm_sA hfr1 (Or.inl rfl)) (Or.inr rfl)
      have hf2 := (cR_frm hfr2 hp (by unfold TL9; decide)).trans hf
      rw [bytesOf_o hf2 (by omega), Option.bind_some]
      have hx8 : gF (sA (sA w1 53 v (fpF f (wnF f v) FP0 st.2.1 st.2.2.1).2.1) 54 v (fpF f (wnF f v) FP0 st.2.1 st.2.2.1).2.2) 50 8 = (fpF f (wnF f v) FP0 st.2.1 st.2.2.1).2.2 := d8
      have hx6 : ∀ x : Int, gF (sF (sA (sA w1 53 v (fpF f (wnF f v) FP0 st.2.1 st.2.2.1).2.1) 54 v (fpF f (wnF f v) FP0 st.2.1 st.2.2.1).2.2) 50 8 x) 50 6 = v := fun _ => h61
      simp only [hx8, hx6, Option.bind_some]
      have hfr3 : ∀ x : Int, frm SL9 TL9 w (sF (sF (sA (sA w1 53 v (fpF f (wnF f v) FP0 st.2.1 st.2.2.1).2.1) 54 v (fpF f (wnF f v) FP0 st.2.1 st.2.2.1).2.2) 50 8 x) 50 6 (v + 1)) := fun x => frm_sF (frm_sF hfr2 ⟨rfl, Or.inr (Or.inr rfl)⟩) ⟨rfl, Or.inl rfl⟩
      generalize (fpF f (wnF f v) FP0 st.2.1 st.2.2.1).2.1 = r at *
      generalize (fpF f (wnF f v) FP0 st.2.1 st.2.2.1).2.2 = cc at *
      have hAG : AG9 (sF (sF (sA (sA w1 53 v r) 54 v cc) 50 8 (cc + (wnF f v + 1))) 50 6 (v + 1)) (v + 1, r, cc + wnF f v + 1, upd1 st.2.2.2.1 v r, upd1 st.2.2.2.2 v cc) := by
        refine ⟨d7, by show cc + (wnF f v + 1) = cc + wnF f v + 1; omega, rfl, fun i i0 i1 => ?_⟩
        have i1' : i < v + 1 := i1
        show gA (sA (sA w1 53 v r) 54 v cc) 53 i = upd1 _ v r i ∧ gA (sA (sA w1 53 v r) 54 v cc) 54 i = upd1 _ v cc i
        simp only [gA_sA]
        by_cases d : i = v
        · subst d; rw [upd1_s, upd1_s]; exact ⟨by simp, by simp⟩
        · rw [upd1_n _ _ d, upd1_n _ _ d, if_neg (fun h => d h.2), if_neg (fun h => d h.2), if_neg (fun h => d h.2), if_neg (fun h => d h.2)]
          exact hAA i i0 (by omega)
      obtain ⟨w', g1, g2⟩ := ih n' (v + 1) _ _ ((cR_frm (hfr3 _) hp (by unfold TL9; decide)).trans hf) (((hfr3 _).2.2 _ _).trans hp) (by omega) (by omega) h2 hVS hAG (by omega)
      exact ⟨w', frm_trans (hfr3 _) g1, g2⟩
    · rw [if_neg c, if_pos (bfF c)]
      exact ⟨w1, hfr1, Or.inr ⟨rfl, rfl, h61.trans e1.symm, fun i i0 i1 => hAA i i0 (by rw [← e1]; exact i1)⟩⟩
theorem lay107 {f : Rw} {w : Wd} (hf : cR w = f) : p_X9_layPart_107 w = some (1, sF (sF w 50 7 (gF w 50 7 + (f 2 + 1))) 50 8 0) := by
  unfold p_X9_layPart_107
  rw [if_neg (by decide), cRe hf]; rfl
theorem layPart9 {f : Rw} (hV : VB f) {p : Int} {w : Wd} {st : Ly} (hf : cR w = f) (hp : gP w 50 3 = 51) (h0 : 0 ≤ p) (h1 : p < f 9) (hS : VS f (firF f p) st) (hA : AG9 w st) :
    ∃ w', frm SL9 TL9 w w' ∧ p_X9_layPart p w = some (b2 (lpF f p st).1, w') ∧ ((lpF f p st).1 = true → AG9 w' (lpF f p st).2) ∧ AR9 w' (lpF f p st).2.1 (lpF f p st).2.2.2.2.1 (lpF f p st).2.2.2.2.2 := by
  have h9 := hV.p
  have hps := hV.ps h0 h1
  have hfn := firF_next hV h0 h1
  have hn : ((psF f p).toNat : Int) = psF f p := Int.toNat_of_nonneg (by omega)
  have e1 : st.1 = firF f p := hS.1
  have hw10 := hV.w
  unfold p_X9_layPart
  rw [firstOf_o hf (by omega), Option.bind_some]
  show ∃ w', _ ∧ ((p_X9_manyOf p w).bind _) = _ ∧ _
  rw [manyOf_o hf (by omega), Option.bind_some]
  show ∃ w', _ ∧ p_X9_layPart_17 FU p (firF f p) (firF f p + psF f p) (firF f p) w = _ ∧ _
  obtain ⟨w1, a1, a2⟩ := lay17 hV (p := p) (from0 := firF f p) (to := firF f p + psF f p) (psF f p).toNat FU (firF f p) w st hf hp hfn.1 (by omega) hfn.2 hS hA (by have : FU = 1000000 := rfl; omega)
  have hlw := lwF_ok hV (psF f p).toNat (firF f p) st hfn.1 (by omega) hS
  unfold lpF
  rw [e1]
  rcases a2 with ⟨c, q1, q2⟩ | ⟨c, q1, q2⟩
  · rw [if_pos c, q1]
    have hVS := hlw.1 c
    rw [hn] at hVS
    obtain ⟨A7, A8, A6, AA⟩ := q2
    have hf1 : cR w1 = f := (cR_frm a1 hp (by unfold TL9; decide)).trans hf
    have hp1 : gP w1 50 3 = 51 := (a1.2.2 _ _).trans hp
    unfold p_X9_layPart_93
    rw [kindOf_o hf1 (by omega), Option.bind_some]
    have hpk := hV.pk h0 h1
    simp (disch := omega) only [eq32_o]
    by_cases c2 : pkF f p = 0
    · rw [if_pos c2, if_pos c2]
      obtain ⟨w2, m1, m2, m3⟩ := moveName_o hV (N := firF f p + psF f p) (w := w1) (a := firF f p) (to := firF f p + psF f p) (Int.le_refl _) hfn.2 hf1 hp1 hVS.2.1 (fun i i0 i1 => AA i i0 (by rw [hVS.1]; exact i1)) hfn.1 (by omega)
      have hfr2 : frm SL9 TL9 w1 w2 := frm_mono m2 (fun o k h => absurd h id) (fun o h => Or.inr h)
      have hf2 : cR w2 = f := (cR_frm hfr2 hp1 (by unfold TL9; decide)).trans hf1
      rw [m1, Option.bind_some, lay107 hf2]
      have g7 : gF w2 50 7 = (lwF f (psF f p).toNat (firF f p) st).2.2.1 := (m2.1 50 7 id).trans A7
      have g6 : gF w2 50 6 = (lwF f (psF f p).toNat (firF f p) st).2.1 := (m2.1 50 6 id).trans A6
      refine ⟨_, frm_sF (frm_sF (frm_trans a1 hfr2) ⟨rfl, Or.inr (Or.inl rfl)⟩) ⟨rfl, Or.inr (Or.inr rfl)⟩, rfl, fun _ => ?_, ?_⟩
      · refine ⟨by show gF w2 50 7 + _ = _; rw [g7], rfl, g6, fun i i0 i1 => ⟨?_, ?_⟩⟩
        · exact (m2.2.1 53 (by unfold T54; decide) i).trans (AA i i0 i1).1
        · rw [hVS.1] at i1; exact m3 i i0 i1
      · refine ⟨g6, fun i i0 i1 => ⟨?_, ?_⟩⟩
        · exact (m2.2.1 53 (by unfold T54; decide) i).trans (AA i i0 i1).1
        · rw [hVS.1] at i1; exact m3 i i0 i1
    · rw [if_neg c2, if_neg c2, lay107 hf1]
      refine ⟨_, frm_sF (frm_sF a1 ⟨rfl, Or.inr (Or.inl rfl)⟩) ⟨rfl, Or.inr (Or.inr rfl)⟩, rfl, fun _ => ?_, A6, AA⟩
      exact ⟨by show gF w1 50 7 + _ = _; rw [A7], rfl, A6, AA⟩
  · rw [if_neg (by rw [c]; decide), q1]
    exact ⟨w1, a1, by rw [c]; rfl, fun h => absurd (c.symm.trans h) (by decide), q2⟩
theorem layM17 {f : Rw} (hV : VB f) : ∀ (cnt n : Nat) (p : Int) (w : Wd) (st : Ly), cR w = f → gP w 50 3 = 51 → 0 ≤ p → p + cnt = f 9 → VS f (firF f p) st → AG9 w st → cnt < n →
    ∃ w', frm SL9 TL9 w w' ∧ p_X9_lay_17 n p w = some ((lyF f cnt p st).1, w') ∧ AR9 w' (lyF f cnt p st).1 (lyF f cnt p st).2.2.2.1 (lyF f cnt p st).2.2.2.2 := by
  have h9 := hV.p
  intro cnt
  induction cnt with
  | zero =>
    intro n p w st hf hp h0 h1 hS hA h5
    obtain ⟨n', rfl⟩ : ∃ n', n = n' + 1 := ⟨n - 1, by omega⟩
    refine ⟨w, frm_refl w, ?_, hA.2.2⟩
    simp only [p_X9_lay_17]
    rw [if_neg (by decide), cRe hf]
    simp (disch := omega) only [lt32_o]
    rw [if_neg (by omega)]
    exact congrArg (fun x => some (x, w)) hA.2.2.1
  | succ cnt ih =>
    intro n p w st hf hp h0 h1 hS hA h5
    obtain ⟨n', rfl⟩ : ∃ n', n = n' + 1 := ⟨n - 1, by omega⟩
    obtain ⟨w1, a1, a2, a3, a4⟩ := layPart9 hV hf hp h0 (by omega) hS hA
    simp only [p_X9_lay_17]
    rw [if_neg (by decide), cRe hf]
    simp (disch := omega) only [lt32_o]
    rw [if_pos (by omega), a2, Option.bind_some]
    simp only [eq32_b2]
    unfold lyF
    by_cases c : (lpF f p st).1 = true
    · rw [if_pos c, if_neg (by rw [c]; decide)]
      obtain ⟨w', b1, b2', b3⟩ := ih n' (p + 1) w1 (lpF f p st).2 ((cR_frm a1 hp (by unfold TL9; decide)).trans hf) ((a1.2.2 _ _).trans hp) (by omega) (by omega) ((lpF_ok hV h0 (by omega) hS hS.2.2.1.2).1 c) (a3 c) (by omega)
      exact ⟨w', frm_trans a1 b1, b2', b3⟩
    · rw [if_neg c, if_pos (bfF c)]
      exact ⟨w1, a1, congrArg (fun x => some (x, w1)) a4.1, a4⟩
theorem lay9 {f : Rw} (hV : VB f) {w : Wd} (hf : cR w = f) (hp : gP w 50 3 = 51) :
    ∃ w', frm SL9 TL9 w w' ∧ p_X9_lay w = some (nLF f, w') ∧ AR9 w' (nLF f) (rLF f) (cLF f) := by
  have h9 := hV.p
  unfold p_X9_lay
  rw [Option.bind_some]
  have hfr : frm SL9 TL9 w (sF (sF (sF w 50 6 0) 50 7 0) 50 8 0) := frm_sF (frm_sF (frm_sF (frm_refl w) ⟨rfl, Or.inl rfl⟩) ⟨rfl, Or.inr (Or.inl rfl)⟩) ⟨rfl, Or.inr (Or.inr rfl)⟩
  obtain ⟨w', a1, a2, a3⟩ := layM17 hV (f 9).toNat FU 0 (sF (sF (sF w 50 6 0) 50 7 0) 50 8 0) L0 ((cR_frm hfr hp (by unfold TL9; decide)).trans hf) hp (by decide) (by omega) VS_0 ⟨rfl, rfl, rfl, fun i i0 i1 => absurd i1 (by show ¬ i < 0; omega)⟩ (by have : FU = 1000000 := rfl; omega)
  exact ⟨w', frm_trans hfr a1, a2, a3⟩
