/-! ===== the statements of the gap and of the chisel ===== -/
theorem nf_upd {f : Rw} {i v : Int} (h : i < 11) : nfF (upd1 f i v) = nfF f := sm_congr _ fun k k0 k1 => upd1_n f v (by omega)
section GC
variable {w m : Wd} {B : Int → Int} {N : Int} {f : Rw}
theorem gap_ST (h : PG w m B N f) : ∃ r w' m', p_X3_readGap 116 w = some (b2 r, w') ∧ p_X9_parseGap m = some m' ∧ ST w m B N r w' m' := by
  have iT : ¬ eq32 (b2 true) 0 = true := by decide +kernel
  have iF : eq32 (b2 false) 0 = true := by decide +kernel
  have n2 : ¬ (inb 2 1099 = false) := by decide
  obtain ⟨hP, ⟨hp, h52⟩, hS, hVD, hF1, ⟨hF2, hF3, hF4⟩, hF5, hF6⟩ := h
  have h : PG w m B N f := ⟨hP, ⟨hp, h52⟩, hS, hVD, hF1, ⟨hF2, hF3, hF4⟩, hF5, hF6⟩
  unfold p_X3_readGap p_X9_parseGap
  by_cases c : gF w 9 5 = 0
  · have c' : gF m 50 26 = 0 := by omega
    rw [c, c', if_pos e00, errsIf_0 hP.2.2.1, Option.bind_some]
    have fA : frm (fun o k => o = 9 ∧ k = 5) T0 w (sF w 9 5 1) := frm_sF (frm_refl w) ⟨rfl, rfl⟩
    have fB : frm (fun o k => o = 50 ∧ k = 26) T0 m (sF m 50 26 1) := frm_sF (frm_refl m) ⟨rfl, rfl⟩
    have h1 : PG (sF w 9 5 1) (sF m 50 26 1) B N f := by
      refine ⟨hP.fr fA fB (fun k q => by omega) (by omega) id (fun k k0 k1 q => by omega) id, ⟨hp, h52⟩, hS.fr fA (fun d k _ q => by omega) (fun d _ q => q), hVD, hF1, ⟨rfl, hF3, hF4⟩, ?_, hF6⟩
      rw [gF_sF, if_pos ⟨rfl, rfl⟩]; decide
    have hmu : mu (sF w 9 5 1) = mu w + 1 := by
      unfold mu
      rw [gF_sF, if_neg (by decide), gF_sF, if_pos ⟨rfl, rfl⟩, gF_sF, if_neg (by decide), gF_sF, if_neg (by decide)]; omega
    have fA' : frm SPc TPc w (sF w 9 5 1) := frm_mono fA (fun o k q => by unfold SPc; omega) (fun _ q => absurd q id)
    have fB' : frm SPm TPm m (sF m 50 26 1) := frm_mono fB (fun o k q => by unfold SPm; omega) (fun _ q => absurd q id)
    generalize sF w 9 5 1 = wa at *
    generalize sF m 50 26 1 = ma at *
    obtain ⟨w1, m1, d1, d2, d3, d4, d5⟩ := step2 h1.1
    have h2 := h1.tok d5 (ft8 d3) d4
    obtain ⟨r, v, w2, m2, e1, e2, e3, e4, e5⟩ := num_o d5 (lo := 0) (hi := 3) (by decide)
    rw [d1, Option.bind_some, d2, Option.bind_some, e1, Option.bind_some, e2, Option.bind_some]
    dsimp only
    rw [if_neg n2, h2.2.1.1]
    rcases e4 with ⟨rfl, g1, g2, g3⟩ | ⟨rfl, g1, g2, g3⟩
    · have h3 := h2.tok g1 g2 g3
      rw [if_neg iT, e5 rfl]
      have fC : frm (fun o k => o = 116 ∧ k = 2) T0 w2 (sF w2 116 2 v) := frm_sF (frm_refl w2) ⟨rfl, rfl⟩
      have fD : frm S0 (fun o => o = 52) m2 (sA m2 52 2 v) := frm_sA (frm_refl m2) rfl
      have hV := hVD.1
      have hun : ∀ i, i ≠ 2 → upd1 f 2 v i = f i := fun i hi => upd1_n f v hi
      have hxn : ∀ i, i ≠ 2 → fx (upd1 f 2 v) i = fx f i := fun i hi => by
        unfold fx
        rw [hun 3 (by decide)]
        unfold upd1
        by_cases q : i = 5
        · rw [if_pos q, if_pos q]
        · rw [if_neg q, if_neg q, if_neg hi]
      have hx2 : fx (upd1 f 2 v) 2 = v := by rw [fx_n (by decide), upd1_s]
      have h4 : PG (sF w2 116 2 v) (sA m2 52 2 v) B N (upd1 f 2 v) := by
        have hS3 := h3.2.2.1
        refine ⟨g1.fr fC fD (fun k q => absurd q.1 (by decide)) (fun q => absurd q.1 (by decide)) id (fun _ _ _ q => q) (by decide), ⟨h3.2.1.1, by rw [gA_upd, h3.2.1.2]⟩, ?_, ⟨?_, ?_, ?_, ?_, ?_, ?_⟩, h3.2.2.2.2.1, ⟨h3.2.2.2.2.2.1.1, h3.2.2.2.2.2.1.2.1, by rw [nf_upd (by decide)]; exact h3.2.2.2.2.2.1.2.2⟩, h3.2.2.2.2.2.2⟩
        · refine hS3.of (fun i hi => hxn i (by omega)) ?_ ?_ ?_ (fun k k0 k1 => ?_) (fun k => ?_) (fun d _ _ i => rfl) (fun r r0 r1 i hi => ?_) (fun c r c0 c1 r0 r1 q => ?_)
          · rw [hxn 0 (by decide)]; exact hS3.1.1
          · rw [hxn 1 (by decide)]; exact hS3.1.2.1
          · rw [hx2]; rfl
          · exact fC.1 116 k (by omega)
          · exact fC.1 127 k (by omega)
          · rw [show fcF (fx (upd1 f 2 v)) i r = fcF (fx f) i r from hxn _ (by omega)]; exact hS3.2.2.1 r r0 r1 i hi
          · rw [show fcF (fx (upd1 f 2 v)) c r = fcF (fx f) c r from hxn _ (by omega)] at q
            unfold isCF
            rw [hxn 0 (by decide), hxn 1 (by decide)]
            exact hS3.2.2.2.2.2.2 c r c0 c1 r0 r1 q
        · refine VB_of hV (fun i hi => hun i (by omega)) (hun 0 (by decide)) (by rw [hun 1 (by decide)]; exact hV.r) (by rw [upd1_s]; exact e3) (fun c r c0 c1 r0 r1 => ?_)
          rw [show fcF (upd1 f 2 v) c r = fcF f c r from hun _ (by omega)]; exact hV.fc c0 c1 r0 r1
        · rw [hun 1 (by decide)]; exact hVD.2.1
        · rw [hun 3 (by decide)]; exact hVD.2.2.1
        · rw [hun 4 (by decide)]; exact hVD.2.2.2.1
        · rw [hun 6 (by decide), hun 7 (by decide), hun 8 (by decide)]; exact hVD.2.2.2.2.1
        · rw [nf_upd (by decide)]; exact hVD.2.2.2.2.2
      have hmu2 : mu (sF w2 116 2 v) = mu w2 := by
        unfold mu
        rw [gF_sF, if_neg (by decide), gF_sF, if_neg (by decide), gF_sF, if_neg (by decide), gF_sF, if_neg (by decide)]
      obtain ⟨r, w3, m3, i1, i2, i3⟩ := end_ST h4 (w0 := w) (m0 := m)
        (frm_trans fA' (frm_trans (ftc (ft8 d3)) (frm_trans (ftc g2) (frm_mono fC (fun o k q => by unfold SPc; omega) (fun _ q => absurd q id)))))
        (frm_trans fB' (frm_trans (fsc d4) (frm_trans (fsc g3) (frm_mono fD (fun _ _ q => absurd q id) (fun _ q => q)))))
        (by rw [hmu2, mu_tok g2, mu_tok (ft8 d3), hmu]; exact Int.le_refl _)
      rw [i1, Option.bind_some, i2, Option.bind_some]
      exact ⟨r, w3, m3, zr_b2 r w3, rfl, i3⟩
    · have hx1 : IDL (sA m2 52 2 v) := g1.2.2
      rw [if_pos iF, semicolon_x hx1, Option.bind_some]
      exact ⟨false, w2, _, rfl, rfl, frm_trans fA' (frm_trans (ftc (ft8 d3)) (fte g2)), frm_sA (frm_trans fB' (frm_trans (fsc d4) (fse g3))) rfl, Or.inr ⟨rfl, g1⟩⟩
  · have c1 : gF w 9 5 = 1 := by omega
    have c' : gF m 50 26 = 1 := by omega
    obtain ⟨w1, m1, f1, f2, f3, f4, f5⟩ := bad2 hP (c := 3) (by decide)
    have hx1 : IDL (sF m1 50 26 1) := f3.2.2
    have hx2 : IDL (sA (sF m1 50 26 1) 52 2 0) := f3.2.2
    have hp1 : gP (sF m1 50 26 1) 50 3 = 52 := (f5.2.2 _ _).trans hp
    rw [c1, c', if_neg e10', errsIf_1 hP.2.2.1, f1, Option.bind_some, f2, Option.bind_some, goOn_x hx1, Option.bind_some, number_x hx1, Option.bind_some]
    dsimp only
    rw [if_neg n2, hp1, semicolon_x hx2, Option.bind_some]
    exact ⟨false, w1, _, zr_0 w1, rfl, fte f4, frm_sA (frm_sF (fse f5) (by unfold SPm; omega)) rfl, Or.inr ⟨rfl, f3⟩⟩
theorem chisel_ST (h : PG w m B N f) : ∃ r w' m', p_X3_readChisel 116 w = some (b2 r, w') ∧ p_X9_parseChisel m = some m' ∧ ST w m B N r w' m' := by
  have iT : ¬ eq32 (b2 true) 0 = true := by decide +kernel
  have iF : eq32 (b2 false) 0 = true := by decide +kernel
  have n3 : ¬ (inb 3 1099 = false) := by decide
  have n4 : ¬ (inb 4 1099 = false) := by decide
  obtain ⟨hP, ⟨hp, h52⟩, hS, hVD, hF1, ⟨hF2, hF3, hF4⟩, hF5, hF6⟩ := h
  have h : PG w m B N f := ⟨hP, ⟨hp, h52⟩, hS, hVD, hF1, ⟨hF2, hF3, hF4⟩, hF5, hF6⟩
  unfold p_X3_readChisel p_X9_parseChisel
  by_cases c : gF w 9 6 = 0
  · have c' : gF m 50 27 = 0 := by omega
    rw [c, c', if_pos e00, errsIf_0 hP.2.2.1, Option.bind_some]
    have fA : frm (fun o k => o = 9 ∧ k = 6) T0 w (sF w 9 6 1) := frm_sF (frm_refl w) ⟨rfl, rfl⟩
    have fB : frm (fun o k => o = 50 ∧ k = 27) T0 m (sF m 50 27 1) := frm_sF (frm_refl m) ⟨rfl, rfl⟩
    have h1 : PG (sF w 9 6 1) (sF m 50 27 1) B N f := by
      refine ⟨hP.fr fA fB (fun k q => by omega) (by omega) id (fun k k0 k1 q => by omega) id, ⟨hp, h52⟩, hS.fr fA (fun d k _ q => by omega) (fun d _ q => q), hVD, hF1, ⟨hF2, rfl, hF4⟩, hF5, ?_⟩
      rw [gF_sF, if_pos ⟨rfl, rfl⟩]; decide
    have hmu : mu (sF w 9 6 1) = mu w + 1 := by
      unfold mu
      rw [gF_sF, if_neg (by decide), gF_sF, if_neg (by decide), gF_sF, if_pos ⟨rfl, rfl⟩, gF_sF, if_neg (by decide)]; omega
    have fA' : frm SPc TPc w (sF w 9 6 1) := frm_mono fA (fun o k q => by unfold SPc; omega) (fun _ q => absurd q id)
    have fB' : frm SPm TPm m (sF m 50 27 1) := frm_mono fB (fun o k q => by unfold SPm; omega) (fun _ q => absurd q id)
    generalize sF w 9 6 1 = wa at *
    generalize sF m 50 27 1 = ma at *
    obtain ⟨w1, m1, d1, d2, d3, d4, d5⟩ := step2 h1.1
    have h2 := h1.tok d5 (ft8 d3) d4
    obtain ⟨r, v, w2, m2, e1, e2, e3, e4, e5⟩ := num_o d5 (lo := 1) (hi := 999) (by decide)
    rw [d1, Option.bind_some, d2, Option.bind_some, e1, Option.bind_some, e2, Option.bind_some]
    dsimp only
    rw [if_neg n3, h2.2.1.1]
    rcases e4 with ⟨rfl, g1, g2, g3⟩ | ⟨rfl, g1, g2, g3⟩
    · have h3 := h2.tok g1 g2 g3
      have fD : frm S0 (fun o => o = 52) m2 (sA m2 52 3 v) := frm_sA (frm_refl m2) rfl
      have g4 : PT w2 (sA m2 52 3 v) B N := g1.fr (frm_refl (S := S0) (T := T0) w2) fD (fun _ q => q) id id (fun _ _ _ q => q) (by decide)
      obtain ⟨r', v', w3, m3, i1, i2, i3, i4, i5⟩ := num_o g4 (lo := 0) (hi := 99) (by decide)
      rw [if_neg iT, i1, Option.bind_some, i2, Option.bind_some]
      dsimp only
      rw [if_neg n4, show gP (sA m2 52 3 v) 50 3 = 52 from h3.2.1.1, Option.bind_some, e5 rfl]
      rcases i4 with ⟨rfl, j1, j2, j3⟩ | ⟨rfl, j1, j2, j3⟩
      · rw [if_neg iT, i5 rfl]
        have hV := hVD.1
        have hr : p_X1_renew (116 + 11) v v' w3 = some (sF (sF (sF w3 127 0 v) 127 1 v') 127 2 v) := rfl
        have fC : frm (fun o k => o = 127 ∧ k < 3) T0 w3 (sF (sF (sF w3 127 0 v) 127 1 v') 127 2 v) := frm_sF (frm_sF (frm_sF (frm_refl w3) ⟨rfl, by decide⟩) ⟨rfl, by decide⟩) ⟨rfl, by decide⟩
        have fE : frm S0 (fun o => o = 52) m3 (sA m3 52 4 v') := frm_sA (frm_refl m3) rfl
        have hun : ∀ i, i ≠ 3 → i ≠ 4 → upd1 (upd1 f 3 v) 4 v' i = f i := fun i hi hj => (upd1_n _ v' hj).trans (upd1_n f v hi)
        have hu3 : upd1 (upd1 f 3 v) 4 v' 3 = v := by rw [upd1_n _ v' (by decide), upd1_s]
        have hxn : ∀ i, ¬ (3 ≤ i ∧ i ≤ 8) → fx (upd1 (upd1 f 3 v) 4 v') i = fx f i := fun i hi => by
          rw [fx_n (by omega), fx_n (by omega), hun i (by omega) (by omega)]
        have h52' : gA (sA m3 52 4 v') 52 = upd1 (upd1 f 3 v) 4 v' := by
          rw [gA_upd]
          refine congrArg (fun z => upd1 z 4 v') ?_
          rw [show gA m3 52 = gA (sA m2 52 3 v) 52 from funext fun i => j3.2.1 52 id i, gA_upd, h3.2.1.2]
        have hS3 : RS w3 116 (fx f) := h3.2.2.1.fr j2 (fun d k _ q => by unfold Tc at q; omega) (fun d _ q => q)
        have hFL : FLG w3 m3 f := by
          have hq := h3.2.2.2.2
          have : FLG w2 (sA m2 52 3 v) f := hq
          exact this.fr j2 j3 (fun k hk q => by unfold Tc at q; omega) (fun k k0 k1 q => by unfold Ssc at q; omega)
        have h4 : PG (sF (sF (sF w3 127 0 v) 127 1 v') 127 2 v) (sA m3 52 4 v') B N (upd1 (upd1 f 3 v) 4 v') := by
          refine ⟨j1.fr fC fE (fun k q => absurd q.1 (by decide)) (fun q => absurd q.1 (by decide)) id (fun _ _ _ q => q) (by decide), ⟨(j3.2.2 _ _).trans h3.2.1.1, h52'⟩, ?_, ⟨?_, ?_, ?_, ?_, ?_, ?_⟩, hFL.1, ⟨hFL.2.1.1, hFL.2.1.2.1, by rw [nf_upd (by decide), nf_upd (by decide)]; exact hFL.2.1.2.2⟩, hFL.2.2⟩
          · refine hS3.sam (fun i hi => hxn i hi) (fun k _ => rfl) ?_ ⟨?_, ?_, ?_, ?_, ?_⟩ (fun _ _ _ => rfl)
            · rw [fx_n (by decide), hun 8 (by decide) (by decide)]; exact hS3.1.2.2.2.2.2.trans (fx_n (by decide))
            · rw [fx_n (by decide), hu3]; rfl
            · rw [fx_n (by decide), upd1_s]; rfl
            · unfold fx; rw [upd1_s, hu3]; rfl
            · rw [fx_n (by decide), hun 6 (by decide) (by decide)]; exact hS3.2.1.2.2.2.1.trans (fx_n (by decide))
            · rw [fx_n (by decide), hun 7 (by decide) (by decide)]; exact hS3.2.1.2.2.2.2.trans (fx_n (by decide))
          · exact (upd1_SAM (upd1_SAM (fun _ _ => rfl) (by decide)) (by decide) : SAM f (upd1 (upd1 f 3 v) 4 v')).VB hV
          · rw [hun 1 (by decide) (by decide)]; exact hVD.2.1
          · rw [hu3]; exact e3
          · rw [upd1_s]; exact i3
          · rw [hun 6 (by decide) (by decide), hun 7 (by decide) (by decide), hun 8 (by decide) (by decide)]; exact hVD.2.2.2.2.1
          · rw [nf_upd (by decide), nf_upd (by decide)]; exact hVD.2.2.2.2.2
        have hmu2 : mu (sF (sF (sF w3 127 0 v) 127 1 v') 127 2 v) = mu w3 := by
          unfold mu
          rw [fC.1 9 4 (by omega), fC.1 9 5 (by omega), fC.1 9 6 (by omega), fC.1 116 4 (by omega)]
        obtain ⟨r, w4, m4, k1, k2, k3⟩ := end_ST h4 (w0 := w) (m0 := m)
          (frm_trans fA' (frm_trans (ftc (ft8 d3)) (frm_trans (ftc g2) (frm_trans (ftc j2) (frm_mono fC (fun o k q => by unfold SPc; omega) (fun _ q => absurd q id))))))
          (frm_trans fB' (frm_trans (fsc d4) (frm_trans (fsc g3) (frm_trans (frm_mono fD (fun _ _ q => absurd q id) (fun _ q => q)) (frm_trans (fsc j3) (frm_mono fE (fun _ _ q => absurd q id) (fun _ q => q)))))))
          (by rw [hmu2, mu_tok j2, mu_tok g2, mu_tok (ft8 d3), hmu]; exact Int.le_refl _)
        rw [hr, Option.bind_some, k1, Option.bind_some, k2, Option.bind_some]
        exact ⟨r, w4, m4, zr_b2 r w4, rfl, k3⟩
      · have hx1 : IDL (sA m3 52 4 v') := j1.2.2
        rw [if_pos iF, semicolon_x hx1, Option.bind_some]
        exact ⟨false, w3, _, rfl, rfl, frm_trans fA' (frm_trans (ftc (ft8 d3)) (frm_trans (ftc g2) (fte j2))), frm_sA (frm_trans (frm_sA (frm_trans fB' (frm_trans (fsc d4) (fsc g3))) rfl) (fse j3)) rfl, Or.inr ⟨rfl, j1⟩⟩
    · have hx1 : IDL (sA m2 52 3 v) := g1.2.2
      have hx2 : IDL (sA (sA m2 52 3 v) 52 4 0) := g1.2.2
      have hp2 : gP m2 50 3 = 52 := (g3.2.2 _ _).trans h2.2.1.1
      rw [if_pos iF, number_x hx1, Option.bind_some]
      dsimp only
      rw [if_neg n4, show gP (sA m2 52 3 v) 50 3 = 52 from hp2, Option.bind_some, semicolon_x hx2, Option.bind_some]
      exact ⟨false, w2, _, rfl, rfl, frm_trans fA' (frm_trans (ftc (ft8 d3)) (fte g2)), frm_sA (frm_sA (frm_trans fB' (frm_trans (fsc d4) (fse g3))) rfl) rfl, Or.inr ⟨rfl, g1⟩⟩
  · have c1 : gF w 9 6 = 1 := by omega
    have c' : gF m 50 27 = 1 := by omega
    obtain ⟨w1, m1, f1, f2, f3, f4, f5⟩ := bad2 hP (c := 3) (by decide)
    have hx1 : IDL (sF m1 50 27 1) := f3.2.2
    have hx2 : IDL (sA (sF m1 50 27 1) 52 3 1) := f3.2.2
    have hx3 : IDL (sA (sA (sF m1 50 27 1) 52 3 1) 52 4 0) := f3.2.2
    have hp1 : gP (sF m1 50 27 1) 50 3 = 52 := (f5.2.2 _ _).trans hp
    rw [c1, c', if_neg e10', errsIf_1 hP.2.2.1, f1, Option.bind_some, f2, Option.bind_some, goOn_x hx1, Option.bind_some, number_x hx1, Option.bind_some]
    dsimp only
    rw [if_neg n3, hp1, number_x hx2, Option.bind_some]
    dsimp only
    rw [if_neg n4, show gP (sA (sF m1 50 27 1) 52 3 1) 50 3 = 52 from hp1, Option.bind_some, semicolon_x hx3, Option.bind_some]
    exact ⟨false, w1, _, zr_0 w1, rfl, fte f4, frm_sA (frm_sA (frm_sF (fse f5) (by unfold SPm; omega)) rfl) rfl, Or.inr ⟨rfl, f3⟩⟩
end GC
