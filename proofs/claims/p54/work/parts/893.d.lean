/-! ===== the statements of the parts ===== -/
section PA
variable {w m : Wd} {B : Int → Int} {N : Int} {f : Rw}
theorem plw_o {s e K : Int} (hk : TKat w m B N s e K) (hN : N ≤ 500) : p_X7_isPlainWord w = some (b2 (decide ((K = 1 ∨ K = 2) ∧ e - s ≤ 12)), w) ∧ p_X9_isW m = some (b2 (decide (K = 1 ∨ K = 2)), m) := by
  have hKr := kk_rng hk
  have h16 : p_X7_isPlainWord_16 w = some (b2 (decide (e - s ≤ 12)), w) := by
    unfold p_X7_isPlainWord_16
    rw [hk.2.1.2.1]
    by_cases c : e - s ≤ 12
    · rw [if_neg (show ¬ lt32 12 (e - s) = true by rw [lt32_o (by have := hk.1; omega)]; omega), decide_eq_true c]; rfl
    · rw [if_pos (show lt32 12 (e - s) = true by rw [lt32_o (by have := hk.1; omega)]; omega), decide_eq_false c]; rfl
  unfold p_X7_isPlainWord p_X9_isW p_X9_isW_16
  rw [hk.2.1.2.2, hk.2.2.1.2.2, h16]
  by_cases c1 : K = 1
  · rw [if_pos (show eq32 K 1 = true by rw [eq32_o (by omega)]; exact c1), if_pos (show eq32 K 1 = true by rw [eq32_o (by omega)]; exact c1), decide_eq_true (show K = 1 ∨ K = 2 from Or.inl c1), decide_eq_decide.mpr (show ((K = 1 ∨ K = 2) ∧ e - s ≤ 12) ↔ e - s ≤ 12 from ⟨fun q => q.2, fun q => ⟨Or.inl c1, q⟩⟩)]
    exact ⟨rfl, rfl⟩
  · rw [if_neg (show ¬ eq32 K 1 = true by rw [eq32_o (by omega)]; exact c1), if_neg (show ¬ eq32 K 1 = true by rw [eq32_o (by omega)]; exact c1)]
    by_cases c2 : K = 2
    · rw [if_pos (show eq32 K 2 = true by rw [eq32_o (by omega)]; exact c2), if_pos (show eq32 K 2 = true by rw [eq32_o (by omega)]; exact c2), decide_eq_true (show K = 1 ∨ K = 2 from Or.inr c2), decide_eq_decide.mpr (show ((K = 1 ∨ K = 2) ∧ e - s ≤ 12) ↔ e - s ≤ 12 from ⟨fun q => q.2, fun q => ⟨Or.inr c2, q⟩⟩)]
      exact ⟨rfl, rfl⟩
    · rw [if_neg (show ¬ eq32 K 2 = true by rw [eq32_o (by omega)]; exact c2), if_neg (show ¬ eq32 K 2 = true by rw [eq32_o (by omega)]; exact c2), decide_eq_false (show ¬ (K = 1 ∨ K = 2) by omega), decide_eq_false (show ¬ ((K = 1 ∨ K = 2) ∧ e - s ≤ 12) by omega)]
      exact ⟨rfl, rfl⟩
theorem wb_isB {s e K : Int} (hk : TKat w m B N s e K) (c : K = 1 ∨ K = 2) : s < e ∧ ∀ i, s ≤ i → i < e → isB (B i) ∧ B i ≤ 127 := by
  rcases hk.2.2.2.1 with q | ⟨_, _, q3, _, q5, _⟩
  · omega
  · refine ⟨q3, fun i i0 i1 => ?_⟩
    have := q5 (by omega) i i0 i1
    unfold isB
    rcases c with c | c
    · rw [c] at this; have := kd_1.mp this; omega
    · rw [c] at this; have := kd_2.mp this; omega
theorem takeW75_e {m1 : Wd} {s : Int} (h : p_X9_errsIf s 5 m = some m1) (hx : IDL m1) : p_X9_takeW_75 s m = some m1 := by
  unfold p_X9_takeW_75 p_X9_takeW_90
  rw [h, Option.bind_some, good_x hx, Option.bind_some]
  dsimp only
  rw [if_pos e00, goOn_x hx, Option.bind_some]
theorem takeW53_e {m1 : Wd} {s : Int} (h : p_X9_errsIf s 4 m = some m1) (hx : IDL m1) : p_X9_takeW_53 s m = some m1 := by
  unfold p_X9_takeW_53
  rw [h, Option.bind_some, if_neg (show ¬ (inb 10 1099 = false) by decide), takeW75_x hx, takeW75_x hx, ite_self]
theorem takeW27_e {m1 : Wd} {s : Int} (h : p_X9_errsIf s 1 m = some m1) (hx : IDL m1) : p_X9_takeW_27 s m = some m1 := by
  unfold p_X9_takeW_27
  rw [h, Option.bind_some, wide_o (f := cR m1) rfl, Option.bind_some]
  dsimp only
  rw [takeW53_x hx, takeW53_x hx, ite_self]
def PP (w m : Wd) (B : Int → Int) (N : Int) (f : Rw) (kind W0 : Int) : Prop := PT w m B N ∧ (gP m 50 3 = 52 ∧ gA m 52 = f) ∧ RS w 116 (fx (opW f kind (f 10 - W0))) ∧ PV f W0 ∧
  (2 ≤ f 1 ∧ (1 ≤ f 3 ∧ f 3 ≤ 999) ∧ (0 ≤ f 4 ∧ f 4 ≤ 99) ∧ (f 6 = 0 ∧ f 7 = 0 ∧ f 8 = 0) ∧ nfF f ≤ 40) ∧ FLG w m f
theorem PP.tok {w' m' : Wd} {kind W0 : Int} (h : PP w m B N f kind W0) (hP : PT w' m' B N) (hw : frm Tc T0 w w') (hm : frm Ssc T0 m m') : PP w' m' B N f kind W0 := by
  obtain ⟨h1, ⟨h2, h3⟩, h4, h5, h5', h6⟩ := h
  exact ⟨hP, ⟨(hm.2.2 _ _).trans h2, (funext fun i => hm.2.1 52 id i).trans h3⟩, h4.fr hw (fun d k _ q => by unfold Tc at q; omega) (fun d _ q => q), h5, h5', h6.fr hw hm (fun k hk q => by unfold Tc at q; omega) (fun k k0 k1 q => by unfold Ssc at q; omega)⟩
theorem PP.rc {kind W0 : Int} (h : PP w m B N f kind W0) : cR m = f := by
  unfold cR; rw [h.2.1.1]; exact h.2.1.2
theorem word_it {kind W0 : Int} (h : PP w m B N f kind W0) : ∃ r w' m', p_X3_readWord 116 w = some (b2 r, w') ∧ p_X9_takeW m = some m' ∧ frm SPc TPc w w' ∧ frm SPm TPm m m' ∧
    ((r = true ∧ (∃ f', PP w' m' B N f' kind W0 ∧ f' 10 = f 10 + 1) ∧ mu w' = mu w) ∨ (r = false ∧ BAD w' m')) := by
  obtain ⟨hP, ⟨hp, h52⟩, hS, hPV, hD, hF⟩ := h
  have h : PP w m B N f kind W0 := ⟨hP, ⟨hp, h52⟩, hS, hPV, hD, hF⟩
  have hP0 := hP
  obtain ⟨hC, hM, h24, s, e, K, hk⟩ := hP
  have hN := hC.2.1
  obtain ⟨pl1, pl2⟩ := plw_o hk hN.2
  have hrs := hk.1
  obtain ⟨v0, v1, v2, v9, v10, -, -, vw, -, -⟩ := id hPV
  have g0 : gF w 116 0 = f 0 := hS.1.1.trans ((fx_n (by decide)).trans (opW_n (by omega)))
  have g7 : gF w 116 7 = f 10 := hS.1.2.2.2.2.1.trans ((fx_n (by decide)).trans (opW_n (by omega)))
  have g4 : gF w 116 4 = f 9 + 1 := hS.1.2.2.2.1.trans ((fx_n (by decide)).trans opW_9)
  have m10 : gA m 52 10 = f 10 := congrFun h52 10
  unfold p_X3_readWord p_X9_takeW p_X9_takeW_22
  rw [pl1, Option.bind_some, pl2, Option.bind_some]
  simp only [eq32_b2]
  rw [hk.2.2.1.1, hk.2.2.1.2.1, hk.2.1.1, hk.2.1.2.1, g0, g7]
  by_cases c : (K = 1 ∨ K = 2) ∧ e - s ≤ 12
  · obtain ⟨hse, hB⟩ := wb_isB hk c.1
    rw [decide_eq_true c, decide_eq_true c.1, if_neg (show ¬ true = false by decide), if_neg (show ¬ true = false by decide), if_neg (show ¬ lt32 12 (e - s) = true by rw [lt32_o (by omega)]; omega)]
    unfold p_X9_takeW_27
    rw [errsIf_0 h24, Option.bind_some, wide_o h.rc, Option.bind_some]
    dsimp only
    rw [hk.2.2.1.1, hk.2.2.1.2.1]
    by_cases d : f 0 < e - s
    · obtain ⟨w1, m1, f1, f2, f3, f4, f5⟩ := bad2 hP0 (c := 4) (by decide)
      rw [if_pos (show lt32 (f 0) (e - s) = true by rw [lt32_o (by omega)]; exact d), if_pos (show lt32 (f 0) (e - s) = true by rw [lt32_o (by omega)]; exact d), f1, Option.bind_some, takeW53_e ((errsIf_1 h24).trans f2) f3.2.2]
      exact ⟨false, w1, m1, zr_0 w1, rfl, fte f4, fse f5, Or.inr ⟨rfl, f3⟩⟩
    · rw [if_neg (show ¬ lt32 (f 0) (e - s) = true by rw [lt32_o (by omega)]; exact d), if_neg (show ¬ lt32 (f 0) (e - s) = true by rw [lt32_o (by omega)]; exact d)]
      unfold p_X9_takeW_53
      rw [errsIf_0 h24, Option.bind_some, if_neg (show ¬ (inb 10 1099 = false) by decide), hp, m10]
      by_cases g : f 10 = 60
      · obtain ⟨w1, m1, f1, f2, f3, f4, f5⟩ := bad2 hP0 (c := 5) (by decide)
        rw [if_neg (show ¬ lt32 (f 10) 60 = true by rw [lt32_o (by omega)]; omega), if_pos (show eq32 (f 10) 60 = true by rw [eq32_o (by omega)]; exact g), f1, Option.bind_some, takeW75_e ((errsIf_1 h24).trans f2) f3.2.2]
        exact ⟨false, w1, m1, zr_0 w1, rfl, fte f4, fse f5, Or.inr ⟨rfl, f3⟩⟩
      · rw [if_pos (show lt32 (f 10) 60 = true by rw [lt32_o (by omega)]; omega), if_neg (show ¬ eq32 (f 10) 60 = true by rw [eq32_o (by omega)]; exact g)]
        obtain ⟨m1, a1, a2, a3⟩ := addWord_o hM hp h52 hk.2.2.1.2.1 hk.2.2.1.1 ⟨hrs.1, hse, hrs.2.2⟩ c.2 (by omega) (fun i i0 i1 => (hB i i0 i1).2)
        have hwrd := fx_WRD (opW_WRD (kind := kind) (u := f 10 - W0) v9 (by omega) (fun v q0 q1 => (vw v q0 q1).2) a3) (by omega) (by omega)
        have hPV' := hPV.add a3 (by omega) (by omega) (fun i i0 i1 => (hB i i0 i1).1)
        obtain ⟨g1, g2, g3, g4'⟩ := id a3
        obtain ⟨w1, b1, b2', b3⟩ := takeWord_o (src := 3) (start := s) (len := e - s) SLo_1 hS hwrd (by omega) (by omega) (by omega) (fun v q0 q1 => by
            rw [show wnF (fx (opW f kind (f 10 - W0))) v = wnF f v from (fx_n (by omega)).trans (opW_n (by omega))]
            exact (vw v q0 q1).2) ⟨by omega, by rw [show ln (3 + 1) = 500 from rfl]; omega⟩ (by omega) (fun k k0 k1 => by
            rw [show wbF (fx (opW (gA m1 52) kind (f 10 - W0 + 1))) (f 10) k = wbF (gA m1 52) (f 10) k from (fx_n (by omega)).trans (opW_n (by rw [g4' 9 (by decide) (by omega)]; omega)), g3 k k0 k1]
            exact (hC.2.2 (s + k) (by omega) (by omega)).1.symm)
        have hP1 : PT w1 m1 B N := hP0.fr b2' a2 (fun k q => absurd q.1 (by decide)) (fun q => absurd q.1 (by decide)) (by unfold TWo; omega) (fun _ _ _ q => q) (by decide)
        have hG1 : PP w1 m1 B N (gA m1 52) kind W0 := by
          refine ⟨hP1, ⟨(a2.2.2 _ _).trans hp, rfl⟩, ?_, hPV', ?_, ?_⟩
          · rw [g1, show f 10 + 1 - W0 = f 10 - W0 + 1 by omega]; exact b3
          · rw [g4' 1 (by decide) (by omega), g4' 3 (by decide) (by omega), g4' 4 (by decide) (by omega), g4' 6 (by decide) (by omega), g4' 7 (by decide) (by omega), g4' 8 (by decide) (by omega), show nfF (gA m1 52) = nfF f from sm_congr _ fun i i0 i1 => g4' _ (by omega) (by omega)]
            exact hD
          · have := hF.fr b2' a2 (fun k _ q => absurd q.1 (by decide)) (fun k _ _ q => q)
            unfold FLG at this ⊢
            rw [show nfF (gA m1 52) = nfF f from sm_congr _ fun i i0 i1 => g4' _ (by omega) (by omega)]
            exact this
        obtain ⟨w2, m2, d1, d2, d3, d4, d5⟩ := step2 hP1
        unfold p_X9_takeW_75 p_X9_takeW_90
        rw [errsIf_0 h24, Option.bind_some, good_o h24, Option.bind_some]
        dsimp only
        rw [if_neg e10', a1, Option.bind_some, d2, Option.bind_some, b1, Option.bind_some, d1, Option.bind_some]
        have e4 : gF w1 116 4 = f 9 + 1 := b3.1.2.2.2.1.trans ((fx_n (by decide)).trans (opW_9.trans (by rw [g4' 9 (by decide) (by omega)])))
        refine ⟨true, w2, m2, rfl, rfl, frm_trans (frm_mono b2' (fun o k q => by have := q.1; unfold SPc; omega) (fun o q => by unfold TWo at q; unfold TPc; omega)) (ftc (ft8 d3)), frm_trans (frm_mono a2 (fun _ _ q => absurd q id) (fun _ q => q)) (fsc d4), Or.inl ⟨rfl, ⟨_, hG1.tok d5 (ft8 d3) d4, g1⟩, ?_⟩⟩
        rw [mu_tok (ft8 d3)]
        unfold mu
        rw [e4, g4, b2'.1 9 4 (fun q => absurd q.1 (by decide)), b2'.1 9 5 (fun q => absurd q.1 (by decide)), b2'.1 9 6 (fun q => absurd q.1 (by decide))]
  · obtain ⟨w1, m1, f1, f2, f3, f4, f5⟩ := bad2 hP0 (c := 1) (by decide)
    rw [decide_eq_false c, if_pos rfl, f1, Option.bind_some, takeW27_e ((errsIf_1 h24).trans f2) f3.2.2]
    refine ⟨false, w1, m1, zr_0 w1, ?_, fte f4, fse f5, Or.inr ⟨rfl, f3⟩⟩
    by_cases d : K = 1 ∨ K = 2
    · rw [decide_eq_true d, if_neg (show ¬ true = false by decide), if_pos (show lt32 12 (e - s) = true by rw [lt32_o (by omega)]; omega)]
    · rw [decide_eq_false d, if_pos rfl]
theorem addPartOf_o {kind W0 : Int} (hp : gP m 50 3 = 52) (h52 : gA m 52 = f) (h9 : 0 ≤ f 9 ∧ f 9 < 10) : ∃ m', p_X9_addPartOf kind W0 m = some m' ∧ frm S0 (fun o => o = 52) m m' ∧ gA m' 52 = opW f kind (f 10 - W0) := by
  have hv : ∀ i, gA m 52 i = f i := fun i => congrFun h52 i
  have i9 : (inb 9 1099 = false) = False := by decide
  have i10 : (inb 10 1099 = false) = False := by decide
  have ia : (inb ((299 + (2 * f 9)) + 0) 1099 = false) = False := inb_f (by omega)
  have ib : (inb ((299 + (2 * f 9)) + 1) 1099 = false) = False := inb_f (by omega)
  unfold p_X9_addPartOf
  simp only [hp, hv, gP_sA, Option.bind_some, i9, i10, ia, ib, if_false]
  refine ⟨_, rfl, frm_sA (frm_sA (frm_sA (frm_refl m) rfl) rfl) rfl, funext fun i => ?_⟩
  simp only [gA_sA, hv, true_and]
  unfold opW
  by_cases c9 : i = 9
  · rw [if_pos c9, if_pos c9, if_neg (by omega), if_neg (by omega)]
  · rw [if_neg c9, if_neg c9]
    by_cases c0 : i = 299 + 2 * f 9
    · rw [if_neg (by omega), if_pos (by omega), if_pos c0]
    · rw [if_neg c0]
      by_cases c1 : i = 299 + 2 * f 9 + 1
      · rw [if_pos c1, if_pos c1, if_neg (by omega)]
      · rw [if_neg c1, if_neg c1, if_neg (by omega)]
theorem p61_x {kind W0 : Int} (h : IDL m) : p_X9_parsePart_61 kind W0 m = some m := by
  unfold p_X9_parsePart_61
  rw [semicolon_x h, Option.bind_some, good_x h, Option.bind_some]
  dsimp only
  rw [if_pos e00]
theorem p38_x {kind W0 : Int} {n : Nat} (h : IDL m) : p_X9_parsePart_38 (n + 1) kind W0 m = some m := by
  simp only [p_X9_parsePart_38]
  rw [good_x h, Option.bind_some]
  dsimp only
  rw [if_pos e00, p61_x h]
theorem part_end {w0 m0 : Wd} {kind W0 : Int} (hk : 0 ≤ kind ∧ kind ≤ 2) (h : PP w m B N f kind W0) (h1 : W0 < f 10) (hw : frm SPc TPc w0 w) (hm : frm SPm TPm m0 m) (hmu : mu w0 + 1 ≤ mu w) :
    ∃ r w' m', p_X3_readPart_72 116 1 w = some (b2 r, w') ∧ p_X9_parsePart_61 kind W0 m = some m' ∧ ST w0 m0 B N r w' m' := by
  obtain ⟨r, w1, m1, a1, a2, a3⟩ := end_o h.1
  unfold p_X3_readPart_72 p_X9_parsePart_61
  rw [if_neg e10', a1, Option.bind_some, a2, Option.bind_some]
  dsimp only
  rcases a3 with ⟨rfl, o1, o2, o3⟩ | ⟨rfl, o1, o2, o3⟩
  · obtain ⟨hP, ⟨hp, h52⟩, hS, hPV, hD, hF⟩ := h.tok o1 o2 o3
    obtain ⟨m2, b1, b2', b3⟩ := addPartOf_o (kind := kind) (W0 := W0) hp h52 hPV.2.2.2.1
    rw [good_o o1.2.2.1, Option.bind_some]
    dsimp only
    rw [if_neg (show ¬ eq32 (b2 true) 0 = true by decide +kernel), if_neg e10', b1, Option.bind_some]
    have hn : ∀ i, i ≠ 9 → (i < 299 + 2 * f 9 ∨ 319 ≤ i) → opW f kind (f 10 - W0) i = f i := fun i hi hj => opW_n (by have := hPV.2.2.2.1; omega)
    have h9 := hPV.2.2.2.1
    have hnf : nfF (opW f kind (f 10 - W0)) = nfF f := sm_congr _ fun i i0 i1 => hn _ (by omega) (by omega)
    refine ⟨true, w1, m2, rfl, rfl, frm_trans hw (ftc o2), frm_trans (frm_trans hm (fsc o3)) (frm_mono b2' (fun _ _ q => absurd q id) (fun _ q => q)), Or.inl ⟨rfl, ⟨opW f kind (f 10 - W0), hP.fr (frm_refl (S := S0) (T := T0) w1) b2' (fun _ q => q) id id (fun _ _ _ q => q) (by decide), ⟨(b2'.2.2 _ _).trans hp, b3⟩, hS, ⟨hPV.close hk h1, ?_⟩, ?_⟩, by rw [mu_tok o2]; exact hmu⟩⟩
    · rw [hn 1 (by decide) (by omega), hn 3 (by decide) (by omega), hn 4 (by decide) (by omega), hn 6 (by decide) (by omega), hn 7 (by decide) (by omega), hn 8 (by decide) (by omega), hnf]
      exact hD
    · have := hF.fr (frm_refl (S := S0) (T := T0) w1) b2' (fun _ _ q => q) (fun _ _ _ q => q)
      unfold FLG at this ⊢
      rw [hnf]; exact this
  · rw [good_x o1.2.2, Option.bind_some]
    dsimp only
    rw [if_pos (show eq32 (b2 false) 0 = true by decide +kernel), if_pos e00]
    exact ⟨false, w1, m1, rfl, rfl, frm_trans hw (fte o2), frm_trans hm (fse o3), Or.inr ⟨rfl, o1⟩⟩
theorem part_lp {w0 m0 : Wd} {kind W0 : Int} (hk : 0 ≤ kind ∧ kind ≤ 2) : ∀ (j n n' : Nat) (x4 : Int) (w m : Wd) (f : Rw), PP w m B N f kind W0 → W0 < f 10 → frm SPc TPc w0 w → frm SPm TPm m0 m → mu w0 + 1 ≤ mu w → f 10 + j = 60 → 0 ≤ x4 → x4 ≤ f 10 → j + 2 < n → j + 2 < n' →
    ∃ r w' m', p_X3_readPart_36 116 n 1 x4 w = some (b2 r, w') ∧ p_X9_parsePart_38 n' kind W0 m = some m' ∧ ST w0 m0 B N r w' m' := by
  have iT : ¬ eq32 (b2 true) 0 = true := by decide +kernel
  have iF : eq32 (b2 false) 0 = true := by decide +kernel
  intro j
  induction j with
  | zero =>
    intro n n' x4 w m f h h1 hw hm hmu hj x0 x1 hn hn'
    obtain ⟨n, rfl⟩ : ∃ q, n = q + 2 := ⟨n - 2, by omega⟩
    obtain ⟨n', rfl⟩ : ∃ q, n' = q + 2 := ⟨n' - 2, by omega⟩
    obtain ⟨c, c1, c2⟩ := semi_o h.1
    simp only [p_X3_readPart_36, p_X9_parsePart_38]
    rw [if_pos (show lt32 x4 500 = true by rw [lt32_o (by omega)]; omega), if_neg e10', c1, Option.bind_some, good_o h.1.2.2.1, Option.bind_some]
    dsimp only
    rw [if_neg e10', c2, Option.bind_some]
    dsimp only
    cases c with
    | true =>
      rw [if_neg iT, if_neg iT]
      exact part_end hk h h1 hw hm hmu
    | false =>
      obtain ⟨r, w1, m1, d1, d2, d3, d4, d5⟩ := word_it h
      rw [if_pos iF, if_pos iF, d1, Option.bind_some, d2, Option.bind_some]
      rcases d5 with ⟨rfl, ⟨f', q1, q2⟩, q3⟩ | ⟨rfl, q1⟩
      · exfalso
        have := q1.2.2.2.1.2.2.2.2.1
        omega
      · have := p38_x (kind := kind) (W0 := W0) (n := n') q1.2.2
        simp only [p_X9_parsePart_38] at this
        rw [this]
        unfold p_X3_readPart_72
        rw [if_pos iF, ite_self]
        exact ⟨false, w1, m1, rfl, rfl, frm_trans hw d3, frm_trans hm d4, Or.inr ⟨rfl, q1⟩⟩
  | succ j ih =>
    intro n n' x4 w m f h h1 hw hm hmu hj x0 x1 hn hn'
    obtain ⟨n, rfl⟩ : ∃ q, n = q + 1 := ⟨n - 1, by omega⟩
    obtain ⟨n', rfl⟩ : ∃ q, n' = q + 1 := ⟨n' - 1, by omega⟩
    obtain ⟨c, c1, c2⟩ := semi_o h.1
    simp only [p_X3_readPart_36, p_X9_parsePart_38]
    rw [if_pos (show lt32 x4 500 = true by rw [lt32_o (by omega)]; omega), if_neg e10', c1, Option.bind_some, good_o h.1.2.2.1, Option.bind_some]
    dsimp only
    rw [if_neg e10', c2, Option.bind_some]
    dsimp only
    cases c with
    | true =>
      rw [if_neg iT, if_neg iT]
      exact part_end hk h h1 hw hm hmu
    | false =>
      obtain ⟨r, w1, m1, d1, d2, d3, d4, d5⟩ := word_it h
      rw [if_pos iF, if_pos iF, d1, Option.bind_some, d2, Option.bind_some]
      rcases d5 with ⟨rfl, ⟨f', q1, q2⟩, q3⟩ | ⟨rfl, q1⟩
      · exact ih n n' (x4 + 1) w1 m1 f' q1 (by omega) (frm_trans hw d3) (frm_trans hm d4) (by omega) (by omega) (by omega) (by omega) (by omega) (by omega)
      · obtain ⟨n, rfl⟩ : ∃ q, n = q + 1 := ⟨n - 1, by omega⟩
        obtain ⟨n', rfl⟩ : ∃ q, n' = q + 1 := ⟨n' - 1, by omega⟩
        rw [p38_x q1.2.2]
        simp only [p_X3_readPart_36]
        unfold p_X3_readPart_72
        rw [if_pos iF, if_pos iF, ite_self]
        exact ⟨false, w1, m1, rfl, rfl, frm_trans hw d3, frm_trans hm d4, Or.inr ⟨rfl, q1⟩⟩
theorem part_ST (h : PG w m B N f) {kind : Int} (hk : 0 ≤ kind ∧ kind ≤ 2) : ∃ r w' m', p_X3_readPart 116 kind w = some (b2 r, w') ∧ p_X9_parsePart kind m = some m' ∧ ST w m B N r w' m' := by
  have iT : ¬ eq32 (b2 true) 0 = true := by decide +kernel
  have iF : eq32 (b2 false) 0 = true := by decide +kernel
  obtain ⟨hP, ⟨hp, h52⟩, hS, hVD, hF⟩ := h
  have h : PG w m B N f := ⟨hP, ⟨hp, h52⟩, hS, hVD, hF⟩
  have hV := hVD.1
  have h9 := hV.p
  have h10 := hV.w
  have m9 : gA m 52 9 = f 9 := congrFun h52 9
  have g4 : gF w 116 4 = f 9 := hS.1.2.2.2.1.trans (fx_n (by decide))
  have hFU : FU = 1000000 := rfl
  obtain ⟨nf, hnf⟩ : ∃ q, FU = q + 1 := ⟨999999, rfl⟩
  unfold p_X3_readPart p_X9_parsePart
  rw [if_neg (show ¬ (inb 9 1099 = false) by decide), hp, m9, g4]
  by_cases c : f 9 = 10
  · obtain ⟨w1, m1, f1, f2, f3, f4, f5⟩ := bad2 hP (c := 5) (by decide)
    rw [if_neg (show ¬ lt32 (f 9) 10 = true by rw [lt32_o (by omega)]; omega), if_pos (show eq32 (f 9) 10 = true by rw [eq32_o (by omega)]; exact c), f1, Option.bind_some]
    unfold p_X9_parsePart_18
    rw [errsIf_1 hP.2.2.1, f2, Option.bind_some, goOn_x f3.2.2, Option.bind_some, if_neg (show ¬ (inb 10 1099 = false) by decide), takeW_x f3.2.2, Option.bind_some, hnf, p38_x f3.2.2]
    exact ⟨false, w1, m1, zr_0 w1, rfl, fte f4, fse f5, Or.inr ⟨rfl, f3⟩⟩
  · rw [if_pos (show lt32 (f 9) 10 = true by rw [lt32_o (by omega)]; omega), if_neg (show ¬ eq32 (f 9) 10 = true by rw [eq32_o (by omega)]; exact c)]
    obtain ⟨w1, a1, a2, a3⟩ := openPart_o SLo_1 hS (fx_OPN (opW_OPN (kind := kind) (by omega)) h9.1 h10.1) (by omega)
    have hP1 : PT w1 m B N := hP.fr a2 (frm_refl (S := S0) (T := T0) m) (fun k q => absurd q.1 (by decide)) (fun q => absurd q.1 (by decide)) (by unfold TWo; omega) (fun _ _ _ q => q) id
    have hG1 : PP w1 m B N f kind (f 10) := ⟨hP1, ⟨hp, h52⟩, by rw [Int.sub_self]; exact a3, hV.pv (by omega), hVD.2, hF.fr a2 (frm_refl (S := S0) (T := T0) m) (fun k _ q => absurd q.1 (by decide)) (fun _ _ _ q => q)⟩
    have hmu : mu w1 = mu w + 1 := by
      have e4 : gF w1 116 4 = f 9 + 1 := a3.1.2.2.2.1.trans ((fx_n (by decide)).trans opW_9)
      unfold mu
      rw [e4, g4, a2.1 9 4 (fun q => absurd q.1 (by decide)), a2.1 9 5 (fun q => absurd q.1 (by decide)), a2.1 9 6 (fun q => absurd q.1 (by decide))]; omega
    obtain ⟨w2, m2, d1, d2, d3, d4, d5⟩ := step2 hP1
    have hG2 := hG1.tok d5 (ft8 d3) d4
    obtain ⟨r, w3, m3, b1, b2', b3, b4, b5⟩ := word_it hG2
    have m10 : gA m2 52 10 = f 10 := congrFun hG2.2.1.2 10
    have hfw : frm SPc TPc w w3 := frm_trans (frm_mono a2 (fun o k q => by have := q.1; unfold SPc; omega) (fun o q => by unfold TWo at q; unfold TPc; omega)) (frm_trans (ftc (ft8 d3)) b3)
    have hfm : frm SPm TPm m m3 := frm_trans (fsc d4) b4
    unfold p_X9_parsePart_18
    rw [errsIf_0 hP.2.2.1, Option.bind_some, d2, Option.bind_some, if_neg (show ¬ (inb 10 1099 = false) by decide), b2', Option.bind_some, hG2.2.1.1, m10, a1, Option.bind_some, d1, Option.bind_some, b1, Option.bind_some]
    dsimp only
    rcases b5 with ⟨rfl, ⟨f', q1, q2⟩, q3⟩ | ⟨rfl, q1⟩
    · have h60 := q1.2.2.2.1.2.2.2.2.1
      exact part_lp hk (60 - f' 10).toNat FU FU 0 w3 m3 f' q1 (by omega) hfw hfm (by rw [q3, mu_tok (ft8 d3), hmu]; exact Int.le_refl _) (by omega) (Int.le_refl _) (by omega) (by omega) (by omega)
    · rw [hnf, p38_x q1.2.2]
      simp only [p_X3_readPart_36]
      unfold p_X3_readPart_72
      rw [if_pos iF, if_pos iF, ite_self]
      exact ⟨false, w3, m3, rfl, rfl, hfw, hfm, Or.inr ⟨rfl, q1⟩⟩
end PA
