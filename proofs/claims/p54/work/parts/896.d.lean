/-! ===== addPart: the words of the text ===== -/
theorem takeWord_t {w : Wd} {o src : Nat} {start len : Int} (ho : SLo o) (h7 : 0 ≤ gF w o 7 ∧ gF w o 7 ≤ 60) (h4 : 0 ≤ gF w o 4 ∧ gF w o 4 ≤ 10) (hl : 0 ≤ len ∧ len ≤ 12) (hs : 0 ≤ start ∧ start + len ≤ (ln (src + 1) : Nat)) :
    ∃ w', p_X6_takeWord o src start len w = some w' ∧ frm (SWo o) (TWo o) w w' ∧ (0 ≤ gF w' o 7 ∧ gF w' o 7 ≤ 60) ∧ gF w' o 4 = gF w o 4 := by
  have hln := ln_lt (src + 1)
  unfold p_X6_takeWord
  by_cases c : lt32 (gF w o 7) 60 = true
  · rw [if_pos c]
    rw [lt32_o (by omega)] at c
    by_cases d : lt32 0 (gF w o 4) = true
    · rw [if_pos d]
      rw [lt32_o (by omega)] at d
      obtain ⟨w1, a1, a2, a3⟩ := loop_up (lp := fun n x w => p_X6_takeWord_19 o src n start len x w) (fin := p_X6_takeWord_56 o src len) (b := len)
        (I := fun x w' => 0 ≤ x ∧ frm S0 (fun a => a = o + 10) w w')
        (fun n x w' hx hI => by
          obtain ⟨i0, i1⟩ := hI
          have e7' : gF w' o 7 = gF w o 7 := i1.1 o 7 id
          simp (disch := omega) only [p_X6_takeWord_19, lt32_o, hx, if_true]
          rw [at_in ⟨by omega, by omega⟩, Option.bind_some]
          dsimp only
          rw [e7', put_in (o := o + 9) ⟨by omega, by rw [show ln (o + 9 + 1) = 720 from ho.l10]; omega⟩, Option.bind_some]
          exact ⟨_, rfl, by omega, frm_sA i1 rfl⟩)
        (fun n w' hI => by simp (disch := omega) only [p_X6_takeWord_19, lt32_o, Int.lt_irrefl, if_false])
        FU 0 w hl.1 ⟨Int.le_refl _, frm_refl w⟩ (by have : FU = 1000000 := rfl; omega)
      have e7' : gF w1 o 7 = gF w o 7 := a3.1 o 7 id
      have e4' : gF w1 o 4 = gF w o 4 := a3.1 o 4 id
      rw [a1]
      unfold p_X6_takeWord_56
      rw [e7', put_in (o := o + 7) ⟨by omega, by rw [show ln (o + 7 + 1) = 60 from ho.l8]; omega⟩, Option.bind_some]
      have e4'' : gF (sA w1 (o + 7 + 1) (gF w o 7) len) o 4 = gF w o 4 := e4'
      rw [e4'', at_in (o := o + 5) ⟨by omega, by rw [show ln (o + 5 + 1) = 10 from ho.l6]; omega⟩, Option.bind_some]
      dsimp only
      rw [put_in (o := o + 5) ⟨by omega, by rw [show ln (o + 5 + 1) = 10 from ho.l6]; omega⟩, Option.bind_some]
      refine ⟨_, rfl, frm_sF (frm_sA (frm_sA (frm_mono a3 (fun _ _ h => absurd h id) (fun a h => Or.inr (Or.inr (Or.inr h)))) (Or.inr (Or.inr (Or.inl rfl)))) (Or.inr (Or.inl rfl))) ⟨rfl, Or.inr rfl⟩, ?_, ?_⟩
      · rw [gF_sF, if_pos ⟨rfl, rfl⟩, gF_sA, gF_sA, e7']; omega
      · rw [gF_sF, if_neg (fun q => absurd q.2 (by decide)), gF_sA, gF_sA, e4']
    · rw [if_neg d]; exact ⟨w, rfl, frm_refl w, h7, rfl⟩
  · rw [if_neg c]; exact ⟨w, rfl, frm_refl w, h7, rfl⟩
def AGF (f g : Rw) : Prop := ∀ i, 0 ≤ i → i ≠ 10 → i < 319 + 13 * f 10 → g i = f i
/-- so many words of the text have been taken -/
def AL (f : Rw) (x cnt : Int) (w m : Wd) (B : Int → Int) (N : Int) : Prop :=
  PT w m B N ∧ gP m 50 3 = 52 ∧ (0 ≤ gA m 52 10 ∧ gA m 52 10 ≤ 60) ∧ gA m 52 0 = f 0 ∧ (0 ≤ gF w 116 7 ∧ gF w 116 7 ≤ 60) ∧ (0 ≤ gF w 116 4 ∧ gF w 116 4 ≤ 10) ∧ gF w 100 0 = f 0 ∧
  (f 9 < 10 → f 10 + cnt ≤ 60 → RS w 116 (opW (gA m 52) x cnt) ∧ gA m 52 10 = f 10 + cnt ∧ PV (gA m 52) (f 10) ∧ AGF f (gA m 52))
def SPa (o _k : Nat) : Prop := o = 8 ∨ (116 ≤ o ∧ o ≤ 127)
theorem f8a {w w1 : Wd} (a : frm T8 T0 w w1) : frm SPa TPc w w1 := frm_mono a (fun o k q => Or.inl q) (fun _ q => absurd q id)
theorem fwo {w w1 : Wd} (a : frm (SWo 116) (TWo 116) w w1) : frm SPa TPc w w1 := frm_mono a (fun o k q => by have := q.1; unfold SPa; omega) (fun o q => by unfold TWo at q; unfold TPc; omega)
theorem f52 {m m1 : Wd} (a : frm S0 (fun o => o = 52) m m1) : frm SPm TPm m m1 := frm_mono a (fun _ _ q => absurd q id) (fun _ q => q)
section AD
variable {w m : Wd} {B : Int → Int} {N : Int} {f : Rw}
theorem step3 {s e K : Int} (h : PT w m B N) (hk : TKat w m B N s e K) : ∃ w' m' s' e' K', p_X7_step w = some w' ∧ p_X9_goOn m = some m' ∧ frm T8 T0 w w' ∧ frm Ssc T0 m m' ∧ PT w' m' B N ∧ TKat w' m' B N s' e' K' ∧ e ≤ s' := by
  obtain ⟨h1, h2, h3, -⟩ := h
  have h5 := hk
  obtain ⟨a, ⟨b1, b2', b3⟩, ⟨c1, c2, c3⟩, d⟩ := h5
  obtain ⟨w', m', e1, e2, e3, e4, e5⟩ := next_o h1 h2 (p := e) (by omega) (by omega) c2
  have hs := (skF_rng (B := B) (N := N) 500 e (by omega)).1
  exact ⟨w', m', _, _, _, e1, (goOn_g h3).trans e2, e3, e4, ⟨h1.fr e3 (by decide) id, h2.fr e4 (by unfold Ssc; omega) id, (e4.1 50 24 (by unfold Ssc; omega)).trans h3, _, _, _, e5⟩, e5, hs⟩
theorem AL.tok {w' m' : Wd} {x cnt : Int} (h : AL f x cnt w m B N) (hP : PT w' m' B N) (hw : frm T8 T0 w w') (hm : frm Ssc T0 m m') : AL f x cnt w' m' B N := by
  obtain ⟨h1, h2, h3, h4, h5, h6, h7, h8⟩ := h
  have n52 : gA m' 52 = gA m 52 := funext fun i => hm.2.1 52 id i
  refine ⟨hP, (hm.2.2 _ _).trans h2, by rw [n52]; exact h3, by rw [n52]; exact h4, by rw [hw.1 116 7 (by unfold T8; decide)]; exact h5, by rw [hw.1 116 4 (by unfold T8; decide)]; exact h6, (hw.1 100 0 (by unfold T8; decide)).trans h7, fun q q' => ?_⟩
  rw [n52]
  obtain ⟨r1, r2⟩ := h8 q q'
  exact ⟨r1.fr hw (fun d k _ q => by unfold T8 at q; omega) (fun d _ q => q), r2⟩
theorem add_it {x cnt s e K : Int} (h : AL f x cnt w m B N) (hV : VB f) (hk : TKat w m B N s e K) (hK : K = 1 ∨ K = 2) (hl : e - s ≤ 12) (hc : 0 ≤ cnt) :
    ∃ w1 m1, p_X6_takeWord 116 3 s (e - s) w = some w1 ∧ (if lt32 (gA m 52 10) 60 = true then p_X9_addWord m else some m) = some m1 ∧ AL f x (cnt + 1) w1 m1 B N ∧ frm (SWo 116) (TWo 116) w w1 ∧ frm S0 (fun o => o = 52) m m1 := by
  obtain ⟨hP, hp, h10, h0, h7, h4, h100, hq⟩ := h
  have hP0 := hP
  obtain ⟨hC, hM, h24, -⟩ := hP
  have hN := hC.2.1
  have hrs := hk.1
  have hf10 := hV.w
  have hf9 := hV.p
  obtain ⟨hse, hB⟩ := wb_isB hk hK
  have cP : ∀ w1 m1, frm (SWo 116) (TWo 116) w w1 → frm S0 (fun o => o = 52) m m1 → PT w1 m1 B N := fun w1 m1 a b => hP0.fr a b (fun k q => absurd q.1 (by decide)) (fun q => absurd q.1 (by decide)) (by unfold TWo; omega) (fun _ _ _ q => q) (by decide)
  by_cases c : f 9 < 10 ∧ f 10 + (cnt + 1) ≤ 60
  · obtain ⟨r1, r2, r3, r4⟩ := hq c.1 (by omega)
    have e9 : gA m 52 9 = f 9 := r4 9 (by decide) (by decide) (by omega)
    have v9 := r3.2.2.2.1
    have vw := r3.2.2.2.2.2.2.2.1
    obtain ⟨m1, a1, a2, a3⟩ := addWord_o hM hp rfl hk.2.2.1.2.1 hk.2.2.1.1 ⟨hrs.1, hse, hrs.2.2⟩ hl (by omega) (fun i i0 i1 => (hB i i0 i1).2)
    have hwrd := opW_WRD (kind := x) (u := cnt) v9 (by omega) (fun v q0 q1 => (vw v q0 q1).2) a3
    have hPV' := r3.add a3 (by omega) (by omega) (fun i i0 i1 => (hB i i0 i1).1)
    obtain ⟨g1, g2, g3, g4'⟩ := id a3
    obtain ⟨w1, b1, b2', b3⟩ := takeWord_o (src := 3) (start := s) (len := e - s) SLo_1 r1 hwrd (by omega) (by omega) (by omega) (fun v q0 q1 => by
        rw [show wnF (opW (gA m 52) x cnt) v = wnF (gA m 52) v from opW_n (by omega)]
        exact (vw v q0 q1).2) ⟨by omega, by rw [show ln (3 + 1) = 500 from rfl]; omega⟩ (by omega) (fun k k0 k1 => by
        rw [show wbF (opW (gA m1 52) x (cnt + 1)) (gA m 52 10) k = wbF (gA m1 52) (gA m 52 10) k from opW_n (by rw [g4' 9 (by decide) (by omega)]; omega), g3 k k0 k1]
        exact (hC.2.2 (s + k) (by omega) (by omega)).1.symm)
    have n7 : gF w1 116 7 = gA m1 52 10 := b3.1.2.2.2.2.1.trans (opW_n (by rw [g4' 9 (by decide) (by omega)]; omega))
    have n4 : gF w1 116 4 = gA m1 52 9 + 1 := b3.1.2.2.2.1.trans opW_9
    rw [g4' 9 (by decide) (by omega)] at n4
    refine ⟨w1, m1, b1, by rw [if_pos (show lt32 (gA m 52 10) 60 = true by rw [lt32_o (by omega)]; omega)]; exact a1, ⟨cP w1 m1 b2' a2, (a2.2.2 _ _).trans hp, by omega, (g4' 0 (by decide) (by omega)).trans h0, by omega, by omega, (b2'.1 100 0 (fun q => absurd q.1 (by decide))).trans h100, fun _ _ => ⟨b3, by omega, hPV', fun i i0 i1 i2 => (g4' i i1 (by omega)).trans (r4 i i0 i1 i2)⟩⟩, b2', a2⟩
  · obtain ⟨w1, b1, b2', b3, b4⟩ := takeWord_t (src := 3) (start := s) (len := e - s) SLo_1 h7 h4 ⟨by omega, hl⟩ ⟨by omega, by rw [show ln (3 + 1) = 500 from rfl]; omega⟩
    by_cases d : gA m 52 10 < 60
    · obtain ⟨m1, a1, a2, a3⟩ := addWord_o hM hp rfl hk.2.2.1.2.1 hk.2.2.1.1 ⟨hrs.1, hse, hrs.2.2⟩ hl (by omega) (fun i i0 i1 => (hB i i0 i1).2)
      have g1 := a3.1
      refine ⟨w1, m1, b1, by rw [if_pos (show lt32 (gA m 52 10) 60 = true by rw [lt32_o (by omega)]; omega)]; exact a1, ⟨cP w1 m1 b2' a2, (a2.2.2 _ _).trans hp, by omega, (a3.2.2.2 0 (by decide) (by omega)).trans h0, b3, by omega, (b2'.1 100 0 (fun q => absurd q.1 (by decide))).trans h100, fun q q' => absurd ⟨q, q'⟩ c⟩, b2', a2⟩
    · refine ⟨w1, m, b1, by rw [if_neg (show ¬ lt32 (gA m 52 10) 60 = true by rw [lt32_o (by omega)]; omega)], ⟨cP w1 m b2' (frm_refl m), hp, h10, h0, b3, by omega, (b2'.1 100 0 (fun q => absurd q.1 (by decide))).trans h100, fun q q' => absurd ⟨q, q'⟩ c⟩, b2', frm_refl m⟩
theorem a89_x {n : Nat} {x1 x2 x3 x4 x5 x6 : Int} (h : IDL m) : p_X9_addPart_89 (n + 1) x1 x2 x3 x4 x5 x6 m = p_X9_addPart_183 x1 x2 x3 x4 x5 x6 m := by
  simp only [p_X9_addPart_89]
  rw [good_x h, Option.bind_some]
  dsimp only
  rw [if_pos e00]
theorem a146_e {k89 : Int → Int → Int → Int → Int → Int → Wd → Option (Int × Wd)} {m1 : Wd} {x1 x2 x3 x4 x5 x6 s : Int} (h : p_X9_errsIf s 1 m = some m1) (hx : IDL m1) : p_X9_addPart_146 k89 x1 x2 x3 x4 x5 x6 s m = k89 x1 x2 x3 x4 x5 (x6 + 1) m1 := by
  unfold p_X9_addPart_146 p_X9_addPart_173
  rw [h, Option.bind_some, good_x hx, Option.bind_some]
  dsimp only
  rw [if_pos e00, goOn_x hx, Option.bind_some]
theorem add_lp {x x2 x3 x4 x5 : Int} (hV : VB f) : ∀ (j n n' : Nat) (cnt s e K : Int) (w m : Wd), AL f x cnt w m B N → TKat w m B N s e K → N - s ≤ j → 0 ≤ cnt → cnt ≤ s → j < n → j + 2 < n' →
    ∃ w' m', frm SPa TPc w w' ∧ frm SPm TPm m m' ∧ ((∃ c, cnt ≤ c ∧ c ≤ 500 ∧ (K ≠ 0 → cnt + 1 ≤ c) ∧ p_X8_takeInputWords_19 n cnt cnt w = some (c, w') ∧ p_X9_addPart_89 n' x x2 x3 x4 x5 cnt m = p_X9_addPart_183 x x2 x3 x4 x5 c m' ∧ AL f x c w' m' B N) ∨
      (∃ x6, p_X8_takeInputWords_19 n cnt cnt w = some (0, w') ∧ p_X9_addPart_89 n' x x2 x3 x4 x5 cnt m = p_X9_addPart_183 x x2 x3 x4 x5 x6 m' ∧ IDL m')) := by
  have iT : ¬ eq32 (b2 true) 0 = true := by decide +kernel
  have iF : eq32 (b2 false) 0 = true := by decide +kernel
  intro j
  induction j with
  | zero =>
    intro n n' cnt s e K w m h hk hj c0 c1 hn hn'
    obtain ⟨n, rfl⟩ : ∃ q, n = q + 1 := ⟨n - 1, by omega⟩
    obtain ⟨n', rfl⟩ : ∃ q, n' = q + 1 := ⟨n' - 1, by omega⟩
    have hrs := hk.1
    have hN := h.1.1.2.1
    have hK : K = 0 := by
      rcases hk.2.2.2.1 with q | q
      · exact q.1
      · omega
    have hc : eq32 K 0 = true := by rw [hK]; exact e00
    refine ⟨w, m, frm_refl w, frm_refl m, Or.inl ⟨cnt, Int.le_refl _, by omega, fun q => absurd hK q, ?_, ?_, h⟩⟩
    · simp only [p_X8_takeInputWords_19]
      rw [hk.2.1.2.2, if_pos hc, ite_self]
    · simp only [p_X9_addPart_89]
      rw [good_o h.1.2.2.1, Option.bind_some]
      dsimp only
      rw [if_neg e10', hk.2.2.1.2.2, if_pos hc]
  | succ j ih =>
    intro n n' cnt s e K w m h hk hj c0 c1 hn hn'
    obtain ⟨n, rfl⟩ : ∃ q, n = q + 1 := ⟨n - 1, by omega⟩
    obtain ⟨n', rfl⟩ : ∃ q, n' = q + 1 := ⟨n' - 1, by omega⟩
    have hrs := hk.1
    have hN := h.1.1.2.1
    have hKr := kk_rng hk
    have hfc := hV.c
    by_cases hK : K = 0
    · have hc : eq32 K 0 = true := by rw [hK]; exact e00
      refine ⟨w, m, frm_refl w, frm_refl m, Or.inl ⟨cnt, Int.le_refl _, by omega, fun q => absurd hK q, ?_, ?_, h⟩⟩
      · simp only [p_X8_takeInputWords_19]
        rw [hk.2.1.2.2, if_pos hc, ite_self]
      · simp only [p_X9_addPart_89]
        rw [good_o h.1.2.2.1, Option.bind_some]
        dsimp only
        rw [if_neg e10', hk.2.2.1.2.2, if_pos hc]
    · have hse : s < e := by
        rcases hk.2.2.2.1 with q | q
        · exact absurd q.1 hK
        · exact q.2.2.1
      have hc : ¬ eq32 K 0 = true := by rw [eq32_o (by omega)]; exact hK
      obtain ⟨pl1, pl2⟩ := plw_o hk hN.2
      have h24 := h.1.2.2.1
      have hcR : cR m 0 = f 0 := by unfold cR; rw [h.2.1]; exact h.2.2.2.1
      have hcl : p_X8_takeInputWords_19 (n + 1) cnt cnt w = if eq32 (b2 (decide ((K = 1 ∨ K = 2) ∧ e - s ≤ 12))) 0 = true then some (0, w) else if lt32 (f 0) (e - s) = true then some (0, w) else (p_X6_takeWord 116 3 s (e - s) w).bind fun w3 => (p_X7_step w3).bind fun w4 => p_X8_takeInputWords_19 n (cnt + 1) (cnt + 1) w4 := by
        simp only [p_X8_takeInputWords_19]
        rw [hk.2.1.2.2, if_pos (show lt32 cnt 500 = true by rw [lt32_o (by omega)]; omega), if_neg hc, pl1, Option.bind_some]
        dsimp only
        rw [hk.2.1.1, hk.2.1.2.1, h.2.2.2.2.2.2.1]
      have hmo : p_X9_addPart_89 (n' + 1) x x2 x3 x4 x5 cnt m = if ((K = 1 ∨ K = 2) ∧ e - s ≤ 12) ∧ ¬ (f 0 < e - s) then p_X9_addPart_146 (p_X9_addPart_89 n') x x2 x3 x4 x5 cnt 0 m else p_X9_addPart_146 (p_X9_addPart_89 n') x x2 x3 x4 x5 cnt 1 m := by
        simp only [p_X9_addPart_89]
        unfold p_X9_addPart_141
        rw [good_o h24, Option.bind_some]
        dsimp only
        rw [if_neg e10', hk.2.2.1.2.2, if_neg hc, pl2, Option.bind_some]
        dsimp only
        rw [hk.2.2.1.1, hk.2.2.1.2.1, wide_o (f := cR m) rfl, Option.bind_some]
        dsimp only
        rw [hcR]
        by_cases d1 : K = 1 ∨ K = 2
        · rw [decide_eq_true d1, if_neg iT]
          by_cases d2 : e - s ≤ 12
          · rw [if_neg (show ¬ lt32 12 (e - s) = true by rw [lt32_o (by omega)]; omega)]
            by_cases d3 : f 0 < e - s
            · rw [if_pos (show lt32 (f 0) (e - s) = true by rw [lt32_o (by omega)]; exact d3), if_neg (fun q => q.2 d3)]
            · rw [if_neg (show ¬ lt32 (f 0) (e - s) = true by rw [lt32_o (by omega)]; exact d3), if_pos ⟨⟨d1, d2⟩, d3⟩]
          · rw [if_pos (show lt32 12 (e - s) = true by rw [lt32_o (by omega)]; omega), if_neg (fun q => d2 q.1.2)]
        · rw [decide_eq_false d1, if_pos iF, if_neg (fun q => d1 q.1.1)]
      by_cases g : ((K = 1 ∨ K = 2) ∧ e - s ≤ 12) ∧ ¬ (f 0 < e - s)
      · obtain ⟨w1, m1, a1, a2, a3, a4, a5⟩ := add_it h hV hk g.1.1 g.1.2 c0
        have hk1 : TKat w1 m1 B N s e K := hk.fr a4 a5 (fun k q => absurd q.1 (by decide)) (fun _ _ _ q => q)
        obtain ⟨w2, m2, s', e', K', d1, d2, d3, d4, d5, d6, d7⟩ := step3 a3.1 hk1
        obtain ⟨w3, m3, b1, b2', b3⟩ := ih n n' (cnt + 1) s' e' K' w2 m2 (a3.tok d5 d3 d4) d6 (by omega) (by omega) (by omega) (by omega) (by omega)
        rw [hcl, hmo, if_pos g, decide_eq_true g.1, if_neg iT, if_neg (show ¬ lt32 (f 0) (e - s) = true by rw [lt32_o (by omega)]; exact g.2), a1, Option.bind_some, d1, Option.bind_some]
        have h146 : p_X9_addPart_146 (p_X9_addPart_89 n') x x2 x3 x4 x5 cnt 0 m = p_X9_addPart_89 n' x x2 x3 x4 x5 (cnt + 1) m2 := by
          unfold p_X9_addPart_146 p_X9_addPart_173
          rw [errsIf_0 h24, Option.bind_some, good_o h24, Option.bind_some]
          dsimp only
          rw [if_neg e10', if_neg (show ¬ (inb 10 1099 = false) by decide), h.2.1]
          by_cases q : lt32 (gA m 52 10) 60 = true
          · rw [if_pos q] at a2 ⊢
            rw [a2, Option.bind_some, d2, Option.bind_some]
          · rw [if_neg q] at a2 ⊢
            rw [Option.some.inj a2, d2, Option.bind_some]
        rw [h146]
        refine ⟨w3, m3, frm_trans (fwo a4) (frm_trans (f8a d3) b1), frm_trans (f52 a5) (frm_trans (fsc d4) b2'), ?_⟩
        rcases b3 with ⟨c, q1, q2, q3, q4, q5, q6⟩ | q
        · exact Or.inl ⟨c, by omega, q2, fun _ => q1, q4, q5, q6⟩
        · exact Or.inr q
      · obtain ⟨w', m', f1, f2, f3, f4, f5⟩ := bad2 h.1 (c := 1) (by decide)
        obtain ⟨n', rfl⟩ : ∃ q, n' = q + 1 := ⟨n' - 1, by omega⟩
        rw [hcl, hmo, if_neg g, a146_e ((errsIf_1 h24).trans f2) f3.2.2, a89_x f3.2.2]
        refine ⟨w, m', frm_refl w, fse f5, Or.inr ⟨cnt + 1, ?_, rfl, f3.2.2⟩⟩
        by_cases q : (K = 1 ∨ K = 2) ∧ e - s ≤ 12
        · rw [decide_eq_true q, if_neg iT, if_pos (show lt32 (f 0) (e - s) = true by rw [lt32_o (by omega)]; exact Classical.not_not.mp (fun z => g ⟨q, z⟩))]
        · rw [decide_eq_false q, if_pos iF]
end AD
