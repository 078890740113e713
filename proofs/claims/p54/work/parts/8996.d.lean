/-! ===== the class reads one statement ===== -/
def POSL (w : Wd) (t : List Int) (ts : List (List Int)) : Prop := POS w t (ts.headD []) ts.tail
/-- what of the draft is followed: size, gap, parts, words, chisel, flaws, and what was said -/
def DRF (w : Wd) (wd hi gp pa wo sh ti fl gf cf : Int) : Prop :=
  (gF w 116 0 = wd ∧ gF w 116 1 = hi ∧ gF w 116 2 = gp ∧ gF w 116 4 = pa ∧ gF w 116 7 = wo) ∧ (gF w 127 0 = sh ∧ gF w 127 1 = ti) ∧ (gF w 9 4 = fl ∧ gF w 9 5 = gf ∧ gF w 9 6 = cf)
def FBt (w : Wd) (S : Int → Int → Bool) : Prop := ∀ r, 0 ≤ r → r < 12 → ∀ i : Nat, i < 32 → bI (gA w 118 r) i = S i r
theorem DRF.tc {w w' : Wd} {wd hi gp pa wo sh ti fl gf cf : Int} (h : DRF w wd hi gp pa wo sh ti fl gf cf) (hf : frm Tc T0 w w') : DRF w' wd hi gp pa wo sh ti fl gf cf := by
  obtain ⟨⟨a1, a2, a3, a4, a5⟩, ⟨b1, b2⟩, ⟨c1, c2, c3⟩⟩ := h
  refine ⟨⟨(hf.1 _ _ ?_).trans a1, (hf.1 _ _ ?_).trans a2, (hf.1 _ _ ?_).trans a3, (hf.1 _ _ ?_).trans a4, (hf.1 _ _ ?_).trans a5⟩, ⟨(hf.1 _ _ ?_).trans b1, (hf.1 _ _ ?_).trans b2⟩, ⟨(hf.1 _ _ ?_).trans c1, (hf.1 _ _ ?_).trans c2, (hf.1 _ _ ?_).trans c3⟩⟩ <;> (unfold Tc; omega)
theorem FBt.tc {w w' : Wd} {S : Int → Int → Bool} (h : FBt w S) (hf : frm Tc T0 w w') : FBt w' S := fun r r0 r1 i hi => by rw [hf.2.1 118 id]; exact h r r0 r1 i hi
theorem POSL.tc3 {w : Wd} {t : List Int} {ts : List (List Int)} (h : POSL w t ts) {o k : Nat} {v : Int} (ho : o ≠ 8) (h2 : ¬ (o = 2 ∧ k = 1)) : POSL (sF w o k v) t ts :=
  POS.fr h (frm_sF (frm_refl w) ⟨rfl, rfl⟩ : frm (fun a b => a = o ∧ b = k) T0 w (sF w o k v)) (fun k q => ho q.1.symm) (fun q => h2 ⟨q.1.symm, q.2.symm⟩) id
theorem zrT (w : Wd) : zr 1 w = some (1, w) := zr_b2 true w
theorem ctx_ne : ∀ o, o < 9 → ctx o ≠ [] := by decide +kernel
theorem ctx_eq : ∀ o, o < 9 → ∀ o', o' < 9 → decide (ctx o = ctx o') = decide (o = o') := by decide +kernel
theorem flawed_t {w : Wd} {S : Int → Int → Bool} {wd hi gp pa wo sh ti fl gf cf : Int} (hD : DRF w wd hi gp pa wo sh ti fl gf cf) (hF : FBt w S) (hw : wd ≤ 24 ∧ hi ≤ 12) {x y : Int} (hx : 0 ≤ x ∧ x < wd) (hy : 0 ≤ y ∧ y < hi) : p_X6_flawed 116 x y w = some (b2 (S x y), w) := by
  obtain ⟨⟨a1, a2, a3, a4, a5⟩, _, _⟩ := hD
  unfold p_X6_flawed p_X6_flawed_29
  rw [a1, a2, if_neg (by rw [lt32_o (by omega)]; omega), if_pos (by rw [lt32_o (by omega)]; omega), if_neg (by rw [lt32_o (by omega)]; omega), if_pos (by rw [lt32_o (by omega)]; omega), if_neg (by decide +kernel)]
  rw [at_in (o := 117) ⟨hy.1, by rw [show ln (117 + 1) = 12 from rfl]; omega⟩, Option.bind_some]
  obtain ⟨n, rfl⟩ := Int.eq_ofNat_of_zero_le hx.1
  dsimp only
  rw [an1_o, bI_sr0 _ (by omega), show gA w (117 + 1) y = gA w 118 y from rfl, hF y hy.1 (by omega) n (by omega)]
  cases S n y <;> rfl
theorem mark_t {w : Wd} {S : Int → Int → Bool} {wd hi gp pa wo sh ti fl gf cf : Int} (hD : DRF w wd hi gp pa wo sh ti fl gf cf) (hF : FBt w S) (hw : wd ≤ 24 ∧ hi ≤ 12) {x y : Int} (hx : 0 ≤ x ∧ x < wd) (hy : 0 ≤ y ∧ y < hi) : ∃ w', p_X6_mark 116 x y 1 w = some w' ∧ frm S0 (fun a => a = 118) w w' ∧ FBt w' (fun i r => S i r || decide (i = x ∧ r = y)) := by
  obtain ⟨⟨a1, a2, a3, a4, a5⟩, _, _⟩ := hD
  unfold p_X6_mark p_X6_mark_65
  rw [a1, a2, if_neg (by rw [lt32_o (by omega)]; omega), if_pos (by rw [lt32_o (by omega)]; omega), if_neg (by rw [lt32_o (by omega)]; omega), if_pos (by rw [lt32_o (by omega)]; omega), if_neg (by decide +kernel)]
  rw [at_in (o := 117) ⟨hy.1, by rw [show ln (117 + 1) = 12 from rfl]; omega⟩, Option.bind_some]
  dsimp only
  rw [put_in (o := 117) ⟨hy.1, by rw [show ln (117 + 1) = 12 from rfl]; omega⟩, Option.bind_some]
  refine ⟨_, rfl, frm_sA (frm_refl w) rfl, fun r r0 r1 i hi => ?_⟩
  show bI (gA (sA w 118 y (or32 (gA w 118 y) (sl32 1 x))) 118 r) i = _
  rw [gA_sA]
  obtain ⟨n, rfl⟩ := Int.eq_ofNat_of_zero_le hx.1
  by_cases c : r = y
  · subst c
    rw [if_pos ⟨rfl, rfl⟩, bI_or, hF r r0 r1 i hi, bI_pow n (by omega) i hi]
    congr 1
    exact decide_eq_decide.mpr ⟨fun q => ⟨congrArg Nat.cast q, rfl⟩, fun q => by have := q.1; omega⟩
  · rw [if_neg (fun q => c q.2), hF r r0 r1 i hi]
    show S i r = (S i r || decide ((i : Int) = (n : Nat) ∧ r = y))
    rw [decide_eq_false (fun q => c q.2), Bool.or_false]
theorem flaw_st {w : Wd} {t : List Int} {ts : List (List Int)} {S : Int → Int → Bool} {wd hi gp pa wo sh ti fl gf cf x y : Int} (h : POSL w t (ctx 2 :: digs x :: digs y :: ctx 1 :: ts)) (hD : DRF w wd hi gp pa wo sh ti fl gf cf) (hF : FBt w S) (hw : wd ≤ 24 ∧ hi ≤ 12) (hx : 0 ≤ x ∧ x < wd) (hy : 0 ≤ y ∧ y < hi) (hfl : 0 ≤ fl ∧ fl < 40) (hS : S x y = false) :
    ∃ w', p_X3_readStatement 116 w = some (1, w') ∧ POSL w' t ts ∧ DRF w' wd hi gp pa wo sh ti (fl + 1) gf cf ∧ FBt w' (fun i r => S i r || decide (i = x ∧ r = y)) := by
  have h0 := h
  obtain ⟨w1, s1, s2, s3⟩ := POS.go h
  have hD1 := hD.tc (ft8 s2)
  have hF1 := hF.tc (ft8 s2)
  have s3' : POS w1 t (digs x) (digs y :: ctx 1 :: ts) := s3
  have k1 := chk_t s3' (by omega) (lo := 0) (hi := wd - 1) (by omega)
  have f1 : frm Tc T0 w1 (sF w1 9 3 x) := frm_sF (frm_refl w1) (Or.inr ⟨rfl, rfl⟩)
  have p1 : POSL (sF w1 9 3 x) t (digs x :: digs y :: ctx 1 :: ts) := POSL.tc3 s3 (by decide) (by decide)
  have hD2 := hD1.tc f1
  have hF2 := hF1.tc f1
  obtain ⟨w2, q1, q2, q3⟩ := POS.go p1
  have q3' : POS w2 t (digs y) (ctx 1 :: ts) := q3
  have hD3 := hD2.tc (ft8 q2)
  have hF3 := hF2.tc (ft8 q2)
  have k2 := chk_t q3' (by omega) (lo := 0) (hi := hi - 1) (by omega)
  have f2 : frm Tc T0 w2 (sF w2 9 3 y) := frm_sF (frm_refl w2) (Or.inr ⟨rfl, rfl⟩)
  have hD4 := hD3.tc f2
  have hF4 := hF3.tc f2
  have e43 : gF (sF w1 9 3 x) 9 3 = x := by rw [gF_sF, if_pos ⟨rfl, rfl⟩]
  have e44 : gF (sF w2 9 3 y) 9 3 = y := by rw [gF_sF, if_pos ⟨rfl, rfl⟩]
  obtain ⟨w3, m1, m2, m3⟩ := mark_t hD4 hF4 hw hx hy
  have e94 : gF w3 9 4 = fl := (m2.1 9 4 id).trans hD4.2.2.1
  have p3 : POSL (sF w3 9 4 (fl + 1)) t (digs y :: ctx 1 :: ts) := by
    have a : POSL (sF w2 9 3 y) t (digs y :: ctx 1 :: ts) := POSL.tc3 q3 (by decide) (by decide)
    have b : POSL w3 t (digs y :: ctx 1 :: ts) := POS.fr a m2 (fun _ => id) id (by decide)
    exact POSL.tc3 b (by decide) (by decide)
  obtain ⟨w4, r1, r2, r3⟩ := POS.go p3
  have r3' : POS w4 t (ctx 1) ts := r3
  obtain ⟨w5, u1, u2, u3⟩ := end_t r3'
  have hD5 : DRF (sF w3 9 4 (fl + 1)) wd hi gp pa wo sh ti (fl + 1) gf cf := by
    obtain ⟨⟨a1, a2, a3, a4, a5⟩, ⟨b1, b2⟩, ⟨c1, c2, c3⟩⟩ := hD4
    exact ⟨⟨(m2.1 116 0 id).trans a1, (m2.1 116 1 id).trans a2, (m2.1 116 2 id).trans a3, (m2.1 116 4 id).trans a4, (m2.1 116 7 id).trans a5⟩, ⟨(m2.1 127 0 id).trans b1, (m2.1 127 1 id).trans b2⟩, ⟨by rw [gF_sF, if_pos ⟨rfl, rfl⟩], (m2.1 9 5 id).trans c2, (m2.1 9 6 id).trans c3⟩⟩
  have hF5 : FBt (sF w3 9 4 (fl + 1)) (fun i r => S i r || decide (i = x ∧ r = y)) := m3
  refine ⟨w5, ?_, u3, (hD5.tc (ft8 r2)).tc (ft8 u2), (hF5.tc (ft8 r2)).tc (ft8 u2)⟩
  obtain ⟨n, hn⟩ : ∃ n, FU = n + 2 := ⟨999998, rfl⟩
  have hfw : p_X3_readFlaw 116 w1 = some (1, w4) := by
    unfold p_X3_readFlaw
    rw [hD1.1.1, k1, Option.bind_some]
    dsimp only
    rw [if_neg (by decide +kernel), show gF (sF w1 9 3 x) 9 4 = fl from hD2.2.2.1, if_pos (by rw [lt32_o (by omega)]; omega), q1, Option.bind_some, hD3.1.2.1, k2, Option.bind_some]
    dsimp only
    rw [if_neg (by decide +kernel), e43, e44, flawed_t hD4 hF4 hw hx hy, Option.bind_some, hS]
    dsimp only
    rw [if_pos (by decide +kernel), e44, m1, Option.bind_some, e94, r1, Option.bind_some]
  unfold p_X3_readStatement
  rw [says_t h0 (by decide), Option.bind_some]
  show (if eq32 (b2 (decide (ctx 2 = ctx 2))) 0 = true then _ else _) = _
  rw [decide_eq_true rfl, if_neg (by decide +kernel)]
  unfold p_X3_readFlaws
  rw [hn]
  unfold p_X3_readFlaws_4
  rw [if_pos (by decide +kernel), if_neg (by decide +kernel), s1, Option.bind_some, hfw, Option.bind_some]
  dsimp only
  rw [if_neg (by decide +kernel), says_t r3 (by decide), Option.bind_some]
  show ((p_X3_readFlaws_4 116 (n + 1) (b2 (decide (ctx 1 = ctx 3))) (0 + 1) w4).bind _) = _
  rw [ctx_eq 1 (by decide) 3 (by decide)]
  unfold p_X3_readFlaws_4 p_X3_readFlaws_48
  rw [if_pos (by decide +kernel), if_pos (by decide +kernel), u1, Option.bind_some]
  dsimp only
  rw [zrT, Option.bind_some]
  exact zrT w5
theorem gap_st {w : Wd} {t : List Int} {ts : List (List Int)} {S : Int → Int → Bool} {wd hi gp pa wo sh ti fl cf g : Int} (h : POSL w t (ctx 4 :: digs g :: ctx 1 :: ts)) (hD : DRF w wd hi gp pa wo sh ti fl 0 cf) (hF : FBt w S) (hg : 0 ≤ g ∧ g ≤ 3) :
    ∃ w', p_X3_readStatement 116 w = some (1, w') ∧ POSL w' t ts ∧ DRF w' wd hi g pa wo sh ti fl 1 cf ∧ FBt w' S := by
  have p0 : POSL (sF w 9 5 1) t (ctx 4 :: digs g :: ctx 1 :: ts) := POSL.tc3 h (by decide) (by decide)
  obtain ⟨w1, s1, s2, s3⟩ := POS.go p0
  have s3' : POS w1 t (digs g) (ctx 1 :: ts) := s3
  obtain ⟨w2, n1, n2, n3, n4⟩ := num_t s3' (by omega) (lo := 0) (hi := 3) (by omega)
  have n3' : POSL w2 t (ctx 1 :: ts) := n3
  have p2 : POSL (sF w2 116 2 g) t (ctx 1 :: ts) := POSL.tc3 n3' (by decide) (by decide)
  obtain ⟨w3, u1, u2, u3⟩ := end_t (show POS (sF w2 116 2 g) t (ctx 1) ts from p2)
  have hD1 : DRF (sF w 9 5 1) wd hi gp pa wo sh ti fl 1 cf := by
    obtain ⟨⟨a1, a2, a3, a4, a5⟩, ⟨b1, b2⟩, ⟨c1, c2, c3⟩⟩ := hD
    exact ⟨⟨a1, a2, a3, a4, a5⟩, ⟨b1, b2⟩, ⟨c1, by rw [gF_sF, if_pos ⟨rfl, rfl⟩], c3⟩⟩
  have hD2 := (hD1.tc (ft8 s2)).tc n2
  have hD3 : DRF (sF w2 116 2 g) wd hi g pa wo sh ti fl 1 cf := by
    obtain ⟨⟨a1, a2, a3, a4, a5⟩, ⟨b1, b2⟩, ⟨c1, c2, c3⟩⟩ := hD2
    exact ⟨⟨a1, a2, by rw [gF_sF, if_pos ⟨rfl, rfl⟩], a4, a5⟩, ⟨b1, b2⟩, ⟨c1, c2, c3⟩⟩
  have hF0 : FBt (sF w 9 5 1) S := hF
  have hF2 : FBt w2 S := (hF0.tc (ft8 s2)).tc n2
  have hF3 : FBt (sF w2 116 2 g) S := hF2
  refine ⟨w3, ?_, u3, hD3.tc (ft8 u2), hF3.tc (ft8 u2)⟩
  unfold p_X3_readStatement
  rw [says_t h (by decide), Option.bind_some]
  show (if eq32 (b2 (decide (ctx 4 = ctx 2))) 0 = true then _ else _) = _
  rw [ctx_eq 4 (by decide) 2 (by decide), if_pos (by decide +kernel), says_t h (by decide), Option.bind_some]
  show (if eq32 (b2 (decide (ctx 4 = ctx 4))) 0 = true then _ else _) = _
  rw [decide_eq_true rfl, if_neg (by decide +kernel)]
  unfold p_X3_readGap
  rw [hD.2.2.2.1, if_pos (by decide +kernel), s1, Option.bind_some, n1, Option.bind_some]
  dsimp only
  rw [if_neg (by decide +kernel), n4, u1, Option.bind_some]
  dsimp only
  rw [zrT, Option.bind_some]
  exact zrT w3
theorem chi_st {w : Wd} {t : List Int} {ts : List (List Int)} {S : Int → Int → Bool} {wd hi gp pa wo sh ti fl gf s m : Int} (h : POSL w t (ctx 5 :: digs s :: digs m :: ctx 1 :: ts)) (hD : DRF w wd hi gp pa wo sh ti fl gf 0) (hF : FBt w S) (hs : 1 ≤ s ∧ s < 100) (hm : 0 ≤ m ∧ m ≤ 99) :
    ∃ w', p_X3_readStatement 116 w = some (1, w') ∧ POSL w' t ts ∧ DRF w' wd hi gp pa wo s m fl gf 1 ∧ FBt w' S := by
  have p0 : POSL (sF w 9 6 1) t (ctx 5 :: digs s :: digs m :: ctx 1 :: ts) := POSL.tc3 h (by decide) (by decide)
  obtain ⟨w1, s1, s2, s3⟩ := POS.go p0
  obtain ⟨w2, n1, n2, n3, n4⟩ := num_t (show POS w1 t (digs s) (digs m :: ctx 1 :: ts) from s3) (by omega) (lo := 1) (hi := 999) (by omega)
  obtain ⟨w3, q1, q2, q3, q4⟩ := num_t (show POS w2 t (digs m) (ctx 1 :: ts) from n3) (by omega) (lo := 0) (hi := 99) (by omega)
  have q3' : POSL w3 t (ctx 1 :: ts) := q3
  have p2 : POSL (sF (sF (sF w3 127 0 s) 127 1 m) 127 2 s) t (ctx 1 :: ts) := POSL.tc3 (POSL.tc3 (POSL.tc3 q3' (by decide) (by decide)) (by decide) (by decide)) (by decide) (by decide)
  obtain ⟨w4, u1, u2, u3⟩ := end_t (show POS (sF (sF (sF w3 127 0 s) 127 1 m) 127 2 s) t (ctx 1) ts from p2)
  have hD1 : DRF (sF w 9 6 1) wd hi gp pa wo sh ti fl gf 1 := by
    obtain ⟨⟨a1, a2, a3, a4, a5⟩, ⟨b1, b2⟩, ⟨c1, c2, c3⟩⟩ := hD
    exact ⟨⟨a1, a2, a3, a4, a5⟩, ⟨b1, b2⟩, ⟨c1, c2, by rw [gF_sF, if_pos ⟨rfl, rfl⟩]⟩⟩
  have hD2 := ((hD1.tc (ft8 s2)).tc n2).tc q2
  have hD3 : DRF (sF (sF (sF w3 127 0 s) 127 1 m) 127 2 s) wd hi gp pa wo s m fl gf 1 := by
    obtain ⟨⟨a1, a2, a3, a4, a5⟩, ⟨b1, b2⟩, ⟨c1, c2, c3⟩⟩ := hD2
    exact ⟨⟨a1, a2, a3, a4, a5⟩, ⟨by rw [gF_sF, if_neg (by decide), gF_sF, if_neg (by decide), gF_sF, if_pos ⟨rfl, rfl⟩], by rw [gF_sF, if_neg (by decide), gF_sF, if_pos ⟨rfl, rfl⟩]⟩, ⟨c1, c2, c3⟩⟩
  have hF0 : FBt (sF w 9 6 1) S := hF
  have hF2 : FBt w3 S := ((hF0.tc (ft8 s2)).tc n2).tc q2
  have hF3 : FBt (sF (sF (sF w3 127 0 s) 127 1 m) 127 2 s) S := hF2
  refine ⟨w4, ?_, u3, hD3.tc (ft8 u2), hF3.tc (ft8 u2)⟩
  unfold p_X3_readStatement
  rw [says_t h (by decide), Option.bind_some]
  show (if eq32 (b2 (decide (ctx 5 = ctx 2))) 0 = true then _ else _) = _
  rw [ctx_eq 5 (by decide) 2 (by decide), if_pos (by decide +kernel), says_t h (by decide), Option.bind_some]
  show (if eq32 (b2 (decide (ctx 5 = ctx 4))) 0 = true then _ else _) = _
  rw [ctx_eq 5 (by decide) 4 (by decide), if_pos (by decide +kernel), says_t h (by decide), Option.bind_some]
  show (if eq32 (b2 (decide (ctx 5 = ctx 5))) 0 = true then _ else _) = _
  rw [decide_eq_true rfl, if_neg (by decide +kernel)]
  unfold p_X3_readChisel p_X1_renew
  rw [hD.2.2.2.2, if_pos (by decide +kernel), s1, Option.bind_some, n1, Option.bind_some]
  dsimp only
  rw [if_neg (by decide +kernel), q1, Option.bind_some]
  dsimp only
  rw [if_neg (by decide +kernel), n4, q4, Option.bind_some, Option.bind_some, u1, Option.bind_some]
  dsimp only
  rw [zrT, Option.bind_some]
  exact zrT w4
/-- a word that the law writes -/
def Wok (tok : List Int) (wd : Int) : Prop := 1 ≤ tok.length ∧ tok.length ≤ 12 ∧ (tok.length : Int) ≤ wd ∧ (kdT tok = 1 ∨ kdT tok = 2) ∧ ∀ j, j < tok.length → kdB (tok.getD j 0) = kdT tok
theorem takeWord_c {w : Wd} {start len : Int} (h7 : 0 ≤ gF w 116 7 ∧ gF w 116 7 < 60) (h4 : 1 ≤ gF w 116 4 ∧ gF w 116 4 ≤ 10) (hl : 0 ≤ len ∧ len ≤ 12) (hs : 0 ≤ start ∧ start + len ≤ 500) :
    ∃ w', p_X6_takeWord 116 3 start len w = some w' ∧ frm (SWo 116) (TWo 116) w w' ∧ gF w' 116 7 = gF w 116 7 + 1 ∧ gF w' 116 4 = gF w 116 4 := by
  unfold p_X6_takeWord
  rw [if_pos (by rw [lt32_o (by omega)]; omega), if_pos (by rw [lt32_o (by omega)]; omega)]
  obtain ⟨w1, a1, a2, a3⟩ := loop_up (lp := fun n x w => p_X6_takeWord_19 116 3 n start len x w) (fin := p_X6_takeWord_56 116 3 len) (b := len)
    (I := fun x w' => 0 ≤ x ∧ frm S0 (fun a => a = 126) w w')
    (fun n x w' hx hI => by
      obtain ⟨i0, i1⟩ := hI
      have e7' : gF w' 116 7 = gF w 116 7 := i1.1 116 7 id
      simp (disch := omega) only [p_X6_takeWord_19, lt32_o, hx, if_true]
      rw [at_in (o := 3) ⟨by omega, by rw [show ln (3 + 1) = 500 from rfl]; omega⟩, Option.bind_some]
      dsimp only
      rw [e7', put_in (o := 116 + 9) ⟨by omega, by rw [show ln (116 + 9 + 1) = 720 from rfl]; omega⟩, Option.bind_some]
      exact ⟨_, rfl, by omega, frm_sA i1 rfl⟩)
    (fun n w' hI => by simp (disch := omega) only [p_X6_takeWord_19, lt32_o, Int.lt_irrefl, if_false])
    FU 0 w hl.1 ⟨Int.le_refl _, frm_refl w⟩ (by have : FU = 1000000 := rfl; omega)
  have e7' : gF w1 116 7 = gF w 116 7 := a3.1 116 7 id
  have e4' : gF w1 116 4 = gF w 116 4 := a3.1 116 4 id
  rw [a1]
  unfold p_X6_takeWord_56
  rw [e7', put_in (o := 116 + 7) ⟨by omega, by rw [show ln (116 + 7 + 1) = 60 from rfl]; omega⟩, Option.bind_some]
  have e4'' : gF (sA w1 (116 + 7 + 1) (gF w 116 7) len) 116 4 = gF w 116 4 := e4'
  rw [e4'', at_in (o := 116 + 5) ⟨by omega, by rw [show ln (116 + 5 + 1) = 10 from rfl]; omega⟩, Option.bind_some]
  dsimp only
  rw [put_in (o := 116 + 5) ⟨by omega, by rw [show ln (116 + 5 + 1) = 10 from rfl]; omega⟩, Option.bind_some]
  refine ⟨_, rfl, frm_sF (frm_sA (frm_sA (frm_mono a3 (fun _ _ h => absurd h id) (fun a h => Or.inr (Or.inr (Or.inr h)))) (Or.inr (Or.inr (Or.inl rfl)))) (Or.inr (Or.inl rfl))) ⟨rfl, Or.inr rfl⟩, ?_, ?_⟩
  · rw [gF_sF, if_pos ⟨rfl, rfl⟩, gF_sA, gF_sA, e7']
  · rw [gF_sF, if_neg (fun q => absurd q.2 (by decide)), gF_sA, gF_sA, e4']
theorem word_t {w : Wd} {t tok : List Int} {ts : List (List Int)} {S : Int → Int → Bool} {wd hi gp pa wo sh ti fl gf cf : Int} (h : POSL w t (tok :: ts)) (hW : Wok tok wd) (hwd : wd ≤ 24) (hD : DRF w wd hi gp pa wo sh ti fl gf cf) (hF : FBt w S) (hwo : 0 ≤ wo ∧ wo < 60) (hpa : 1 ≤ pa ∧ pa ≤ 10) :
    ∃ w', p_X3_readWord 116 w = some (1, w') ∧ POSL w' t ts ∧ DRF w' wd hi gp pa (wo + 1) sh ti fl gf cf ∧ FBt w' S := by
  obtain ⟨k1, k2, k3, k4, k5⟩ := hW
  have hne : tok ≠ [] := fun q => by rw [q] at k1; exact absurd k1 (by decide)
  have h0 : POS w t tok ts := h
  have hpl := plain_t h0 hne k4 k2
  have h00 := h0
  obtain ⟨pre, l, ⟨hC, ht, h2, h3⟩, _, _⟩ := h00
  have hlen : t.length = pre.length + (tok.length + l.length) := by rw [ht, List.length_append, List.length_append]
  have hN := hC.2.1
  obtain ⟨⟨a1, a2, a3, a4, a5⟩, ⟨b1, b2⟩, ⟨c1, c2, c3⟩⟩ := hD
  obtain ⟨w1, m1, m2, m3, m4⟩ := takeWord_c (w := w) (start := gF w 8 2) (len := gF w 8 3) (by omega) (by omega) (by omega) (by omega)
  have p1 : POSL w1 t (tok :: ts) := POS.fr h m2 (fun k q => absurd q.1 (by decide)) (fun q => absurd q.1 (by decide)) (by unfold TWo; decide)
  obtain ⟨w2, s1, s2, s3⟩ := POS.go p1
  have hD1 : DRF w1 wd hi gp pa (wo + 1) sh ti fl gf cf := by
    refine ⟨⟨(m2.1 116 0 ?_).trans a1, (m2.1 116 1 ?_).trans a2, (m2.1 116 2 ?_).trans a3, m4.trans a4, by rw [m3, a5]⟩, ⟨(m2.1 127 0 ?_).trans b1, (m2.1 127 1 ?_).trans b2⟩, ⟨(m2.1 9 4 ?_).trans c1, (m2.1 9 5 ?_).trans c2, (m2.1 9 6 ?_).trans c3⟩⟩ <;> (unfold SWo; omega)
  have hF1 : FBt w1 S := fun r r0 r1 i hi => by rw [m2.2.1 118 (by unfold TWo; decide)]; exact hF r r0 r1 i hi
  refine ⟨w2, ?_, s3, hD1.tc (ft8 s2), hF1.tc (ft8 s2)⟩
  unfold p_X3_readWord
  rw [hpl, Option.bind_some]
  dsimp only
  rw [if_neg (by decide +kernel), a1, if_neg (by rw [h3, lt32_o (by omega)]; omega), a5, if_pos (by rw [lt32_o (by omega)]; omega), m1, Option.bind_some, s1, Option.bind_some]
theorem part36_t {t : List Int} {ts : List (List Int)} {S : Int → Int → Bool} {wd hi gp pa sh ti fl gf cf : Int} (hwd : wd ≤ 24) (hpa : 1 ≤ pa ∧ pa ≤ 10) : ∀ (ws : List (List Int)) (n : Nat) (x4 wo : Int) (w : Wd), POSL w t (ws ++ ctx 1 :: ts) → (∀ tok ∈ ws, Wok tok wd) → DRF w wd hi gp pa wo sh ti fl gf cf → FBt w S → 0 ≤ wo ∧ wo + ws.length ≤ 60 → 0 ≤ x4 ∧ x4 + ws.length ≤ 400 → ws.length < n →
    ∃ w', p_X3_readPart_36 116 n 1 x4 w = some (1, w') ∧ POSL w' t ts ∧ DRF w' wd hi gp pa (wo + ws.length) sh ti fl gf cf ∧ FBt w' S := by
  intro ws
  induction ws with
  | nil =>
    intro n x4 wo w h _ hD hF hwo hx hn
    obtain ⟨n', rfl⟩ : ∃ n', n = n' + 1 := ⟨n - 1, by simp only [List.length_nil] at hn; omega⟩
    simp only [List.length_nil] at hx hwo
    obtain ⟨w1, u1, u2, u3⟩ := end_t (show POS w t (ctx 1) ts from h)
    refine ⟨w1, ?_, u3, by rw [show wo + (([] : List (List Int)).length : Nat) = wo from Int.add_zero wo]; exact hD.tc (ft8 u2), hF.tc (ft8 u2)⟩
    unfold p_X3_readPart_36 p_X3_readPart_72
    rw [if_pos (by rw [lt32_o (by omega)]; omega), if_neg (by decide +kernel), says_t h (by decide), Option.bind_some]
    show (if eq32 (b2 (decide (ctx 1 = ctx 1))) 0 = true then _ else _) = _
    rw [decide_eq_true rfl, if_neg (by decide +kernel), if_neg (by decide +kernel), u1, Option.bind_some]
    dsimp only
    rw [if_neg (by decide +kernel)]
  | cons tok ws ih =>
    intro n x4 wo w h hok hD hF hwo hx hn
    obtain ⟨n', rfl⟩ : ∃ n', n = n' + 1 := ⟨n - 1, by simp only [List.length_cons] at hn; omega⟩
    simp only [List.length_cons] at hx hwo hn
    have hW := hok tok List.mem_cons_self
    obtain ⟨w1, u1, u2, u3, u4⟩ := word_t (ts := ws ++ ctx 1 :: ts) h hW hwd hD hF (by omega) hpa
    obtain ⟨w2, q1, q2, q3, q4⟩ := ih n' (x4 + 1) (wo + 1) w1 u2 (fun tk htk => hok tk (List.mem_cons_of_mem _ htk)) u3 u4 (by omega) (by omega) (by omega)
    refine ⟨w2, ?_, q2, by rw [show wo + ((tok :: ws).length : Nat) = wo + 1 + (ws.length : Nat) by simp only [List.length_cons]; omega]; exact q3, q4⟩
    have hne : tok ≠ ctx 1 := fun q => by
      obtain ⟨_, _, _, k4, _⟩ := hW
      rw [q] at k4
      exact absurd k4 (by decide +kernel)
    unfold p_X3_readPart_36
    rw [if_pos (by rw [lt32_o (by omega)]; omega), if_neg (by decide +kernel), says_t h (by decide), Option.bind_some]
    show (if eq32 (b2 (decide (tok = ctx 1))) 0 = true then _ else _) = _
    rw [decide_eq_false hne, if_pos (by decide +kernel), u1, Option.bind_some]
    exact q1
theorem part_st {w : Wd} {t : List Int} {ts : List (List Int)} {S : Int → Int → Bool} {wd hi gp pa wo sh ti fl gf cf : Int} {kd : Nat} {tok : List Int} {ws : List (List Int)} (hkd : kd ≤ 2) (h : POSL w t (ctx (6 + kd) :: tok :: (ws ++ ctx 1 :: ts))) (hok : ∀ tk ∈ tok :: ws, Wok tk wd) (hwd : wd ≤ 24) (hD : DRF w wd hi gp pa wo sh ti fl gf cf) (hF : FBt w S) (hpa : 0 ≤ pa ∧ pa < 10) (hwo : 0 ≤ wo ∧ wo + ws.length + 1 ≤ 60) :
    ∃ w', p_X3_readStatement 116 w = some (1, w') ∧ POSL w' t ts ∧ DRF w' wd hi gp (pa + 1) (wo + ws.length + 1) sh ti fl gf cf ∧ FBt w' S := by
  have hop : ∀ x : Int, ∃ w1, p_X6_openPart 116 x w = some w1 ∧ frm (fun o k => o = 116 ∧ k = 4) (fun o => o = 120 ∨ o = 122) w w1 ∧ gF w1 116 4 = pa + 1 := by
    intro x
    unfold p_X6_openPart
    rw [hD.1.2.2.2.1, if_pos (by rw [lt32_o (by omega)]; omega), put_in (o := 116 + 3) ⟨hpa.1, by rw [show ln (116 + 3 + 1) = 10 from rfl]; omega⟩, Option.bind_some]
    rw [show gF (sA w (116 + 3 + 1) pa x) 116 4 = pa from hD.1.2.2.2.1, put_in (o := 116 + 5) ⟨hpa.1, by rw [show ln (116 + 5 + 1) = 10 from rfl]; omega⟩, Option.bind_some]
    rw [show gF (sA (sA w (116 + 3 + 1) pa x) (116 + 5 + 1) pa 0) 116 4 = pa from hD.1.2.2.2.1]
    exact ⟨_, rfl, frm_sF (frm_sA (frm_sA (frm_refl w) (Or.inl rfl)) (Or.inr rfl)) ⟨rfl, rfl⟩, by rw [gF_sF, if_pos ⟨rfl, rfl⟩]⟩
  have hpart : ∀ x : Int, ∃ w', p_X3_readPart 116 x w = some (1, w') ∧ POSL w' t ts ∧ DRF w' wd hi gp (pa + 1) (wo + ws.length + 1) sh ti fl gf cf ∧ FBt w' S := by
    intro x
    obtain ⟨w1, o1, o2, o3⟩ := hop x
    have p1 : POSL w1 t (ctx (6 + kd) :: tok :: (ws ++ ctx 1 :: ts)) := POS.fr h o2 (fun k q => absurd q.1 (by decide)) (fun q => absurd q.1 (by decide)) (by decide)
    have hD1 : DRF w1 wd hi gp (pa + 1) wo sh ti fl gf cf := by
      obtain ⟨⟨a1, a2, a3, a4, a5⟩, ⟨b1, b2⟩, ⟨c1, c2, c3⟩⟩ := hD
      exact ⟨⟨(o2.1 116 0 (by decide)).trans a1, (o2.1 116 1 (by decide)).trans a2, (o2.1 116 2 (by decide)).trans a3, o3, (o2.1 116 7 (by decide)).trans a5⟩, ⟨(o2.1 127 0 (by decide)).trans b1, (o2.1 127 1 (by decide)).trans b2⟩, ⟨(o2.1 9 4 (by decide)).trans c1, (o2.1 9 5 (by decide)).trans c2, (o2.1 9 6 (by decide)).trans c3⟩⟩
    have hF1 : FBt w1 S := fun r r0 r1 i hi => by rw [o2.2.1 118 (by decide)]; exact hF r r0 r1 i hi
    obtain ⟨w2, s1, s2, s3⟩ := POS.go p1
    obtain ⟨w3, v1, v2, v3, v4⟩ := word_t (w := w2) (tok := tok) (ts := ws ++ ctx 1 :: ts) s3 (hok tok List.mem_cons_self) hwd (hD1.tc (ft8 s2)) (hF1.tc (ft8 s2)) (by omega) (by omega)
    obtain ⟨w4, q1, q2, q3, q4⟩ := part36_t hwd (show 1 ≤ pa + 1 ∧ pa + 1 ≤ 10 by omega) ws FU 0 (wo + 1) w3 v2 (fun tk htk => hok tk (List.mem_cons_of_mem _ htk)) v3 v4 (by omega) (by omega) (by have : FU = 1000000 := rfl; omega)
    refine ⟨w4, ?_, q2, by rw [show wo + (ws.length : Nat) + 1 = wo + 1 + (ws.length : Nat) by omega]; exact q3, q4⟩
    unfold p_X3_readPart
    rw [hD.1.2.2.2.1, if_pos (by rw [lt32_o (by omega)]; omega), o1, Option.bind_some, s1, Option.bind_some, v1, Option.bind_some]
    exact q1
  have hsay : ∀ o, o < 9 → p_X7_says o w = some (b2 (decide (6 + kd = o)), w) := fun o ho => by
    have := says_t h ho
    rw [show p_X7_says o w = some (b2 (decide (ctx (6 + kd) = ctx o)), w) from this, ctx_eq (6 + kd) (by omega) o ho]
  unfold p_X3_readStatement
  rw [hsay 2 (by decide), Option.bind_some, decide_eq_false (by omega)]
  dsimp only
  rw [if_pos (by decide +kernel), hsay 4 (by decide), Option.bind_some, decide_eq_false (by omega)]
  dsimp only
  rw [if_pos (by decide +kernel), hsay 5 (by decide), Option.bind_some, decide_eq_false (by omega)]
  dsimp only
  rw [if_pos (by decide +kernel), hsay 6 (by decide), Option.bind_some]
  dsimp only
  by_cases c0 : kd = 0
  · obtain ⟨w', r1, r2⟩ := hpart 0
    refine ⟨w', ?_, r2⟩
    rw [decide_eq_true (by omega), if_neg (by decide +kernel), r1, Option.bind_some]
    exact zrT w'
  · rw [decide_eq_false (by omega), if_pos (by decide +kernel), hsay 7 (by decide), Option.bind_some]
    dsimp only
    by_cases c1 : kd = 1
    · obtain ⟨w', r1, r2⟩ := hpart 1
      refine ⟨w', ?_, r2⟩
      rw [decide_eq_true (by omega), if_neg (by decide +kernel), r1, Option.bind_some]
      exact zrT w'
    · obtain ⟨w', r1, r2⟩ := hpart 2
      refine ⟨w', ?_, r2⟩
      rw [decide_eq_false (by omega), if_pos (by decide +kernel), hsay 8 (by decide), Option.bind_some, decide_eq_true (by omega)]
      dsimp only
      rw [if_neg (by decide +kernel), r1, Option.bind_some]
      exact zrT w'
