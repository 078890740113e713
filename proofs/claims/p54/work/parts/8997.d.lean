/-! ===== the text that the law loads, as tokens ===== -/
def BD (l : List Int) : Prop := l = [] ∨ kdB (l.getD 0 0) = 3
theorem BD.sp (l : List Int) : BD (32 :: l) := Or.inr (by decide +kernel : kdB 32 = 3)
theorem BD.semi (l : List Int) : BD (ctx 1 ++ l) := Or.inr (by decide +kernel : kdB 59 = 3)
theorem tk_cons0 {tok l : List Int} {us : List (List Int)} (hW : WT tok l) (h : TK us l) : TK (tok :: us) (tok ++ l) := ⟨[], l, Or.inl rfl, rfl, hW, h⟩
theorem tk_cons1 {tok l : List Int} {us : List (List Int)} (hW : WT tok l) (h : TK us l) : TK (tok :: us) (32 :: (tok ++ l)) := ⟨[32], l, Or.inr rfl, rfl, hW, h⟩
theorem wt_ctx {o : Nat} (ho : o < 9) (h1 : o ≠ 1 ∧ o ≠ 3) {l : List Int} (h : BD l) : WT (ctx o) l := by
  obtain ⟨a1, a2, a3, a4⟩ := (by decide +kernel : ∀ o, o < 9 → o ≠ 1 ∧ o ≠ 3 → 1 ≤ (ctx o).length ∧ (∀ j, j < (ctx o).length → kdB ((ctx o).getD j 0) = kdT (ctx o)) ∧ ((ctx o).getD 0 0 ≠ 32 ∧ (ctx o).getD 0 0 ≠ 10) ∧ kdT (ctx o) = 1) o ho h1
  exact ⟨a1, a2, a3, fun q => by rw [a4] at q; exact absurd q (by decide), fun _ => h.imp id (fun q => by rw [q, a4]; decide)⟩
theorem wt_semi (l : List Int) : WT (ctx 1) l := by
  obtain ⟨a1, a2, a3, a4, a5⟩ := (by decide +kernel : 1 ≤ (ctx 1).length ∧ (∀ j, j < (ctx 1).length → kdB ((ctx 1).getD j 0) = kdT (ctx 1)) ∧ ((ctx 1).getD 0 0 ≠ 32 ∧ (ctx 1).getD 0 0 ≠ 10) ∧ kdT (ctx 1) = 3 ∧ (ctx 1).length = 1)
  exact ⟨a1, a2, a3, fun _ => a5, fun q => absurd a4 q⟩
theorem wt_digs {v : Int} (hv : 0 ≤ v ∧ v < 100) {l : List Int} (h : BD l) : WT (digs v) l := by
  obtain ⟨k1, k2, k3⟩ := digs_kd hv
  have k0 := k2 0 (List.length_pos_iff.mpr k3)
  rw [kd_2] at k0
  exact ⟨List.length_pos_iff.mpr k3, fun j hj => by rw [k2 j hj, k1], ⟨by omega, by omega⟩, fun q => by rw [k1] at q; exact absurd q (by decide), fun _ => h.imp id (fun q => by rw [q, k1]; decide)⟩
theorem wlist_at (n : Int) {k j : Nat} (h : j < k) : (wlist n k).getD j 0 = wordL n j := by
  rw [List.getD_eq_getElem?_getD, List.getElem?_eq_getElem (by rw [wlist_len]; exact h)]
  unfold wlist
  rw [List.getElem_map, List.getElem_range]; rfl
theorem wordL_kd (n k : Int) : kdB (wordL n k) = if n % 5 = 0 then 2 else 1 := by
  unfold wordL
  by_cases c : n % 5 = 0
  · rw [if_pos c, if_pos c]; exact kd_2.mpr (by omega)
  · rw [if_neg c, if_neg c]; exact kd_1.mpr (by omega)
theorem wlist_kdT (n : Int) {k : Nat} (h : 1 ≤ k) : kdT (wlist n k) = if n % 5 = 0 then 2 else 1 := by
  unfold kdT
  rw [wlist_at n (by omega)]; exact wordL_kd n _
theorem wlist_ok (n : Int) {k : Nat} {wd : Int} (h : 1 ≤ k ∧ k ≤ 12) (hw : (k : Int) ≤ wd) : Wok (wlist n k) wd := by
  refine ⟨by rw [wlist_len]; exact h.1, by rw [wlist_len]; exact h.2, by rw [wlist_len]; exact hw, ?_, fun j hj => ?_⟩
  · rw [wlist_kdT n h.1]; split <;> simp
  · rw [wlist_len] at hj
    rw [wlist_at n hj, wordL_kd, wlist_kdT n h.1]
theorem wt_word {tok l : List Int} {wd : Int} (h : Wok tok wd) (hl : BD l) : WT tok l := by
  obtain ⟨k1, k2, k3, k4, k5⟩ := h
  have k0 := k5 0 k1
  refine ⟨k1, k5, ⟨fun q => ?_, fun q => ?_⟩, fun q => ?_, fun _ => hl.imp id (fun q => ?_)⟩
  · rw [q] at k0; rcases k4 with e | e <;> rw [e] at k0 <;> exact absurd k0 (by decide +kernel)
  · rw [q] at k0; rcases k4 with e | e <;> rw [e] at k0 <;> exact absurd k0 (by decide +kernel)
  · rcases k4 with e | e <;> rw [e] at q <;> exact absurd q (by decide)
  · rw [q]; rcases k4 with e | e <;> rw [e] <;> decide
theorem manyF_r {n wide : Int} (hn : 0 ≤ n) (hw : 1 ≤ wide) : 1 ≤ (manyF n wide).toNat ∧ (manyF n wide).toNat ≤ 7 ∧ (((manyF n wide).toNat : Nat) : Int) ≤ wide := by
  unfold manyF
  have h1 : 0 ≤ n % min 7 wide := Int.emod_nonneg _ (by omega)
  have h2 : n % min 7 wide < min 7 wide := Int.emod_lt_of_pos _ (by omega)
  omega
/-- closed pieces of text -/
def TKc (a : List Int) (ts : List (List Int)) : Prop := ∀ l us, TK us l → TK (ts ++ us) (a ++ l)
theorem TKc.nil : TKc [] [] := fun _ _ h => h
theorem TKc.app {a b : List Int} {ts us : List (List Int)} (h : TKc a ts) (h2 : TKc b us) : TKc (a ++ b) (ts ++ us) := fun l vs hl => by
  rw [List.append_assoc, List.append_assoc]; exact h _ _ (h2 _ _ hl)
theorem ctx_10 : ctx 10 = [32] := by decide +kernel
theorem ctx_11 : ctx 11 = ctx 2 ++ [32] := by decide +kernel
theorem ctx_9 : ctx 9 = ctx 0 ++ [32] := by decide +kernel
theorem ctx_12 : ctx 12 = ctx 4 ++ [32] := by decide +kernel
theorem ctx_13 : ctx 13 = ctx 5 ++ [32] := by decide +kernel
theorem tkc_2 {o o' : Nat} (ho : o < 9) (h1 : o ≠ 1 ∧ o ≠ 3) (e : ctx o' = ctx o ++ [32]) {a b : Int} (ha : 0 ≤ a ∧ a < 100) (hb : 0 ≤ b ∧ b < 100) : TKc (ctx o' ++ digs a ++ ctx 10 ++ digs b ++ ctx 1) [ctx o, digs a, digs b, ctx 1] := by
  intro l us h
  have e2 : ctx o' ++ digs a ++ ctx 10 ++ digs b ++ ctx 1 ++ l = ctx o ++ (32 :: (digs a ++ (32 :: (digs b ++ (ctx 1 ++ l))))) := by
    rw [e, ctx_10]; simp only [List.append_assoc, List.cons_append, List.nil_append]
  rw [e2]
  exact tk_cons0 (wt_ctx ho h1 (BD.sp _)) (tk_cons1 (wt_digs ha (BD.sp _)) (tk_cons1 (wt_digs hb (BD.semi _)) (tk_cons0 (wt_semi _) h)))
theorem tkc_1 {o o' : Nat} (ho : o < 9) (h1 : o ≠ 1 ∧ o ≠ 3) (e : ctx o' = ctx o ++ [32]) {a : Int} (ha : 0 ≤ a ∧ a < 100) : TKc (ctx o' ++ digs a ++ ctx 1) [ctx o, digs a, ctx 1] := by
  intro l us h
  have e2 : ctx o' ++ digs a ++ ctx 1 ++ l = ctx o ++ (32 :: (digs a ++ (ctx 1 ++ l))) := by
    rw [e]; simp only [List.append_assoc, List.cons_append, List.nil_append]
  rw [e2]
  exact tk_cons0 (wt_ctx ho h1 (BD.sp _)) (tk_cons1 (wt_digs ha (BD.semi _)) (tk_cons0 (wt_semi _) h))
def flwK (xs : Nat → Int32) (L : Nat) (wide wh : Int) : Nat → List (List Int)
  | 0 => []
  | k + 1 => if tol xs L wh (drw xs L (3 + (k : Nat)) wh) k = true then flwK xs L wide wh k else flwK xs L wide wh k ++ [ctx 2, digs (drw xs L (3 + (k : Nat)) wh % wide), digs (drw xs L (3 + (k : Nat)) wh / wide), ctx 1]
def gapK (xs : Nat → Int32) (L : Nat) : List (List Int) := if drw xs L 13 2 = 0 then [ctx 4, digs (drw xs L 12 4), ctx 1] else []
def chiK (xs : Nat → Int32) (L : Nat) : List (List Int) := if drw xs L 16 2 = 0 then [ctx 5, digs (1 + drw xs L 14 40), digs (drw xs L 15 100), ctx 1] else []
def wrdK (xs : Nat → Int32) (L : Nat) (wide p : Int) : Nat → List (List Int)
  | 0 => []
  | i + 1 => wrdK xs L wide p i ++ [wlist (drw xs L (26 + 5 * p + (i : Nat)) 10000) (manyF (drw xs L (26 + 5 * p + (i : Nat)) 10000) wide).toNat]
def prtK (xs : Nat → Int32) (L : Nat) (wide : Int) : Nat → List (List Int)
  | 0 => []
  | p + 1 => prtK xs L wide p ++ (ctx (kndI (drw xs L (22 + (p : Nat)) 3)) :: (wrdK xs L wide (p : Nat) (itsN xs L (p : Nat)).toNat ++ [ctx 1]))
def loadK (xs : Nat → Int32) (L : Nat) : List (List Int) := [ctx 0, digs (wideF xs L), digs (highF xs L), ctx 1] ++ flwK xs L (wideF xs L) (wideF xs L * highF xs L) (drw xs L 2 9).toNat ++ gapK xs L ++ chiK xs L ++ prtK xs L (wideF xs L) (drw xs L 17 4).toNat
theorem flwK_tk (xs : Nat → Int32) (L : Nat) {wide wh : Int} (hw : 4 ≤ wide ∧ wide ≤ 24) (hwh : 8 ≤ wh ∧ wh ≤ 288) : ∀ k, TKc (flwT xs L wide wh k) (flwK xs L wide wh k) := by
  intro k
  induction k with
  | zero => exact TKc.nil
  | succ k ih =>
    unfold flwT flwK
    split
    · exact ih
    · have hc := drw_rng (xs := xs) (L := L) (k := 3 + (k : Nat)) (n := wh) (by omega)
      exact ih.app (tkc_2 (by decide) (by decide) ctx_11 (mdR hw) (dvR hc (by omega) hw))
theorem gapK_tk (xs : Nat → Int32) (L : Nat) : TKc (gapT xs L) (gapK xs L) := by
  unfold gapT gapK
  split
  · exact tkc_1 (by decide) (by decide) ctx_12 (d100 (drw_rng (by decide)) (by decide))
  · exact TKc.nil
theorem chiK_tk (xs : Nat → Int32) (L : Nat) : TKc (chiT xs L) (chiK xs L) := by
  unfold chiT chiK
  split
  · exact tkc_2 (by decide) (by decide) ctx_13 (e100 (drw_rng (by decide)) (by decide)) (d100 (drw_rng (by decide)) (by decide))
  · exact TKc.nil
theorem wordF_cons (n wide : Int) (l : List Int) : wordF n wide ++ l = 32 :: (wlist n (manyF n wide).toNat ++ l) := rfl
theorem bd_wrd (xs : Nat → Int32) (L : Nat) (wide p : Int) : ∀ (i : Nat) {l : List Int}, BD l → BD (wrdT xs L wide p i ++ l) := by
  intro i
  induction i with
  | zero => intro l h; exact h
  | succ i ih =>
    intro l h
    unfold wrdT
    rw [List.append_assoc, wordF_cons]
    exact ih (BD.sp _)
theorem wrdK_tk (xs : Nat → Int32) (L : Nat) {wide p : Int} (hw : 1 ≤ wide) : ∀ (i : Nat) (l : List Int) (us : List (List Int)), BD l → TK us l → TK (wrdK xs L wide p i ++ us) (wrdT xs L wide p i ++ l) := by
  intro i
  induction i with
  | zero => intro l us _ h; exact h
  | succ i ih =>
    intro l us hl h
    unfold wrdT wrdK
    rw [List.append_assoc, List.append_assoc, wordF_cons, List.singleton_append]
    have hm := manyF_r (n := drw xs L (26 + 5 * p + (i : Nat)) 10000) (wide := wide) (drw_rng (by decide)).1 hw
    generalize drw xs L (26 + 5 * p + (i : Nat)) 10000 = q at hm ⊢
    exact ih _ _ (BD.sp _) (tk_cons1 (wt_word (wlist_ok _ (wd := wide) ⟨hm.1, Nat.le_trans hm.2.1 (by decide)⟩ hm.2.2) hl) h)
theorem knd_r (k : Int) : 6 ≤ kndI k ∧ kndI k ≤ 8 := by unfold kndI; split <;> (try split) <;> decide
theorem prtK_tk (xs : Nat → Int32) (L : Nat) {wide : Int} (hw : 1 ≤ wide) : ∀ p, TKc (prtT xs L wide p) (prtK xs L wide p) := by
  intro p
  induction p with
  | zero => exact TKc.nil
  | succ p ih =>
    unfold prtT prtK
    refine ih.app (fun l us h => ?_)
    have hk := knd_r (drw xs L (22 + (p : Nat)) 3)
    rw [List.cons_append, List.append_assoc, List.append_assoc, List.append_assoc]
    exact tk_cons0 (wt_ctx (by omega) (by omega) (bd_wrd _ _ _ _ _ (BD.semi _))) (wrdK_tk xs L hw _ _ _ (BD.semi _) (tk_cons0 (wt_semi _) h))
theorem loadK_tk (xs : Nat → Int32) (L : Nat) : TK (loadK xs L) (loadT xs L) := by
  have hw := wide_rng (xs := xs) (L := L)
  have h := ((((tkc_2 (o := 0) (by decide) (by decide) ctx_9 (r100 (wide_rng (xs := xs) (L := L)) (by decide) (by decide)) (r100 (high_rng (xs := xs) (L := L)) (by decide) (by decide))).app (flwK_tk xs L (wide_rng (xs := xs) (L := L)) (whF_rng (xs := xs) (L := L)) (drw xs L 2 9).toNat)).app (gapK_tk xs L)).app (chiK_tk xs L)).app (prtK_tk xs L (wide := wideF xs L) (by omega) (drw xs L 17 4).toNat)
  have h2 := h [] [] rfl
  rw [List.append_nil, List.append_nil] at h2
  exact h2
/-! ===== the class reads it ===== -/
def RUN (w w' : Wd) (c : Nat) : Prop := ∀ (n : Nat) (x3 : Int), 0 ≤ x3 → x3 + c ≤ 400 → c < n → p_X3_read_40 116 n 1 x3 w = p_X3_read_40 116 (n - c) 1 (x3 + c) w'
theorem RUN.rf (w : Wd) : RUN w w 0 := fun n x3 _ _ _ => by rw [Nat.sub_zero, show x3 + ((0 : Nat) : Int) = x3 from Int.add_zero x3]
theorem RUN.tr {w w1 w2 : Wd} {a b : Nat} (h : RUN w w1 a) (h2 : RUN w1 w2 b) : RUN w w2 (a + b) := fun n x3 h0 h1 hn => by
  rw [h n x3 h0 (by omega) (by omega), h2 (n - a) (x3 + a) (by omega) (by omega) (by omega), show n - a - b = n - (a + b) by omega, show x3 + (a : Int) + (b : Int) = x3 + ((a + b : Nat) : Int) by omega]
theorem POSL.kd {w : Wd} {t tok : List Int} {ts : List (List Int)} (h : POSL w t (tok :: ts)) (hne : tok ≠ []) (hk : 1 ≤ kdT tok ∧ kdT tok ≤ 3) : ¬ eq32 (gF w 8 1) 0 = true := by
  rw [kind_t (show POS w t tok ts from h) hne, eq32_o (by omega)]; omega
theorem kdT_ctx : ∀ o, o < 9 → 1 ≤ kdT (ctx o) ∧ kdT (ctx o) ≤ 3 := by decide +kernel
theorem RUN.st {w w' : Wd} {t : List Int} {ts : List (List Int)} {o : Nat} (ho : o < 9) (h : POSL w t (ctx o :: ts)) (hs : p_X3_readStatement 116 w = some (1, w')) : RUN w w' 1 := fun n x3 h0 h1 hn => by
  obtain ⟨n', rfl⟩ : ∃ n', n = n' + 1 := ⟨n - 1, by omega⟩
  have hk := h.kd (ctx_ne o ho) (kdT_ctx o ho)
  rw [show p_X3_read_40 116 (n' + 1) 1 x3 w = p_X3_read_40 116 n' 1 (x3 + 1) w' by
    rw [p_X3_read_40, if_pos (by rw [lt32_o (by omega)]; omega), if_neg (by decide +kernel), if_neg hk, hs, Option.bind_some]]
  rfl
theorem dv_uniq {q r m i w : Int} (hw : 0 < w) (hm : 0 ≤ m ∧ m < w) (hi : 0 ≤ i ∧ i < w) (h : q * w + m = r * w + i) : q = r := by
  rcases Int.lt_trichotomy q r with c | c | c
  · exfalso
    have h2 : (q + 1) * w ≤ r * w := Int.mul_le_mul_of_nonneg_right (by omega) (by omega)
    rw [Int.add_mul, Int.one_mul] at h2
    omega
  · exact c
  · exfalso
    have h2 : (r + 1) * w ≤ q * w := Int.mul_le_mul_of_nonneg_right (by omega) (by omega)
    rw [Int.add_mul, Int.one_mul] at h2
    omega
theorem flaws_run (xs : Nat → Int32) (L : Nat) {wide high : Int} (hw : 4 ≤ wide ∧ wide ≤ 24) (hh : 2 ≤ high ∧ high ≤ 12) (hwh : 8 ≤ wide * high ∧ wide * high ≤ 288) {t : List Int} : ∀ (k : Nat) (ts : List (List Int)) (w : Wd), k ≤ 8 → POSL w t (flwK xs L wide (wide * high) k ++ ts) → DRF w wide high 0 0 0 100 10 0 0 0 → FBt w (fun _ _ => false) →
    ∃ w' c, c ≤ k ∧ RUN w w' c ∧ POSL w' t ts ∧ DRF w' wide high 0 0 0 100 10 (flwN xs L (wide * high) k) 0 0 ∧ FBt w' (fun i r => decide (0 ≤ i ∧ i < wide) && tol xs L (wide * high) (r * wide + i) k) ∧ 0 ≤ flwN xs L (wide * high) k ∧ flwN xs L (wide * high) k ≤ k := by
  intro k
  induction k with
  | zero =>
    intro ts w _ h hD hF
    refine ⟨w, 0, Nat.le_refl _, RUN.rf w, h, hD, fun r r0 r1 i hi => ?_, Int.le_refl _, Int.le_refl _⟩
    rw [hF r r0 r1 i hi]
    show false = (decide _ && false)
    rw [Bool.and_false]
  | succ k ih =>
    intro ts w hk h hD hF
    have hc := drw_rng (xs := xs) (L := L) (k := 3 + (k : Nat)) (n := wide * high) (by omega)
    by_cases c : tol xs L (wide * high) (drw xs L (3 + (k : Nat)) (wide * high)) k = true
    · have e1 : flwK xs L wide (wide * high) (k + 1) = flwK xs L wide (wide * high) k := if_pos c
      have e2 : flwN xs L (wide * high) (k + 1) = flwN xs L (wide * high) k := if_pos c
      rw [e1] at h
      obtain ⟨w', n, a1, a2, a3, a4, a5, a6, a7⟩ := ih ts w (by omega) h hD hF
      refine ⟨w', n, by omega, a2, a3, by rw [e2]; exact a4, fun r r0 r1 i hi => ?_, by rw [e2]; exact a6, by rw [e2]; omega⟩
      rw [a5 r r0 r1 i hi]
      show (_ && tol xs L (wide * high) (r * wide + i) k) = (_ && (tol xs L (wide * high) (r * wide + i) k || decide (drw xs L (3 + (k : Nat)) (wide * high) = r * wide + i)))
      by_cases d : drw xs L (3 + (k : Nat)) (wide * high) = r * wide + i
      · rw [← d, c]; rfl
      · rw [decide_eq_false d, Bool.or_false]
    · have e1 : flwK xs L wide (wide * high) (k + 1) = flwK xs L wide (wide * high) k ++ [ctx 2, digs (drw xs L (3 + (k : Nat)) (wide * high) % wide), digs (drw xs L (3 + (k : Nat)) (wide * high) / wide), ctx 1] := if_neg c
      have e2 : flwN xs L (wide * high) (k + 1) = flwN xs L (wide * high) k + 1 := if_neg c
      have e3 : ∀ c' : Int, tol xs L (wide * high) c' (k + 1) = (tol xs L (wide * high) c' k || decide (drw xs L (3 + (k : Nat)) (wide * high) = c')) := fun _ => rfl
      generalize drw xs L (3 + (k : Nat)) (wide * high) = cell at hc c e1 e2 e3
      rw [e1, List.append_assoc] at h
      obtain ⟨w1, n, a1, a2, a3, a4, a5, a6, a7⟩ := ih _ w (by omega) h hD hF
      have hx1 : 0 ≤ cell % wide := Int.emod_nonneg _ (by omega)
      have hx2 : cell % wide < wide := Int.emod_lt_of_pos _ (by omega)
      have hy1 : 0 ≤ cell / wide := Int.ediv_nonneg hc.1 (by omega)
      have hy2 : cell / wide < high := Int.ediv_lt_of_lt_mul (by omega) (by rw [Int.mul_comm]; exact hc.2)
      have hdm : cell / wide * wide + cell % wide = cell := Int.ediv_mul_add_emod cell wide
      obtain ⟨w2, b1, b2', b3, b4⟩ := flaw_st (x := cell % wide) (y := cell / wide) a3 a4 a5 ⟨hw.2, hh.2⟩ ⟨hx1, hx2⟩ ⟨hy1, hy2⟩ ⟨a6, by omega⟩ (by
        show (_ && _) = false
        rw [hdm, bfF c, Bool.and_false])
      refine ⟨w2, n + 1, by omega, a2.tr (RUN.st (by decide) a3 b1), b2', by rw [e2]; exact b3, fun r r0 r1 i hi => ?_, by rw [e2]; omega, by rw [e2]; omega⟩
      rw [b4 r r0 r1 i hi]
      show ((decide (0 ≤ (i : Int) ∧ (i : Int) < wide) && tol xs L (wide * high) (r * wide + i) k) || decide ((i : Int) = cell % wide ∧ r = cell / wide)) = (decide (0 ≤ (i : Int) ∧ (i : Int) < wide) && tol xs L (wide * high) (r * wide + i) (k + 1))
      rw [e3]
      by_cases d : 0 ≤ (i : Int) ∧ (i : Int) < wide
      · rw [decide_eq_true d, Bool.true_and, Bool.true_and]
        congr 1
        refine decide_eq_decide.mpr ⟨fun q => ?_, fun q => ?_⟩
        · rw [q.1, q.2]; exact hdm.symm
        · have hq : cell / wide = r := dv_uniq (by omega) ⟨hx1, hx2⟩ d (by omega)
          exact ⟨by rw [hq] at hdm; omega, hq.symm⟩
      · rw [decide_eq_false d, Bool.false_and, Bool.false_and, Bool.false_or]
        exact decide_eq_false (fun q => d (by omega))
theorem gap_run (xs : Nat → Int32) (L : Nat) {t : List Int} {ts : List (List Int)} {w : Wd} {S : Int → Int → Bool} {wide high fl : Int} (h : POSL w t (gapK xs L ++ ts)) (hD : DRF w wide high 0 0 0 100 10 fl 0 0) (hF : FBt w S) :
    ∃ w' c gf, c ≤ 1 ∧ RUN w w' c ∧ POSL w' t ts ∧ DRF w' wide high (gapV xs L) 0 0 100 10 fl gf 0 ∧ FBt w' S := by
  unfold gapK at h
  unfold gapV
  split at h
  · rename_i c
    rw [if_pos c]
    have hr := drw_rng (xs := xs) (L := L) (k := 12) (n := 4) (by decide)
    generalize drw xs L 12 4 = g at h hr ⊢
    obtain ⟨w', a1, a2, a3, a4⟩ := gap_st h hD hF (by omega)
    exact ⟨w', 1, 1, Nat.le_refl _, RUN.st (by decide) h a1, a2, a3, a4⟩
  · rename_i c
    rw [if_neg c]
    exact ⟨w, 0, 0, Nat.zero_le _, RUN.rf w, h, hD, hF⟩
theorem chi_run (xs : Nat → Int32) (L : Nat) {t : List Int} {ts : List (List Int)} {w : Wd} {S : Int → Int → Bool} {wide high gp fl gf : Int} (h : POSL w t (chiK xs L ++ ts)) (hD : DRF w wide high gp 0 0 100 10 fl gf 0) (hF : FBt w S) :
    ∃ w' c cf, c ≤ 1 ∧ RUN w w' c ∧ POSL w' t ts ∧ DRF w' wide high gp 0 0 (sharpV xs L) (timeV xs L) fl gf cf ∧ FBt w' S := by
  unfold chiK at h
  unfold sharpV timeV
  split at h
  · rename_i c
    rw [if_pos c, if_pos c]
    have hr := drw_rng (xs := xs) (L := L) (k := 14) (n := 40) (by decide)
    have hr2 := drw_rng (xs := xs) (L := L) (k := 15) (n := 100) (by decide)
    generalize drw xs L 14 40 = s at h hr ⊢
    generalize drw xs L 15 100 = m at h hr2 ⊢
    obtain ⟨w', a1, a2, a3, a4⟩ := chi_st h hD hF (by omega) (by omega)
    exact ⟨w', 1, 1, Nat.le_refl _, RUN.st (by decide) h a1, a2, a3, a4⟩
  · rename_i c
    rw [if_neg c, if_neg c]
    exact ⟨w, 0, 0, Nat.zero_le _, RUN.rf w, h, hD, hF⟩
theorem wrdK_len (xs : Nat → Int32) (L : Nat) (wide p : Int) : ∀ i, (wrdK xs L wide p i).length = i
  | 0 => rfl
  | i + 1 => by unfold wrdK; rw [List.length_append, wrdK_len xs L wide p i]; rfl
theorem wrdK_ok (xs : Nat → Int32) (L : Nat) {wide p : Int} (hw : 1 ≤ wide) : ∀ i, ∀ tok ∈ wrdK xs L wide p i, Wok tok wide := by
  intro i
  induction i with
  | zero => intro tok h; exact absurd h List.not_mem_nil
  | succ i ih =>
    intro tok h
    unfold wrdK at h
    rcases List.mem_append.mp h with h | h
    · exact ih tok h
    · have hm := manyF_r (n := drw xs L (26 + 5 * p + (i : Nat)) 10000) (wide := wide) (drw_rng (by decide)).1 hw
      generalize drw xs L (26 + 5 * p + (i : Nat)) 10000 = q at hm h
      rw [List.mem_singleton.mp h]
      exact wlist_ok _ ⟨hm.1, Nat.le_trans hm.2.1 (by decide)⟩ hm.2.2
theorem its_r (xs : Nat → Int32) (L : Nat) (p : Int) : ∃ m : Nat, EqI (itsN xs L p) ((m + 1 : Nat) : Int) ∧ m ≤ 4 := by
  have h : ∀ a : Int, 0 ≤ a ∧ a < 5 → ∃ m : Nat, EqI (1 + a) ((m + 1 : Nat) : Int) ∧ m ≤ 4 := fun a ha => ⟨a.toNat, (by omega : 1 + a = _), by omega⟩
  exact h _ (drw_rng (by decide))
theorem parts_run (xs : Nat → Int32) (L : Nat) {wide high : Int} (hw : 4 ≤ wide ∧ wide ≤ 24) {t : List Int} {S : Int → Int → Bool} {gp sh ti fl gf cf : Int} : ∀ (p : Nat) (ts : List (List Int)) (w : Wd), p ≤ 3 → POSL w t (prtK xs L wide p ++ ts) → DRF w wide high gp 0 0 sh ti fl gf cf → FBt w S →
    ∃ w', RUN w w' p ∧ POSL w' t ts ∧ DRF w' wide high gp (p : Nat) (prtN xs L p) sh ti fl gf cf ∧ FBt w' S ∧ 0 ≤ prtN xs L p ∧ prtN xs L p ≤ 5 * p := by
  intro p
  induction p with
  | zero => intro ts w _ h hD hF; exact ⟨w, RUN.rf w, h, hD, hF, Int.le_refl _, Int.le_refl _⟩
  | succ p ih =>
    intro ts w hp h hD hF
    obtain ⟨m, hm1, hm2⟩ := its_r xs L (p : Nat)
    replace hm1 : itsN xs L (p : Nat) = ((m + 1 : Nat) : Int) := hm1
    have hk := knd_r (drw xs L (22 + (p : Nat)) 3)
    obtain ⟨kd, hkd⟩ : ∃ kd, kndI (drw xs L (22 + (p : Nat)) 3) = 6 + kd := ⟨kndI (drw xs L (22 + (p : Nat)) 3) - 6, by omega⟩
    have e1 : prtK xs L wide (p + 1) = prtK xs L wide p ++ (ctx (6 + kd) :: (wrdK xs L wide (p : Nat) (m + 1) ++ [ctx 1])) := by
      rw [prtK, hkd, hm1]; rfl
    have e2 : prtN xs L (p + 1) = prtN xs L p + ((m + 1 : Nat) : Int) := by rw [prtN, hm1]
    have hlen := wrdK_len xs L wide (p : Nat) (m + 1)
    have hok := wrdK_ok xs L (wide := wide) (p := (p : Nat)) (by omega) (m + 1)
    generalize wrdK xs L wide (p : Nat) (m + 1) = ws at e1 hlen hok
    match ws, hlen, hok, e1 with
    | [], hlen, _, _ => exact absurd hlen (by simp)
    | tok :: ws, hlen, hok, e1 =>
      rw [e1, List.append_assoc] at h
      obtain ⟨w1, a1, a2, a3, a4, a5, a6⟩ := ih _ w (by omega) h hD hF
      have a2' : POSL w1 t (ctx (6 + kd) :: tok :: (ws ++ ctx 1 :: ts)) := by
        have e3 : ctx (6 + kd) :: (tok :: ws ++ [ctx 1]) ++ ts = ctx (6 + kd) :: tok :: (ws ++ ctx 1 :: ts) := by simp only [List.append_assoc, List.cons_append, List.nil_append]
        rw [e3] at a2; exact a2
      simp only [List.length_cons] at hlen
      obtain ⟨w2, b1, b2', b3, b4⟩ := part_st (kd := kd) (by omega) a2' hok hw.2 a3 a4 (by omega) (by omega)
      refine ⟨w2, a1.tr (RUN.st (by omega) a2' b1), b2', ?_, b4, by rw [e2]; omega, by rw [e2]; omega⟩
      rw [e2]
      have e4 : prtN xs L p + (ws.length : Nat) + 1 = prtN xs L p + ((m + 1 : Nat) : Int) := by omega
      rw [e4] at b3
      exact b3
theorem size_t {w : Wd} {t : List Int} {ts : List (List Int)} {wd hi : Int} (h : POSL w t (ctx 0 :: digs wd :: digs hi :: ctx 1 :: ts)) (h0 : gF w 9 4 = 0 ∧ gF w 9 5 = 0 ∧ gF w 9 6 = 0) (hw : 4 ≤ wd ∧ wd ≤ 24) (hh : 2 ≤ hi ∧ hi ≤ 12) :
    ∃ w', p_X3_readSize 116 w = some (1, w') ∧ POSL w' t ts ∧ DRF w' wd hi 0 0 0 100 10 0 0 0 ∧ FBt w' (fun _ _ => false) := by
  obtain ⟨w1, s1, s2, s3⟩ := POS.go h
  obtain ⟨w2, n1, n2, n3, n4⟩ := num_t (show POS w1 t (digs wd) (digs hi :: ctx 1 :: ts) from s3) (by omega) (lo := 4) (hi := 24) (by omega)
  obtain ⟨w3, q1, q2, q3, q4⟩ := num_t (show POS w2 t (digs hi) (ctx 1 :: ts) from n3) (by omega) (lo := 2) (hi := 12) (by omega)
  have hz : ∀ i, 6 ≤ i → i < 1099 → (fun j : Int => if j = 0 then wd else if j = 1 then hi else if j = 3 then 100 else if j = 4 then 10 else if j = 5 then 100 else 0) i = 0 := fun i i0 i1 => by
    show (if i = 0 then wd else if i = 1 then hi else if i = 3 then 100 else if i = 4 then 10 else if i = 5 then 100 else 0) = 0
    rw [if_neg (by omega), if_neg (by omega), if_neg (by omega), if_neg (by omega), if_neg (by omega)]
  obtain ⟨w4, b1, b2', b3⟩ := slabB_o (w := w3) (c := wd) (r := hi) (f := fun j : Int => if j = 0 then wd else if j = 1 then hi else if j = 3 then 100 else if j = 4 then 10 else if j = 5 then 100 else 0) rfl rfl rfl rfl rfl rfl hz
  have q3' : POSL w3 t (ctx 1 :: ts) := q3
  have p4 : POSL w4 t (ctx 1 :: ts) := POS.fr q3' b2' (fun k q => by rcases q with q | q <;> exact absurd q (by decide)) (fun q => by rcases q with q | q <;> exact absurd q (by decide)) (by decide)
  obtain ⟨w5, u1, u2, u3⟩ := end_t (show POS w4 t (ctx 1) ts from p4)
  have h9 : ∀ k, 4 ≤ k → gF w4 9 k = gF w 9 k := fun k hk => (b2'.1 9 k (fun q => by rcases q with q | q <;> exact absurd q (by decide))).trans ((q2.1 9 k (by unfold Tc; omega)).trans ((n2.1 9 k (by unfold Tc; omega)).trans (s2.1 9 k (by unfold T8; decide))))
  obtain ⟨⟨c0, c1, c2, c4, c7, c11⟩, ⟨d0, d1, d2, d3, d4⟩, hb, _⟩ := b3
  have hD : DRF w4 wd hi 0 0 0 100 10 0 0 0 := ⟨⟨c0, c1, c2, c4.trans (hz 9 (by decide) (by decide)), c7.trans (hz 10 (by decide) (by decide))⟩, ⟨d0, d1⟩, ⟨(h9 4 (by decide)).trans h0.1, (h9 5 (by decide)).trans h0.2.1, (h9 6 (by decide)).trans h0.2.2⟩⟩
  have hF : FBt w4 (fun _ _ => false) := fun r r0 r1 i h32 => by
    rw [show gA w4 118 r = gA w4 (116 + 2) r from rfl, hb r r0 r1 i h32]
    by_cases c : i < 24
    · rw [show fcF (fun j : Int => if j = 0 then wd else if j = 1 then hi else if j = 3 then 100 else if j = 4 then 10 else if j = 5 then 100 else 0) i r = 0 from hz _ (by omega) (by omega)]
      rw [show decide ((0 : Int) = 1) = false by decide, Bool.and_false]
    · rw [decide_eq_false c, Bool.false_and]
  refine ⟨w5, ?_, u3, hD.tc (ft8 u2), hF.tc (ft8 u2)⟩
  unfold p_X3_readSize
  rw [says_t h (by decide), Option.bind_some]
  show (if eq32 (b2 (decide (ctx 0 = ctx 0))) 0 = true then _ else _) = _
  rw [decide_eq_true rfl, if_neg (by decide +kernel), s1, Option.bind_some, n1, Option.bind_some]
  dsimp only
  rw [if_neg (by decide +kernel), q1, Option.bind_some]
  dsimp only
  rw [if_neg (by decide +kernel), n4, q4, b1, Option.bind_some, u1, Option.bind_some]
  exact zrT w5
/-- the class reads the whole text -/
theorem read_g (xs : Nat → Int32) (L : Nat) {w : Wd} {t : List Int} {wide high : Int} {mn pn : Nat} (hw : 4 ≤ wide ∧ wide ≤ 24) (hh : 2 ≤ high ∧ high ≤ 12) (hwh : 8 ≤ wide * high ∧ wide * high ≤ 288) (n9 : mn ≤ 8) (n4 : pn ≤ 3) (hTK : TK ([ctx 0, digs wide, digs high, ctx 1] ++ flwK xs L wide (wide * high) mn ++ gapK xs L ++ chiK xs L ++ prtK xs L wide pn) t) (hC : TXC w (Bt t) (t.length : Nat)) :
    ∃ w' gf cf, p_X3_read 116 w = some (1, w') ∧ DRF w' wide high (gapV xs L) (pn : Nat) (prtN xs L pn) (sharpV xs L) (timeV xs L) (flwN xs L (wide * high) mn) gf cf := by
  have f0 : frm (fun o _ => o = 8 ∨ o = 9) T0 w (sF (sF (sF (sF (sF (sF (sF w 9 1 0) 9 2 (-1)) 9 4 0) 9 5 0) 9 6 0) 8 2 0) 8 3 0) := frm_sF (frm_sF (frm_sF (frm_sF (frm_sF (frm_sF (frm_sF (frm_refl w) (Or.inr rfl)) (Or.inr rfl)) (Or.inr rfl)) (Or.inr rfl)) (Or.inr rfl)) (Or.inl rfl)) (Or.inl rfl)
  have hA : AT0 (sF (sF (sF (sF (sF (sF (sF w 9 1 0) 9 2 (-1)) 9 4 0) 9 5 0) 9 6 0) 8 2 0) 8 3 0) t [] [] t := ⟨hC.fr f0 (by decide) id, by rw [List.nil_append, List.nil_append], by rw [gF_sF, if_neg (by decide), gF_sF, if_pos ⟨rfl, rfl⟩]; rfl, by rw [gF_sF, if_pos ⟨rfl, rfl⟩]; rfl⟩
  obtain ⟨w1, s1, s2, s3⟩ := step_t hA hTK
  have z9 : gF w1 9 4 = 0 ∧ gF w1 9 5 = 0 ∧ gF w1 9 6 = 0 := by
    refine ⟨(s2.1 9 4 (by unfold T8; decide)).trans ?_, (s2.1 9 5 (by unfold T8; decide)).trans ?_, (s2.1 9 6 (by unfold T8; decide)).trans ?_⟩
    · rw [gF_sF, if_neg (by decide), gF_sF, if_neg (by decide), gF_sF, if_neg (by decide), gF_sF, if_neg (by decide), gF_sF, if_pos ⟨rfl, rfl⟩]
    · rw [gF_sF, if_neg (by decide), gF_sF, if_neg (by decide), gF_sF, if_neg (by decide), gF_sF, if_pos ⟨rfl, rfl⟩]
    · rw [gF_sF, if_neg (by decide), gF_sF, if_neg (by decide), gF_sF, if_pos ⟨rfl, rfl⟩]
  have s3' : POSL w1 t (ctx 0 :: digs wide :: digs high :: ctx 1 :: (flwK xs L wide (wide * high) mn ++ (gapK xs L ++ (chiK xs L ++ (prtK xs L wide pn ++ []))))) := by
    have e : [ctx 0, digs wide, digs high, ctx 1] ++ flwK xs L wide (wide * high) mn ++ gapK xs L ++ chiK xs L ++ prtK xs L wide pn = ctx 0 :: digs wide :: digs high :: ctx 1 :: (flwK xs L wide (wide * high) mn ++ (gapK xs L ++ (chiK xs L ++ (prtK xs L wide pn ++ [])))) := by
      simp only [List.append_assoc, List.cons_append, List.nil_append, List.append_nil]
    rw [e] at s3; exact s3
  obtain ⟨w2, a1, a2, a3, a4⟩ := size_t s3' z9 hw hh
  obtain ⟨w3, c3, b0, b1, b2', b3, b4, b5, b6⟩ := flaws_run xs L hw hh hwh mn _ w2 (by omega) a2 a3 a4
  obtain ⟨w4, c4, gf, d0, d1, d2, d3, d4⟩ := gap_run xs L b2' b3 b4
  obtain ⟨w5, c5, cf, e0, e1, e2, e3, e4⟩ := chi_run xs L d2 d3 d4
  obtain ⟨w6, g1, g2, g3, g4, g5, g6⟩ := parts_run xs L hw pn [] w5 (by omega) e2 e3 e4
  refine ⟨w6, gf, cf, ?_, g3⟩
  clear b5 b6 g5 g6 hw hh hwh
  have hrun := ((b1.tr d1).tr e1).tr g1
  have k0 : gF w6 8 1 = 0 := by
    obtain ⟨pre, l, _, b, _⟩ := (show POS w6 t [] [] from g2)
    rw [b]; exact if_pos rfl
  unfold p_X3_read p_X7_restart
  rw [Option.bind_some, Option.bind_some, Option.bind_some, s1, Option.bind_some, Option.bind_some, a1, Option.bind_some]
  dsimp only
  rw [hrun FU 0 (Int.le_refl 0) (by omega) (by have : FU = 1000000 := rfl; omega)]
  obtain ⟨n', hn'⟩ : ∃ n', FU - (c3 + c4 + c5 + pn) = n' + 1 := ⟨FU - (c3 + c4 + c5 + pn) - 1, by have : FU = 1000000 := rfl; omega⟩
  rw [hn', p_X3_read_40, if_pos (by rw [lt32_o (by omega)]; omega), if_neg (by decide +kernel), k0, if_pos (by decide +kernel)]
  exact zrT w6
theorem read_t (xs : Nat → Int32) (L : Nat) {w : Wd} (hC : TXC w (Bt (loadT xs L)) ((loadT xs L).length : Nat)) :
    ∃ w' gf cf, p_X3_read 116 w = some (1, w') ∧ DRF w' (wideF xs L) (highF xs L) (gapV xs L) ((drw xs L 17 4).toNat : Nat) (prtN xs L (drw xs L 17 4).toNat) (sharpV xs L) (timeV xs L) (flwN xs L (wideF xs L * highF xs L) (drw xs L 2 9).toNat) gf cf :=
  read_g xs L (wide_rng (xs := xs) (L := L)) (high_rng (xs := xs) (L := L)) (whF_rng (xs := xs) (L := L)) (nat_le (n := 9) (drw_rng (xs := xs) (L := L) (k := 2) (n := 9) (by decide))).1 (nat_le (n := 4) (drw_rng (xs := xs) (L := L) (k := 17) (n := 4) (by decide))).1 (loadK_tk xs L) hC
