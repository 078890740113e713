/-! ===== both sides read on; a failure on both ===== -/
def PT (w m : Wd) (B : Int → Int) (N : Int) : Prop := TXC w B N ∧ TXM m B N ∧ gF m 50 24 = 0 ∧ ∃ s e K, TKat w m B N s e K
def IDL (m : Wd) : Prop := 1 ≤ gF m 50 24 ∧ gF m 50 24 ≤ 5
def BAD (w m : Wd) : Prop := gF w 9 1 = gF m 50 24 ∧ gF w 9 2 = gF m 50 25 ∧ IDL m
def T8 (o _k : Nat) : Prop := o = 8
def Tc (o k : Nat) : Prop := o = 8 ∨ (o = 9 ∧ k = 3)
def Te (o k : Nat) : Prop := o = 8 ∨ (o = 9 ∧ 1 ≤ k ∧ k ≤ 3)
def Sse (o k : Nat) : Prop := o = 50 ∧ 20 ≤ k ∧ k ≤ 25
theorem TXC.fr {w w' : Wd} {B : Int → Int} {N : Int} (h : TXC w B N) {S : Nat → Nat → Prop} {T : Nat → Prop} (hf : frm S T w w') (hS : ¬ S 2 1) (hT : ¬ T 4) : TXC w' B N := by
  refine ⟨(hf.1 2 1 hS).trans h.1, h.2.1, fun i i0 i1 => ?_⟩
  rw [hf.2.1 4 hT]; exact h.2.2 i i0 i1
theorem TKat.fr {w m w' m' : Wd} {B : Int → Int} {N s e K : Int} (h : TKat w m B N s e K) {S S' : Nat → Nat → Prop} {T T' : Nat → Prop} (hw : frm S T w w') (hm : frm S' T' m m') (hS : ∀ k, ¬ S 8 k) (hS' : ∀ k, 20 ≤ k → k ≤ 23 → ¬ S' 50 k) : TKat w' m' B N s e K := by
  unfold TKat at *
  rw [hw.1 8 1 (hS 1), hw.1 8 2 (hS 2), hw.1 8 3 (hS 3), hm.1 50 20 (hS' 20 (by omega) (by omega)), hm.1 50 21 (hS' 21 (by omega) (by omega)), hm.1 50 22 (hS' 22 (by omega) (by omega)), hm.1 50 23 (hS' 23 (by omega) (by omega))]
  exact h
theorem PT.fr {w m w' m' : Wd} {B : Int → Int} {N : Int} (h : PT w m B N) {S S' : Nat → Nat → Prop} {T T' : Nat → Prop} (hw : frm S T w w') (hm : frm S' T' m m') (hS : ∀ k, ¬ S 8 k) (h2 : ¬ S 2 1) (h4 : ¬ T 4) (hS' : ∀ k, 19 ≤ k → k ≤ 24 → ¬ S' 50 k) (h60 : ¬ T' 60) : PT w' m' B N := by
  obtain ⟨a, b, c, s, e, K, d⟩ := h
  exact ⟨a.fr hw h2 h4, b.fr hm (hS' 19 (by omega) (by omega)) h60, (hm.1 50 24 (hS' 24 (by omega) (by omega))).trans c, s, e, K, d.fr hw hm hS (fun k k0 k1 => hS' k (by omega) (by omega))⟩
theorem e10' : ¬ eq32 1 0 = true := by decide +kernel
theorem goOn_g {m : Wd} (h : gF m 50 24 = 0) : p_X9_goOn m = p_X9_scan m := by
  unfold p_X9_goOn
  rw [good_o h, Option.bind_some]
  dsimp only
  rw [if_neg e10']
  cases p_X9_scan m <;> rfl
theorem step2 {w m : Wd} {B : Int → Int} {N : Int} (h : PT w m B N) : ∃ w' m', p_X7_step w = some w' ∧ p_X9_goOn m = some m' ∧ frm T8 T0 w w' ∧ frm Ssc T0 m m' ∧ PT w' m' B N := by
  obtain ⟨h1, h2, h3, s, e, K, h4⟩ := h
  have h5 := h4
  obtain ⟨a, ⟨b1, b2', b3⟩, ⟨c1, c2, c3⟩, d⟩ := h5
  obtain ⟨w', m', e1, e2, e3, e4, e5⟩ := next_o h1 h2 (p := e) (by omega) (by omega) c2
  exact ⟨w', m', e1, (goOn_g h3).trans e2, e3, e4, h1.fr e3 (by decide) id, h2.fr e4 (by unfold Ssc; omega) id, (e4.1 50 24 (by unfold Ssc; omega)).trans h3, _, _, _, e5⟩
theorem errs_g {m : Wd} (h : gF m 50 24 = 0) {c : Int} : p_X9_errs c m = some (sF (sF m 50 24 c) 50 25 (gF m 50 21)) := by
  unfold p_X9_errs
  rw [good_o h, Option.bind_some]
  dsimp only
  rw [if_neg e10']
  rfl
theorem bad2 {w m : Wd} {B : Int → Int} {N : Int} (h : PT w m B N) {c : Int} (hc : 1 ≤ c ∧ c ≤ 5) : ∃ w' m', p_X3_fail c w = some (0, w') ∧ p_X9_errs c m = some m' ∧ BAD w' m' ∧ frm Te T0 w w' ∧ frm Sse T0 m m' := by
  obtain ⟨h1, h2, h3, s, e, K, h4⟩ := h
  refine ⟨sF (sF w 9 1 c) 9 2 (gF w 8 2), sF (sF m 50 24 c) 50 25 (gF m 50 21), rfl, errs_g h3, ⟨rfl, ?_, ?_⟩, frm_sF (frm_sF (frm_refl w) (by unfold Te; omega)) (by unfold Te; omega), frm_sF (frm_sF (frm_refl m) (by unfold Sse; omega)) (by unfold Sse; omega)⟩
  · show gF w 8 2 = gF m 50 21
    exact h4.2.1.1.trans h4.2.2.1.1.symm
  · unfold IDL
    rw [gF_sF, if_neg (by decide), gF_sF, if_pos ⟨rfl, rfl⟩]
    exact hc
/-! the model goes through the rest idle -/
section IDLE
variable {m : Wd}
theorem good_x (h : IDL m) : p_X9_good m = some (0, m) := by
  have h1 := h.1
  have h2 := h.2
  unfold p_X9_good
  rw [if_neg (show ¬ eq32 (gF m 50 24) 0 = true by rw [eq32_o (by omega)]; omega)]
theorem goOn_x (h : IDL m) : p_X9_goOn m = some m := by
  unfold p_X9_goOn
  rw [good_x h, Option.bind_some]
  dsimp only
  rw [if_pos e00]
theorem errs_x (h : IDL m) {c : Int} : p_X9_errs c m = some m := by
  unfold p_X9_errs
  rw [good_x h, Option.bind_some]
  dsimp only
  rw [if_pos e00]
theorem errsIf_x (h : IDL m) {c x : Int} : p_X9_errsIf x c m = some m := by
  unfold p_X9_errsIf
  rw [good_x h, Option.bind_some]
  dsimp only
  rw [if_pos e00]
theorem n47_x (h : IDL m) {lo : Int} : p_X9_numberHere_47 lo m = some (lo, m) := by
  unfold p_X9_numberHere_47
  rw [good_x h, Option.bind_some]
  dsimp only
  rw [if_pos e00]
theorem n20_x (h : IDL m) {lo hi : Int} : p_X9_numberHere_20 lo hi m = some (lo, m) := by
  unfold p_X9_numberHere_20
  rw [good_x h, Option.bind_some]
  dsimp only
  rw [if_pos e00]
  exact n47_x h
theorem numberHere_x (h : IDL m) {lo hi : Int} : p_X9_numberHere lo hi m = some (lo, m) := by
  unfold p_X9_numberHere
  rw [good_x h, Option.bind_some]
  dsimp only
  rw [if_pos e00]
  exact n20_x h
theorem number_x (h : IDL m) {lo hi : Int} : p_X9_number lo hi m = some (lo, m) := by
  unfold p_X9_number
  rw [numberHere_x h, Option.bind_some]
  dsimp only
  rw [goOn_x h, Option.bind_some]
theorem semicolon_x (h : IDL m) : p_X9_semicolon m = some m := by
  unfold p_X9_semicolon p_X9_semicolon_24 p_X9_semicolon_29
  rw [good_x h, Option.bind_some]
  dsimp only
  rw [if_pos e00, errs_x h, Option.bind_some, goOn_x h, Option.bind_some]
theorem isSign_x (h : IDL m) {c : Int} : p_X9_isSign c m = some (0, m) := by
  unfold p_X9_isSign
  rw [good_x h, Option.bind_some]
  dsimp only
  rw [if_pos e00]
theorem isWord_x (h : IDL m) {o : Nat} : p_X9_isWord o m = some (0, m) := by
  have hz : zr 0 m = some (0, m) := zr_b2 false m
  obtain ⟨n, hn⟩ : ∃ n, FU = n + 1 := ⟨999999, rfl⟩
  unfold p_X9_isWord p_X9_isWord_35 p_X9_isWord_36
  rw [good_x h, Option.bind_some]
  dsimp only
  rw [if_pos e00, hn]
  simp only [p_X9_isWord_39]
  by_cases c : lt32 0 ((slen o : Nat) : Int) = true
  · rw [if_pos c, if_pos e00, hz]
  · rw [if_neg c, hz]
theorem takeWord_x (h : IDL m) {o : Nat} : p_X9_takeWord o m = some m := by
  unfold p_X9_takeWord p_X9_takeWord_13
  rw [isWord_x h, Option.bind_some]
  dsimp only
  rw [if_pos e00, errs_x h, Option.bind_some, goOn_x h, Option.bind_some]
theorem takeW75_x (h : IDL m) {x : Int} : p_X9_takeW_75 x m = some m := by
  unfold p_X9_takeW_75 p_X9_takeW_90
  rw [errsIf_x h, Option.bind_some, good_x h, Option.bind_some]
  dsimp only
  rw [if_pos e00, goOn_x h, Option.bind_some]
theorem takeW53_x (h : IDL m) {x : Int} : p_X9_takeW_53 x m = some m := by
  unfold p_X9_takeW_53
  rw [errsIf_x h, Option.bind_some, if_neg (show ¬ inb 10 1099 = false by decide), takeW75_x h, takeW75_x h, ite_self]
theorem takeW27_x (h : IDL m) {x : Int} : p_X9_takeW_27 x m = some m := by
  unfold p_X9_takeW_27
  rw [errsIf_x h, Option.bind_some, wide_o (f := cR m) rfl, Option.bind_some]
  dsimp only
  rw [takeW53_x h, takeW53_x h, ite_self]
theorem takeW_x (h : IDL m) : p_X9_takeW m = some m := by
  unfold p_X9_takeW p_X9_takeW_22 p_X9_isW p_X9_isW_16
  by_cases c : eq32 (gF m 50 22) 1 = true
  · rw [if_pos c, Option.bind_some]; dsimp only; rw [if_neg e10', takeW27_x h, takeW27_x h, ite_self]
  · rw [if_neg c]
    by_cases d : eq32 (gF m 50 22) 2 = true
    · rw [if_pos d, Option.bind_some]; dsimp only; rw [if_neg e10', takeW27_x h, takeW27_x h, ite_self]
    · rw [if_neg d, Option.bind_some]; dsimp only; rw [if_pos e00, takeW27_x h]
end IDLE
theorem n47_g {m : Wd} (h : gF m 50 24 = 0) {lo : Int} : p_X9_numberHere_47 lo m = some (gF m 50 23, m) := by
  unfold p_X9_numberHere_47
  rw [good_o h, Option.bind_some]
  dsimp only
  rw [if_neg e10']
theorem errsIf_0 {m : Wd} {c : Int} (h : gF m 50 24 = 0) : p_X9_errsIf 0 c m = some m := by
  unfold p_X9_errsIf
  rw [good_o h, Option.bind_some]
  dsimp only
  rw [if_neg e10', if_pos e00]
theorem errsIf_1 {m : Wd} {c : Int} (h : gF m 50 24 = 0) : p_X9_errsIf 1 c m = p_X9_errs c m := by
  unfold p_X9_errsIf
  rw [good_o h, Option.bind_some]
  dsimp only
  rw [if_neg e10', if_neg e10']
  cases p_X9_errs c m <;> rfl
/-- what a word of both sides leaves -/
def OUT (r : Bool) (w m w' m' : Wd) (B : Int → Int) (N : Int) : Prop := (r = true ∧ PT w' m' B N ∧ frm Tc T0 w w' ∧ frm Ssc T0 m m') ∨ (r = false ∧ BAD w' m' ∧ frm Te T0 w w' ∧ frm Sse T0 m m')
theorem zr_0 (w : Wd) : zr 0 w = some (0, w) := zr_b2 false w
theorem chk_o {w m : Wd} {B : Int → Int} {N : Int} (h : PT w m B N) {lo hi : Int} (hr : 0 ≤ lo ∧ lo ≤ hi ∧ hi ≤ 999) : ∃ r v w' m', p_X3_checkNumber lo hi w = some (b2 r, w') ∧ p_X9_numberHere lo hi m = some (v, m') ∧ (lo ≤ v ∧ v ≤ hi) ∧
    ((r = true ∧ PT w' m B N ∧ frm (fun o k => o = 9 ∧ k = 3) T0 w w' ∧ m' = m ∧ gF w' 9 3 = v) ∨ (r = false ∧ BAD w' m' ∧ frm Te T0 w w' ∧ frm Sse T0 m m')) := by
  have h0 := h
  obtain ⟨h1, h2, h3, s, e, K, h4⟩ := h
  have hk := h4.2.1.2.2
  have hk' := h4.2.2.1.2.2
  have hKr : 0 ≤ K ∧ K ≤ 3 := by rcases h4.2.2.2.1 with q | q <;> omega
  unfold p_X3_checkNumber p_X9_numberHere
  rw [good_o h3, Option.bind_some, hk]
  dsimp only
  rw [if_neg e10', hk']
  by_cases c : K = 2
  · have hK : eq32 K 2 = true := by rw [eq32_o (by omega)]; exact c
    rw [if_pos hK, if_pos hK]
    subst c
    obtain ⟨v1, v2⟩ := value_o h1 h4
    have hv := h4.2.2.2.2.1 rfl
    rw [v1, Option.bind_some]
    dsimp only
    rw [show gF (sF w 9 3 (vC B s (e - s).toNat)) 9 3 = vC B s (e - s).toNat by rw [gF_sF, if_pos ⟨rfl, rfl⟩]]
    generalize vC B s (e - s).toNat = v at *
    have hfr : frm (fun o k => o = 9 ∧ k = 3) T0 w (sF w 9 3 v) := frm_sF (frm_refl w) ⟨rfl, rfl⟩
    have hP : PT (sF w 9 3 v) m B N := h0.fr hfr (frm_refl (S := S0) (T := T0) m) (fun k q => absurd q.1 (by decide)) (fun q => absurd q.1 (by decide)) id (fun _ _ _ q => q) id
    have e93 : gF (sF w 9 3 v) 9 3 = v := by rw [gF_sF, if_pos ⟨rfl, rfl⟩]
    unfold p_X9_numberHere_20
    rw [good_o h3, Option.bind_some]
    dsimp only
    rw [if_neg e10', hv, w32_o (show -2147483648 ≤ min 9999 v ∧ min 9999 v < 2147483648 by omega), w32_o (show -2147483648 ≤ lo ∧ lo < 2147483648 by omega), w32_o (show -2147483648 ≤ hi ∧ hi < 2147483648 by omega), in_o (by omega), Option.bind_some]
    simp only [eq32_b2]
    generalize sF w 9 3 v = w1 at *
    by_cases d : lo ≤ v ∧ v ≤ hi
    · rw [decide_eq_true (show lo ≤ min 9999 v ∧ min 9999 v ≤ hi by omega), if_neg (show ¬ true = false by decide), if_neg (show ¬ lt32 v lo = true by rw [lt32_o (by omega)]; omega), if_neg (show ¬ lt32 hi v = true by rw [lt32_o (by omega)]; omega), n47_g h3, hv, show min 9999 v = v by omega]
      exact ⟨true, v, w1, m, rfl, rfl, d, Or.inl ⟨rfl, hP, hfr, rfl, e93⟩⟩
    · obtain ⟨w', m', f1, f2, f3, f4, f5⟩ := bad2 hP (c := 2) (by decide)
      have h44 : p_X3_checkNumber_44 w1 = some (b2 false, w') := by
        unfold p_X3_checkNumber_44
        rw [f1, Option.bind_some]
        dsimp only
        rw [if_pos e00]; rfl
      rw [decide_eq_false (show ¬ (lo ≤ min 9999 v ∧ min 9999 v ≤ hi) by omega), if_pos rfl, f2, Option.bind_some, n47_x f3.2.2, h44]
      refine ⟨false, lo, w', m', ?_, rfl, by omega, Or.inr ⟨rfl, f3, frm_trans (frm_mono hfr (fun o k q => Or.inr (by omega)) (fun _ q => q)) f4, f5⟩⟩
      by_cases g : lt32 v lo = true
      · rw [if_pos g]
      · rw [if_neg g, if_pos (show lt32 hi v = true by rw [lt32_o (by omega)] at g ⊢; omega)]
  · have hK : ¬ eq32 K 2 = true := by rw [eq32_o (by omega)]; exact c
    rw [if_neg hK, if_neg hK]
    obtain ⟨w', m', f1, f2, f3, f4, f5⟩ := bad2 h0 (c := 1) (by decide)
    rw [f1, Option.bind_some, f2, Option.bind_some, n20_x f3.2.2]
    exact ⟨false, lo, w', m', zr_0 w', rfl, by omega, Or.inr ⟨rfl, f3, f4, f5⟩⟩
theorem num_o {w m : Wd} {B : Int → Int} {N : Int} (h : PT w m B N) {lo hi : Int} (hr : 0 ≤ lo ∧ lo ≤ hi ∧ hi ≤ 999) : ∃ r v w' m', p_X3_readNumber lo hi w = some (b2 r, w') ∧ p_X9_number lo hi m = some (v, m') ∧ (lo ≤ v ∧ v ≤ hi) ∧ OUT r w m w' m' B N ∧ (r = true → gF w' 9 3 = v) := by
  obtain ⟨r, v, w1, m1, a1, a2, a3, a4⟩ := chk_o h hr
  unfold p_X3_readNumber p_X9_number
  rw [a1, Option.bind_some, a2, Option.bind_some]
  dsimp only
  rcases a4 with ⟨rfl, b1, b2', rfl, b4⟩ | ⟨rfl, b1, b2', b3⟩
  · obtain ⟨w2, m2, c1, c2, c3, c4, c5⟩ := step2 b1
    rw [if_neg (show ¬ eq32 (b2 true) 0 = true by decide +kernel), c1, Option.bind_some, c2, Option.bind_some]
    exact ⟨true, v, w2, m2, rfl, rfl, a3, Or.inl ⟨rfl, c5, frm_trans (frm_mono b2' (fun o k q => Or.inr q) (fun _ q => q)) (frm_mono c3 (fun o k q => Or.inl q) (fun _ q => q)), c4⟩, fun _ => (c3.1 9 3 (by unfold T8; decide)).trans b4⟩
  · rw [if_pos (show eq32 (b2 false) 0 = true by decide +kernel), goOn_x b1.2.2, Option.bind_some]
    exact ⟨false, v, w1, m1, rfl, rfl, a3, Or.inr ⟨rfl, b1, b2', b3⟩, fun q => absurd q (by decide)⟩
theorem end_o {w m : Wd} {B : Int → Int} {N : Int} (h : PT w m B N) : ∃ r w' m', p_X3_readEnd w = some (b2 r, w') ∧ p_X9_semicolon m = some m' ∧ OUT r w m w' m' B N := by
  have h0 := h
  obtain ⟨h1, h2, h3, s, e, K, h4⟩ := h
  have hKr : 0 ≤ K ∧ K ≤ 3 := by rcases h4.2.2.2.1 with q | q <;> omega
  unfold p_X3_readEnd p_X9_semicolon p_X9_semicolon_24 p_X9_semicolon_29
  rw [says_o h1 h4.1 h4.2.1.1 h4.2.1.2.1 (show 1 < 9 by decide), semi_iff h4, Option.bind_some, good_o h3, Option.bind_some]
  dsimp only
  rw [if_neg e10', h4.2.2.1.2.2]
  simp only [eq32_b2]
  by_cases c : K = 3 ∧ B s = 59
  · have e23 := h4.2.2.2.2.2 c.1
    obtain ⟨w2, m2, c1, c2, c3, c4, c5⟩ := step2 h0
    rw [decide_eq_true c, if_neg (show ¬ true = false by decide), if_pos (show eq32 K 3 = true by rw [eq32_o (by omega)]; exact c.1), e23, c.2, if_pos (show eq32 59 59 = true by decide +kernel), c1, Option.bind_some, c2, Option.bind_some]
    exact ⟨true, w2, m2, rfl, rfl, Or.inl ⟨rfl, c5, frm_mono c3 (fun o k q => Or.inl q) (fun _ q => q), c4⟩⟩
  · obtain ⟨w', m', f1, f2, f3, f4, f5⟩ := bad2 h0 (c := 1) (by decide)
    rw [decide_eq_false c, if_pos rfl, f1, Option.bind_some, f2]
    simp only [Option.bind_some]
    rw [goOn_x f3.2.2, Option.bind_some]
    refine ⟨false, w', m', zr_0 w', ?_, Or.inr ⟨rfl, f3, f4, f5⟩⟩
    by_cases d : K = 3
    · have e23 := h4.2.2.2.2.2 d
      have hb : 0 ≤ B s ∧ B s ≤ 255 := by
        rcases h4.2.2.2.1 with q | q
        · omega
        · exact (h1.2.2 s h4.1.1 (by have := h4.1; have := q.2.2.1; omega)).2
      rw [if_pos (show eq32 K 3 = true by rw [eq32_o (by omega)]; exact d), e23, if_neg (show ¬ eq32 (B s) 59 = true by rw [eq32_o (by omega)]; exact fun q => c ⟨d, q⟩)]
    · rw [if_neg (show ¬ eq32 K 3 = true by rw [eq32_o (by omega)]; exact d)]
