/-! ===== the tokens of the law's texts, as the class reads them ===== -/
def Bt (t : List Int) : Int → Int := fun i => t.getD i.toNat 0
def kdT (tok : List Int) : Int := kdB (tok.getD 0 0)
/-- a token, and what comes behind it -/
def WT (tok l : List Int) : Prop := 1 ≤ tok.length ∧ (∀ j, j < tok.length → kdB (tok.getD j 0) = kdT tok) ∧ (tok.getD 0 0 ≠ 32 ∧ tok.getD 0 0 ≠ 10) ∧ (kdT tok = 3 → tok.length = 1) ∧ (kdT tok ≠ 3 → l = [] ∨ kdB (l.getD 0 0) ≠ kdT tok)
/-- the tokens of a text -/
def TK : List (List Int) → List Int → Prop
  | [], l => l = []
  | t :: ts, l => ∃ sp l', (sp = [] ∨ sp = [32]) ∧ l = sp ++ (t ++ l') ∧ WT t l' ∧ TK ts l'
def AT0 (w : Wd) (t pre tok l : List Int) : Prop := TXC w (Bt t) (t.length : Nat) ∧ t = pre ++ (tok ++ l) ∧ gF w 8 2 = (pre.length : Nat) ∧ gF w 8 3 = (tok.length : Nat)
/-- the class stands at a token; these come behind it -/
def POS (w : Wd) (t tok : List Int) (ts : List (List Int)) : Prop := ∃ pre l, AT0 w t pre tok l ∧ gF w 8 1 = (if tok = [] then 0 else kdT tok) ∧ TK ts l
theorem bt_at {a b c : List Int} {j : Nat} (h : j < b.length) : Bt (a ++ (b ++ c)) (((a.length : Nat) : Int) + (j : Nat)) = b.getD j 0 := by
  unfold Bt
  rw [show (((a.length : Nat) : Int) + (j : Nat)).toNat = a.length + j by omega, getD_app_r, getD_app_l h]
theorem bt_end {a b c : List Int} : Bt (a ++ (b ++ c)) (((a.length : Nat) : Int) + (b.length : Nat)) = c.getD 0 0 := by
  unfold Bt
  rw [show (((a.length : Nat) : Int) + (b.length : Nat)).toNat = a.length + (b.length + 0) by omega, getD_app_r, getD_app_r]
theorem en_run {B : Int → Int} {N k : Int} : ∀ (m : Nat) (x : Int) (n : Nat), n ≤ m → x + n ≤ N → (∀ i, x ≤ i → i < x + n → kdB (B i) = k) → (x + n = N ∨ kdB (B (x + n)) ≠ k) → enF B N k m x = x + n := by
  intro m
  induction m with
  | zero => intro x n hn _ _ _; rw [show n = 0 by omega]; show x = x + 0; omega
  | succ m ih =>
    intro x n hn hN hk he
    unfold enF
    by_cases c : n = 0
    · subst c
      have e0 : x + ((0 : Nat) : Int) = x := by omega
      rw [e0] at he ⊢
      rw [if_neg (fun q => by rcases he with e | e; exact absurd q.1 (by omega); exact e q.2)]
    · rw [if_pos ⟨by omega, hk x (Int.le_refl _) (by omega)⟩, ih (x + 1) (n - 1) (by omega) (by omega) (fun i i0 i1 => hk i (by omega) (by omega)) (by rw [show x + 1 + ((n - 1 : Nat) : Int) = x + n by omega]; exact he)]
      omega
theorem sk_0 {B : Int → Int} {N : Int} (m : Nat) {p : Int} (h : ¬ (p < N ∧ (B p = 32 ∨ B p = 10))) : skF B N (m + 1) p = p := if_neg h
theorem sk_1 {B : Int → Int} {N : Int} (m : Nat) {p : Int} (h : p < N ∧ (B p = 32 ∨ B p = 10)) : skF B N (m + 1) p = skF B N m (p + 1) := if_pos h
theorem step_t {w : Wd} {t pre tok l : List Int} {ts : List (List Int)} (h : AT0 w t pre tok l) (hk : TK ts l) : ∃ w', p_X7_step w = some w' ∧ frm T8 T0 w w' ∧ POS w' t (ts.headD []) ts.tail := by
  obtain ⟨hC, ht, h2, h3⟩ := h
  have hlen : t.length = pre.length + (tok.length + l.length) := by rw [ht, List.length_append, List.length_append]
  have hN := hC.2.1
  have hst := step_o hC (p := (pre.length : Nat) + (tok.length : Nat)) (by rw [h2, h3]) (by omega)
  have hfr : frm T8 T0 w (sF (sF (sF w 8 2 (tkS (Bt t) (t.length : Nat) ((pre.length : Nat) + (tok.length : Nat)))) 8 1 (tkK (Bt t) (t.length : Nat) ((pre.length : Nat) + (tok.length : Nat)))) 8 3 (tkE (Bt t) (t.length : Nat) ((pre.length : Nat) + (tok.length : Nat)) - tkS (Bt t) (t.length : Nat) ((pre.length : Nat) + (tok.length : Nat)))) := frm_sF (frm_sF (frm_sF (frm_refl w) rfl) rfl) rfl
  have hC' := hC.fr hfr (by unfold T8; decide) id
  refine ⟨_, hst, hfr, ?_⟩
  generalize hw' : (sF (sF (sF w 8 2 (tkS (Bt t) (t.length : Nat) ((pre.length : Nat) + (tok.length : Nat)))) 8 1 (tkK (Bt t) (t.length : Nat) ((pre.length : Nat) + (tok.length : Nat)))) 8 3 (tkE (Bt t) (t.length : Nat) ((pre.length : Nat) + (tok.length : Nat)) - tkS (Bt t) (t.length : Nat) ((pre.length : Nat) + (tok.length : Nat)))) = w' at *
  have g2 : gF w' 8 2 = tkS (Bt t) (t.length : Nat) ((pre.length : Nat) + (tok.length : Nat)) := by rw [← hw', gF_sF, if_neg (by decide), gF_sF, if_neg (by decide), gF_sF, if_pos ⟨rfl, rfl⟩]
  have g1 : gF w' 8 1 = tkK (Bt t) (t.length : Nat) ((pre.length : Nat) + (tok.length : Nat)) := by rw [← hw', gF_sF, if_neg (by decide), gF_sF, if_pos ⟨rfl, rfl⟩]
  have g3 : gF w' 8 3 = tkE (Bt t) (t.length : Nat) ((pre.length : Nat) + (tok.length : Nat)) - tkS (Bt t) (t.length : Nat) ((pre.length : Nat) + (tok.length : Nat)) := by rw [← hw', gF_sF, if_pos ⟨rfl, rfl⟩]
  clear hw' hst hfr
  cases ts with
  | nil =>
    have hl : l = [] := hk
    subst hl
    have hS : tkS (Bt t) (t.length : Nat) ((pre.length : Nat) + (tok.length : Nat)) = (t.length : Nat) := by
      refine (sk_0 499 (fun q => absurd q.1 (by simp only [List.length_nil] at hlen; omega))).trans ?_
      simp only [List.length_nil] at hlen; omega
    have hK : tkK (Bt t) (t.length : Nat) ((pre.length : Nat) + (tok.length : Nat)) = 0 := by
      unfold tkK; rw [hS, if_neg (by omega)]
    have hE : tkE (Bt t) (t.length : Nat) ((pre.length : Nat) + (tok.length : Nat)) = (t.length : Nat) := by
      unfold tkE; rw [hS, if_neg (by omega)]
    refine ⟨t, [], ⟨hC', by rw [List.append_nil]; exact (List.append_nil t).symm, by rw [g2, hS], by rw [g3, hE, hS]; show _ = ((0 : Nat) : Int); omega⟩, ?_, rfl⟩
    show gF w' 8 1 = (if ([] : List Int) = [] then 0 else _)
    rw [if_pos rfl, g1, hK]
  | cons t1 ts =>
    obtain ⟨sp, l', hsp, rfl, hW, hTK⟩ := hk
    obtain ⟨w1, w2, w3, w4, w5⟩ := hW
    have ht' : t = (pre ++ (tok ++ sp)) ++ (t1 ++ l') := by rw [ht]; simp only [List.append_assoc]
    have hpl : (pre ++ (tok ++ sp)).length = pre.length + (tok.length + sp.length) := by rw [List.length_append, List.length_append]
    have hlen' : t.length = (pre ++ (tok ++ sp)).length + (t1.length + l'.length) := by
      have := congrArg List.length ht'
      simp only [List.length_append] at this ⊢
      omega
    have b0 : Bt t ((pre ++ (tok ++ sp)).length : Nat) = t1.getD 0 0 := by
      have := bt_at (a := pre ++ (tok ++ sp)) (b := t1) (c := l') (j := 0) (by omega)
      rw [← ht'] at this
      rw [← this]; exact congrArg (Bt t) (by omega)
    have hS : tkS (Bt t) (t.length : Nat) ((pre.length : Nat) + (tok.length : Nat)) = ((pre ++ (tok ++ sp)).length : Nat) := by
      have hstop : ∀ m, skF (Bt t) (t.length : Nat) (m + 1) ((pre ++ (tok ++ sp)).length : Nat) = ((pre ++ (tok ++ sp)).length : Nat) := fun m => sk_0 m (fun q => by rw [b0] at q; rcases q.2 with e | e; exact w3.1 e; exact w3.2 e)
      rcases hsp with rfl | rfl
      · have e : ((pre.length : Nat) : Int) + (tok.length : Nat) = ((pre ++ (tok ++ [])).length : Nat) := by rw [hpl]; show _ = ((pre.length + (tok.length + 0) : Nat) : Int); omega
        rw [e]; exact hstop 499
      · have hb : Bt t (((pre.length : Nat) : Int) + (tok.length : Nat)) = 32 := by
          have h9 : t = (pre ++ tok) ++ ([32] ++ (t1 ++ l')) := by rw [ht]; simp only [List.append_assoc]
          have := bt_at (a := pre ++ tok) (b := [32]) (c := t1 ++ l') (j := 0) (by decide)
          rw [← h9] at this
          rw [show ((pre.length : Nat) : Int) + (tok.length : Nat) = (((pre ++ tok).length : Nat) : Int) + ((0 : Nat) : Int) by rw [List.length_append]; omega]
          exact this
        refine (sk_1 499 ⟨by rw [hpl] at hlen'; omega, Or.inl hb⟩).trans ?_
        have e : ((pre.length : Nat) : Int) + (tok.length : Nat) + 1 = ((pre ++ (tok ++ [32])).length : Nat) := by rw [hpl]; show _ = ((pre.length + (tok.length + 1) : Nat) : Int); omega
        rw [e]; exact hstop 498
    have hK : tkK (Bt t) (t.length : Nat) ((pre.length : Nat) + (tok.length : Nat)) = kdT t1 := by
      unfold tkK; rw [hS, if_pos (by omega), b0]; rfl
    have hE : tkE (Bt t) (t.length : Nat) ((pre.length : Nat) + (tok.length : Nat)) = ((pre ++ (tok ++ sp)).length : Nat) + (t1.length : Nat) := by
      unfold tkE; rw [hS, if_pos (by omega), b0]
      show (if kdT t1 = 3 then _ else enF _ _ (kdT t1) 500 _) = _
      by_cases c : kdT t1 = 3
      · rw [if_pos c, w4 c]; rfl
      · have e9 : ((pre ++ (tok ++ sp)).length : Nat) + (1 : Int) + ((t1.length - 1 : Nat) : Int) = ((pre ++ (tok ++ sp)).length : Nat) + (t1.length : Nat) := by omega
        have he := en_run (B := Bt t) (N := (t.length : Nat)) (k := kdT t1) 500 (((pre ++ (tok ++ sp)).length : Nat) + 1) (t1.length - 1) (by omega) (by omega) (fun i i0 i1 => by
          obtain ⟨j, hj⟩ : ∃ j : Nat, i = (((pre ++ (tok ++ sp)).length : Nat) : Int) + (j : Nat) := ⟨(i - ((pre ++ (tok ++ sp)).length : Nat)).toNat, by omega⟩
          have hjl : j < t1.length := by omega
          have := bt_at (a := pre ++ (tok ++ sp)) (b := t1) (c := l') hjl
          rw [← ht', ← hj] at this
          rw [this]; exact w2 j hjl) (by
          rw [e9]
          rcases w5 c with e | e
          · left; rw [hlen', e]; simp only [List.length_nil]; omega
          · right
            have := bt_end (a := pre ++ (tok ++ sp)) (b := t1) (c := l')
            rw [← ht'] at this
            rw [this]; exact e)
        rw [if_neg c, he]; exact e9
    refine ⟨pre ++ (tok ++ sp), l', ⟨hC', ht', by rw [g2, hS], by rw [g3, hE, hS]; show _ = ((t1.length : Nat) : Int); omega⟩, ?_, hTK⟩
    show gF w' 8 1 = (if t1 = [] then 0 else _)
    rw [if_neg (fun q => by rw [q] at w1; exact absurd w1 (by decide)), g1, hK]
    rfl
theorem POS.go {w : Wd} {t tok : List Int} {ts : List (List Int)} (h : POS w t tok ts) : ∃ w', p_X7_step w = some w' ∧ frm T8 T0 w w' ∧ POS w' t (ts.headD []) ts.tail := by
  obtain ⟨pre, l, h1, _, h3⟩ := h
  exact step_t h1 h3
theorem POS.fr {w w' : Wd} {t tok : List Int} {ts : List (List Int)} (h : POS w t tok ts) {S : Nat → Nat → Prop} {T : Nat → Prop} (hf : frm S T w w') (hS : ∀ k, ¬ S 8 k) (h2 : ¬ S 2 1) (h4 : ¬ T 4) : POS w' t tok ts := by
  obtain ⟨pre, l, ⟨a1, a2, a3, a4⟩, b, c⟩ := h
  exact ⟨pre, l, ⟨a1.fr hf h2 h4, a2, (hf.1 8 2 (hS 2)).trans a3, (hf.1 8 3 (hS 3)).trans a4⟩, (hf.1 8 1 (hS 1)).trans b, c⟩
theorem list_ext0 {a b : List Int} (h : a.length = b.length) (h2 : ∀ j, j < a.length → a.getD j 0 = b.getD j 0) : a = b := by
  refine List.ext_getElem h (fun j j1 j2 => ?_)
  have := h2 j j1
  rw [List.getD_eq_getElem?_getD, List.getElem?_eq_getElem j1, List.getD_eq_getElem?_getD, List.getElem?_eq_getElem j2] at this
  exact this
theorem eqW_iff {B : Int → Int} {s : Int} {o : Nat} : ∀ (n x : Nat), eqW B s o n x = true ↔ ∀ j : Nat, x ≤ j → j < x + n → B (s + (j : Nat)) = sch o (j : Nat) := by
  intro n
  induction n with
  | zero => intro x; exact ⟨fun _ j j0 j1 => absurd j1 (by omega), fun _ => rfl⟩
  | succ n ih =>
    intro x
    unfold eqW
    rw [Bool.and_eq_true, decide_eq_true_iff, ih]
    refine ⟨fun h j j0 j1 => ?_, fun h => ⟨h x (Nat.le_refl _) (by omega), fun j j0 j1 => h j (by omega) (by omega)⟩⟩
    by_cases c : j = x
    · rw [c]; exact h.1
    · exact h.2 j (by omega) (by omega)
theorem ctx_sch : ∀ o, o < 9 → ∀ j, j < slen o → (ctx o).getD j 0 = sch o ((j : Nat) : Int) := by decide +kernel
theorem says_t {w : Wd} {t tok : List Int} {ts : List (List Int)} (h : POS w t tok ts) {o : Nat} (ho : o < 9) : p_X7_says o w = some (b2 (decide (tok = ctx o)), w) := by
  obtain ⟨pre, l, ⟨hC, ht, h2, h3⟩, _, _⟩ := h
  have hlen : t.length = pre.length + (tok.length + l.length) := by rw [ht, List.length_append, List.length_append]
  have hcl := ctx_len o (by omega)
  rw [says_o hC (s := (pre.length : Nat)) (e := (pre.length : Nat) + (tok.length : Nat)) ⟨by omega, by omega, by omega⟩ h2 (by rw [h3]; omega) ho]
  have key : (decide (((pre.length : Nat) : Int) + (tok.length : Nat) - (pre.length : Nat) = (slen o : Nat)) && eqW (Bt t) (pre.length : Nat) o (slen o) 0) = decide (tok = ctx o) := by
    refine Bool.eq_iff_iff.mpr ?_
    rw [Bool.and_eq_true, decide_eq_true_iff, decide_eq_true_iff, eqW_iff]
    have hb : ∀ j, j < tok.length → Bt t (((pre.length : Nat) : Int) + (j : Nat)) = tok.getD j 0 := fun j hj => by
      have := bt_at (a := pre) (b := tok) (c := l) hj
      rw [← ht] at this; exact this
    constructor
    · rintro ⟨q1, q2⟩
      have hl : tok.length = slen o := by omega
      exact list_ext0 (by omega) (fun j hj => by rw [← hb j hj, q2 j (by omega) (by omega), ctx_sch o ho j (by omega)])
    · intro e
      have hl : tok.length = slen o := by rw [e]; exact hcl
      exact ⟨by omega, fun j _ j1 => by rw [hb j (by omega), e, ctx_sch o ho j (by omega)]⟩
  rw [key]
theorem digs_kd {v : Int} (hv : 0 ≤ v ∧ v < 100) : kdT (digs v) = 2 ∧ (∀ j, j < (digs v).length → kdB ((digs v).getD j 0) = 2) ∧ digs v ≠ [] := by
  unfold kdT digs
  split
  · refine ⟨kd_2.mpr (by show 48 ≤ 48 + v ∧ 48 + v ≤ 57; omega), fun j hj => ?_, List.cons_ne_nil _ _⟩
    match j, hj with
    | 0, _ => exact kd_2.mpr (by show 48 ≤ 48 + v ∧ 48 + v ≤ 57; omega)
  · refine ⟨kd_2.mpr (by show 48 ≤ 48 + v / 10 ∧ 48 + v / 10 ≤ 57; omega), fun j hj => ?_, List.cons_ne_nil _ _⟩
    match j, hj with
    | 0, _ => exact kd_2.mpr (by show 48 ≤ 48 + v / 10 ∧ 48 + v / 10 ≤ 57; omega)
    | 1, _ => exact kd_2.mpr (by show 48 ≤ 48 + v % 10 ∧ 48 + v % 10 ≤ 57; omega)
theorem value_t {w : Wd} {t : List Int} {v : Int} {ts : List (List Int)} (h : POS w t (digs v) ts) (hv : 0 ≤ v ∧ v < 100) : p_X7_value w = some (v, w) := by
  obtain ⟨pre, l, ⟨hC, ht, h2, h3⟩, _, _⟩ := h
  have hlen : t.length = pre.length + ((digs v).length + l.length) := by rw [ht, List.length_append, List.length_append]
  have hN := hC.2.1
  have hb : ∀ j, j < (digs v).length → Bt t (((pre.length : Nat) : Int) + (j : Nat)) = (digs v).getD j 0 := fun j hj => by
    have := bt_at (a := pre) (b := digs v) (c := l) hj
    rw [← ht] at this; exact this
  obtain ⟨n, hn⟩ : ∃ n, FU = n + 3 := ⟨999997, rfl⟩
  unfold p_X7_value
  rw [hn]
  by_cases c : v < 10
  · have hd : digs v = [48 + v] := if_pos c
    rw [hd] at h3 hlen hb
    have b0 := hb 0 (by show 0 < 1; decide)
    simp only [List.length_singleton] at h3 hlen
    unfold p_X7_value_4
    rw [h3, if_pos (by decide +kernel), h2, show ((pre.length : Nat) : Int) + 0 = ((pre.length : Nat) : Int) + ((0 : Nat) : Int) from rfl, at3_o hC (by omega), Option.bind_some, b0]
    show p_X7_value_4 (n + 1 + 1) (mn32 (0 * 10 + (48 + v) - 48) 10000) (0 + 1) w = _
    rw [mn32_o (by omega)]
    unfold p_X7_value_4
    rw [h3, if_neg (by decide +kernel)]
    exact congrArg (fun q => some (q, w)) (by omega)
  · have hd : digs v = [48 + v / 10, 48 + v % 10] := if_neg c
    rw [hd] at h3 hlen hb
    have b0 := hb 0 (by show 0 < 2; decide)
    have b1 := hb 1 (by show 1 < 2; decide)
    simp only [List.length_cons, List.length_nil] at h3 hlen
    unfold p_X7_value_4
    rw [h3, if_pos (by decide +kernel), h2, show ((pre.length : Nat) : Int) + 0 = ((pre.length : Nat) : Int) + ((0 : Nat) : Int) from rfl, at3_o hC (by omega), Option.bind_some, b0]
    show p_X7_value_4 (n + 1 + 1) (mn32 (0 * 10 + (48 + v / 10) - 48) 10000) (0 + 1) w = _
    rw [mn32_o (by omega)]
    unfold p_X7_value_4
    rw [h3, if_pos (by decide +kernel), h2, show ((pre.length : Nat) : Int) + (0 + 1) = ((pre.length : Nat) : Int) + ((1 : Nat) : Int) from rfl, at3_o hC (by omega), Option.bind_some, b1]
    show p_X7_value_4 (n + 1) (mn32 (min (0 * 10 + (48 + v / 10) - 48) 10000 * 10 + (48 + v % 10) - 48) 10000) (0 + 1 + 1) w = _
    rw [mn32_o (by omega)]
    unfold p_X7_value_4
    rw [h3, if_neg (by decide +kernel)]
    exact congrArg (fun q => some (q, w)) (by omega)
theorem kind_t {w : Wd} {t tok : List Int} {ts : List (List Int)} (h : POS w t tok ts) (hne : tok ≠ []) : gF w 8 1 = kdT tok := by
  obtain ⟨pre, l, _, b, _⟩ := h
  rw [b, if_neg hne]
theorem chk_t {w : Wd} {t : List Int} {v : Int} {ts : List (List Int)} (h : POS w t (digs v) ts) (hv : 0 ≤ v ∧ v < 100) {lo hi : Int} (hr : 0 ≤ lo ∧ lo ≤ v ∧ v ≤ hi ∧ hi ≤ 999) : p_X3_checkNumber lo hi w = some (1, sF w 9 3 v) := by
  obtain ⟨k1, k2, k3⟩ := digs_kd hv
  unfold p_X3_checkNumber p_X3_checkNumber_52
  rw [kind_t h k3, k1, if_pos (by decide +kernel), value_t h hv, Option.bind_some]
  dsimp only
  rw [show gF (sF w 9 3 v) 9 3 = v by rw [gF_sF, if_pos ⟨rfl, rfl⟩], if_neg (by rw [lt32_o (by omega)]; omega), if_neg (by rw [lt32_o (by omega)]; omega)]
theorem num_t {w : Wd} {t : List Int} {v : Int} {ts : List (List Int)} (h : POS w t (digs v) ts) (hv : 0 ≤ v ∧ v < 100) {lo hi : Int} (hr : 0 ≤ lo ∧ lo ≤ v ∧ v ≤ hi ∧ hi ≤ 999) : ∃ w', p_X3_readNumber lo hi w = some (1, w') ∧ frm Tc T0 w w' ∧ POS w' t (ts.headD []) ts.tail ∧ gF w' 9 3 = v := by
  have h1 : POS (sF w 9 3 v) t (digs v) ts := h.fr (frm_sF (frm_refl w) ⟨rfl, rfl⟩ : frm (fun o k => o = 9 ∧ k = 3) T0 w (sF w 9 3 v)) (fun k q => absurd q.1 (by decide)) (fun q => absurd q.1 (by decide)) id
  obtain ⟨w', a1, a2, a3⟩ := h1.go
  refine ⟨w', ?_, frm_trans (frm_sF (frm_refl w) (Or.inr ⟨rfl, rfl⟩)) (ft8 a2), a3, (a2.1 9 3 (by unfold T8; decide)).trans (by rw [gF_sF, if_pos ⟨rfl, rfl⟩])⟩
  unfold p_X3_readNumber
  rw [chk_t h hv hr, Option.bind_some]
  dsimp only
  rw [if_neg (by decide +kernel), a1, Option.bind_some]
theorem end_t {w : Wd} {t : List Int} {ts : List (List Int)} (h : POS w t (ctx 1) ts) : ∃ w', p_X3_readEnd w = some (1, w') ∧ frm T8 T0 w w' ∧ POS w' t (ts.headD []) ts.tail := by
  obtain ⟨w', a1, a2, a3⟩ := h.go
  refine ⟨w', ?_, a2, a3⟩
  unfold p_X3_readEnd
  rw [says_t h (by decide), Option.bind_some, decide_eq_true rfl]
  dsimp only
  rw [if_neg (by decide +kernel), a1, Option.bind_some]
theorem plain_t {w : Wd} {t tok : List Int} {ts : List (List Int)} (h : POS w t tok ts) (hne : tok ≠ []) (hk : kdT tok = 1 ∨ kdT tok = 2) (hl : tok.length ≤ 12) : p_X7_isPlainWord w = some (1, w) := by
  have h3 : gF w 8 3 = (tok.length : Nat) := by obtain ⟨pre, l, a, _, _⟩ := h; exact a.2.2.2
  unfold p_X7_isPlainWord p_X7_isPlainWord_16
  rw [kind_t h hne, h3]
  rcases hk with e | e
  · rw [e, if_pos (by decide +kernel), if_neg (by rw [lt32_o (by omega)]; omega)]
  · rw [e, if_neg (by decide +kernel), if_pos (by decide +kernel), if_neg (by rw [lt32_o (by omega)]; omega)]
