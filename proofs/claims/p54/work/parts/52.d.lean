/-! ===== the model remembers; a change settles ===== -/
theorem rem54 {w : Wd} {o : Nat} {c' : Int} (ho : o = 51 ∨ o = 55) (hc : gF w 50 31 = c') (h0 : 0 ≤ c' ∧ c' < 6) :
    p_X9_rememberOf_52 o w = some (sF (setR w 63 (fun j => if 1099 * c' ≤ j ∧ j < 1099 * c' + 1099 then gA w o (0 + (j - 1099 * c')) else gA w 63 j)) 50 31 (c' + 1)) := by
  have hln : ln o = 1099 := by rcases ho with rfl | rfl <;> rfl
  have hne : o ≠ 63 := by rcases ho with rfl | rfl <;> decide
  unfold p_X9_rememberOf_52
  have hx := cp_loop (lp := fun n x w => p_X9_rememberOf_54 o n x w) (fin := p_X9_rememberOf_85 o) (dst := 63) (src := o) (od := 1099 * c') (os := 0) (b := 1099) (w := w) hne
    (fun n x f x0 x1 => by
      have e31 : gF (setR w 63 f) 50 31 = c' := hc
      have hb1 : inb x (ln o) = true := by rw [hln]; exact inb_t (by omega)
      simp (disch := omega) only [p_X9_rememberOf_54, lt32_o, x1, if_true, e31, inb_f, if_false]
      rw [Int.zero_add])
    (fun n f => by simp (disch := omega) only [p_X9_rememberOf_54, lt32_o, Int.lt_irrefl, if_false])
    FU (by decide) (by have : FU = 1000000 := rfl; omega)
  rw [hx]
  unfold p_X9_rememberOf_85
  rw [show gF (setR w 63 _) 50 31 = c' from hc]
theorem rem9 {w : Wd} {o : Nat} {c : Int} (ho : o = 51 ∨ o = 55) (hc : gF w 50 31 = c) (h0 : 0 ≤ c ∧ c ≤ 6) :
    ∃ w', p_X9_rememberOf o w = some w' ∧ frm (fun a k => a = 50 ∧ k = 31) (fun a => a = 63) w w' ∧ gF w' 50 31 = c - (if c < 6 then 0 else 1) + 1 ∧
      (∀ j, 0 ≤ j → j < c - (if c < 6 then 0 else 1) → prM w' j = prM w (j + (if c < 6 then 0 else 1))) ∧ prM w' (c - (if c < 6 then 0 else 1)) = nrm (gA w o) := by
  have hne : o ≠ 63 := by rcases ho with rfl | rfl <;> decide
  unfold p_X9_rememberOf
  rw [hc]
  by_cases d : c < 6
  · rw [if_neg (by rw [eq32_o (by omega)]; omega), if_pos d, rem54 ho hc (by omega)]
    refine ⟨_, rfl, frm_sF (frm_setR (frm_refl w) rfl) ⟨rfl, rfl⟩, ?_, fun j j0 j1 => ?_, ?_⟩
    · rw [gF_sF, if_pos ⟨rfl, rfl⟩]; omega
    · unfold prM nrm
      funext i
      by_cases e : 0 ≤ i ∧ i < 1099
      · rw [if_pos e, if_pos e]; dsimp only; rw [gA_sF, gA_setR, if_pos rfl, if_neg (by omega), Int.add_zero]
      · rw [if_neg e, if_neg e]
    · unfold prM nrm
      funext i
      by_cases e : 0 ≤ i ∧ i < 1099
      · rw [if_pos e, if_pos e]; dsimp only; rw [gA_sF, gA_setR, if_pos rfl, Int.sub_zero, if_pos (by omega)]
        exact congrArg (gA w o) (by omega)
      · rw [if_neg e, if_neg e]
  · rw [if_pos (by rw [eq32_o (by omega)]; omega), if_neg d]
    obtain ⟨w1, h1, h2, h3⟩ := loop_up (lp := fun n x w => p_X9_rememberOf_13 o n x w) (fin := p_X9_rememberOf_42 o) (b := 6594) (I := fun x w' => 1099 ≤ x ∧ w' = setR w 63 (fun j => if 0 ≤ j ∧ j < x - 1099 then gA w 63 (j + 1099) else gA w 63 j))
      (fun n x w' hx hI => by
        obtain ⟨i0, rfl⟩ := hI
        simp (disch := omega) only [p_X9_rememberOf_13, lt32_o, hx, if_true, inb_f, if_false]
        refine ⟨_, rfl, by omega, ?_⟩
        rw [sA_setR, setR_setR]
        refine setR_ext fun j => ?_
        show (if j = x - 1099 then _ else _) = _
        by_cases e : j = x - 1099
        · rw [if_pos e, gA_setR, if_pos rfl, if_neg (by omega), if_pos (by omega), e, show x - 1099 + 1099 = x by omega]
        · rw [if_neg e, gA_setR, if_pos rfl]
          by_cases e2 : 0 ≤ j ∧ j < x - 1099
          · rw [if_pos e2, if_pos (by omega)]
          · rw [if_neg e2, if_neg (by omega)])
      (fun n w' hI => by simp (disch := omega) only [p_X9_rememberOf_13, lt32_o, Int.lt_irrefl, if_false])
      FU 1099 w (by decide) ⟨by decide, (setR_self fun j => if_neg (by omega)).symm⟩ (by decide)
    rw [h1]
    unfold p_X9_rememberOf_42
    have e31 : gF w1 50 31 = 6 := by rw [h3, gF_setR, hc]; omega
    rw [e31]
    rw [rem54 (w := sF w1 50 31 (6 - 1)) (c' := 5) ho (by rw [gF_sF, if_pos ⟨rfl, rfl⟩]; rfl) (by decide)]
    have hfr1 : frm (fun a k => a = 50 ∧ k = 31) (fun a => a = 63) w w1 := by rw [h3]; exact frm_setR (frm_refl w) rfl
    refine ⟨_, rfl, frm_sF (frm_setR (frm_sF hfr1 ⟨rfl, rfl⟩) rfl) ⟨rfl, rfl⟩, ?_, fun j j0 j1 => ?_, ?_⟩
    · rw [gF_sF, if_pos ⟨rfl, rfl⟩]; omega
    · unfold prM nrm
      funext i
      by_cases e : 0 ≤ i ∧ i < 1099
      · rw [if_pos e, if_pos e]; dsimp only; rw [gA_sF, gA_setR, if_pos rfl, if_neg (by omega), gA_sF, h3, gA_setR, if_pos rfl, if_pos (by omega)]
        exact congrArg (gA w 63) (by omega)
      · rw [if_neg e, if_neg e]
    · unfold prM nrm
      funext i
      by_cases e : 0 ≤ i ∧ i < 1099
      · rw [if_pos e, if_pos e]; dsimp only; rw [gA_sF, gA_setR, if_pos rfl, if_pos (by omega), gA_sF, h3, gA_setR, if_neg hne]
        exact congrArg (gA w o) (by omega)
      · rw [if_neg e, if_neg e]
def CHG (w : Wd) (na' : Nat) (w' : Wd) (c sh : Int) (f f' : Rw) : Prop :=
  gF w' 31 1 = c - sh + 1 ∧ PTr na' w' ∧ (∀ j, 0 ≤ j → j < c - sh → gP w' 32 j = gP w 32 (j + sh) ∧ ∀ g, RS w (gP w 32 (j + sh)) g → gP w 32 (j + sh) ≠ 0 → RS w' (gP w' 32 j) g) ∧
  gP w' 32 (c - sh) ≠ 0 ∧ RS w' (gP w' 32 (c - sh)) f ∧ (∀ s, 0 ≤ s → s < 2 → gP w' 33 s = gP w 33 s ∧ ∀ g, RS w (gP w 33 s) g → gP w 33 s ≠ 0 → RS w' (gP w' 33 s) g) ∧
  (RS w' 100 f' ∧ LY w' 10 f' ∧ LT w' 10 f') ∧ (gF w' 2 1 = gF w 2 1 ∧ gF w' 5 1 = gF w 5 1 ∧ gF w' 9 1 = gF w 9 1 ∧ gF w' 9 2 = gF w 9 2 ∧ (∀ i, gA w' 4 i = gA w 4 i) ∧ ∀ i, gA w' 7 i = gA w 7 i)
theorem layAnew_o {w : Wd} {f : Rw} (hV : VB f) (hS : RS w 100 f) : ∃ w', p_X8_layAnew w = some w' ∧ frm (fun o _ => o = 10) (fun o => 12 ≤ o ∧ o ≤ 18) w w' ∧ LY w' 10 f ∧ LT w' 10 f := by
  unfold p_X8_layAnew
  obtain ⟨w1, a1, a2, a3⟩ := layC SLo_0 (l := 10) (Or.inl rfl) hV hS
  obtain ⟨w2, b1, b2', b3⟩ := listC SLo_0 (l := 10) (Or.inl rfl) hV (hS.lay a2 SLo_0 (Or.inl rfl)) a3.1
  rw [a1, Option.bind_some, b1, Option.bind_some]
  refine ⟨w2, rfl, frm_trans (frm_mono a2 (fun o k h => h.1) (fun o h => by rcases h with h | h <;> omega)) (frm_mono b2' (fun o k h => h.1) (fun o h => by rcases h with h | h <;> omega)), ?_, b3⟩
  exact a3.fr b2' (by unfold SLL; omega) (by unfold TLL; omega) (by unfold TLL; omega)
theorem settleC {na : Nat} {w : Wd} {c : Int} {f f' : Rw} (hc : gF w 31 1 = c) (h0 : 0 ≤ c ∧ c ≤ 6) (hV : VB f) (hS : RS w 100 f) (hPT : PTr na w) (hV' : VB f') (hS' : RS w 116 f') :
    ∃ na' w', p_X8_settle na w = some (.inl 0, na', w') ∧ CHG w na' w' c (if c < 6 then 0 else 1) f f' := by
  obtain ⟨na', w1, a1, a2, a3, b1, b2', b3, b4, b5, b6, b7⟩ := remC hc h0 hV hS hPT
  unfold p_X8_settle
  rw [a1, bindG_l]
  have e1 : RS w1 116 f' := hS'.keep (fun k => b7.1 _ k (by omega)) (fun k => b7.1 _ k (by omega)) (fun d hd i => b7.2.1 _ (by omega) i)
  obtain ⟨w2, c1, c2, c3⟩ := slab_cp (i := 0) (j := 1) (by decide) w1
  have c1' : p_X6_copy 100 116 w1 = some w2 := c1
  rw [c1', Option.bind_some]
  have hS2 : RS w2 100 f' := c3 f' hV' e1
  obtain ⟨w3, d1, d2, d3, d4⟩ := layAnew_o hV' hS2
  rw [d1, Option.bind_some]
  have fF : ∀ o k, ¬ (o = 10) → ¬ (100 ≤ o ∧ o < 112) → gF w3 o k = gF w1 o k := fun o k h1 h2 => (d2.1 o k h1).trans (c2.1 o k (fun h => h2 h))
  have fA : ∀ o i, ¬ (12 ≤ o ∧ o ≤ 18) → ¬ (100 ≤ o ∧ o < 112) → gA w3 o i = gA w1 o i := fun o i h1 h2 => (d2.2.1 o h1 i).trans (c2.2.1 o (fun h => h2 h) i)
  have fP : ∀ o i, gP w3 o i = gP w1 o i := fun o i => (d2.2.2 o i).trans (c2.2.2 o i)
  have far : ∀ q g, 2 ≤ q → RS w1 (sl q) g → RS w3 (sl q) g := fun q g hq h => h.keep (fun k => fF _ k (by unfold sl; omega) (by unfold sl; omega)) (fun k => fF _ k (by unfold sl; omega) (by unfold sl; omega)) (fun d hd i => fA _ i (by unfold sl; omega) (by unfold sl; omega))
  refine ⟨na', w3, rfl, (fF 31 1 (by decide) (by omega)).trans b1, b2'.keep fP, fun j j0 j1 => ⟨(fP _ _).trans (b3 j j0 j1).1, fun g hg hn => ?_⟩, ?_, ?_, fun s s0 s1 => ⟨(fP _ _).trans (b6 s s0 s1).1, fun g hg hn => ?_⟩, ⟨?_, d3, d4⟩, ?_⟩
  · have h := (b3 j j0 j1).2 g hg hn
    have hne : gP w1 32 j ≠ 0 := by rw [(b3 j j0 j1).1]; exact hn
    rw [fP]
    obtain ⟨q, q1, q2⟩ := b2'.p (j := j) ⟨j0, by split at j1 <;> omega⟩ hne
    rw [q2] at h ⊢
    exact far q g q1 h
  · rw [fP]; exact b4
  · rw [fP]
    obtain ⟨q, q1, q2⟩ := b2'.p (j := c - (if c < 6 then 0 else 1)) ⟨by split <;> omega, by split <;> omega⟩ b4
    rw [q2] at b5 ⊢
    exact far q f q1 b5
  · have h := (b6 s s0 s1).2 g hg hn
    have hne : gP w1 33 s ≠ 0 := by rw [(b6 s s0 s1).1]; exact hn
    rw [fP]
    obtain ⟨q, q1, q2⟩ := b2'.s ⟨s0, s1⟩ hne
    rw [q2] at h ⊢
    exact far q g q1 h
  · exact hS2.fr d2 (fun d k _ => by omega) (fun d _ => by omega)
  · exact ⟨(fF 2 1 (by decide) (by omega)).trans (b7.1 2 1 (by omega)), (fF 5 1 (by decide) (by omega)).trans (b7.1 5 1 (by omega)), (fF 9 1 (by decide) (by omega)).trans (b7.1 9 1 (by omega)), (fF 9 2 (by decide) (by omega)).trans (b7.1 9 2 (by omega)), fun i => (fA 4 i (by omega) (by omega)).trans (b7.2.1 4 (by omega) i), fun i => (fA 7 i (by omega) (by omega)).trans (b7.2.1 7 (by omega) i)⟩
def CHM (w w' : Wd) (c sh : Int) (f f' : Rw) : Prop :=
  gP w' 50 3 = 51 ∧ gA w' 51 = f' ∧ gF w' 50 31 = c - sh + 1 ∧ (∀ j, 0 ≤ j → j < c - sh → prM w' j = prM w (j + sh)) ∧ prM w' (c - sh) = f ∧
  (gF w' 50 18 = gF w 50 18 ∧ gF w' 50 24 = gF w 50 24 ∧ gF w' 50 25 = gF w 50 25 ∧ gF w' 50 33 = gF w 50 33) ∧ ((∀ i, gA w' 60 i = gA w 60 i) ∧ (∀ i, gA w' 61 i = gA w 61 i) ∧ (∀ i, gA w' 62 i = gA w 62 i) ∧ ∀ i, gA w' 64 i = gA w 64 i)
theorem change {k k' na na' : Nat} {wC wM wC' wM' : Wd} {c sh : Int} {f' : Rw} (h : RR k na wC wM) (hk : k ≤ k') (hc : c = gF wM 50 31) (hsh : sh = if c < 6 then 0 else 1) (hC : CHG wC na' wC' c sh (gA wM 51) f') (hM : CHM wM wM' c sh (gA wM 51) f') (hV : VF k' f') (hZ : Z0 f') : RR k' na' wC' wM' := by
  obtain ⟨a1, a2, a3, a4, a5, a6, a7, a8, ⟨b1, b2', b3⟩, cc, d, z⟩ := h
  obtain ⟨p1, p2, p3, p4, p5, p6, ⟨p7, p8, p9⟩, q1, q2, q3, q4, q5, q6⟩ := hC
  obtain ⟨m1, m2, m3, m4, m5, ⟨m6, m7, m8, m9⟩, n1, n2, n3, n4⟩ := hM
  have hshr : 0 ≤ sh ∧ sh ≤ 1 ∧ c - sh < 6 ∧ 0 ≤ c - sh := by rw [hsh]; split <;> omega
  refine ⟨m1, by rw [m2]; exact hV, by rw [m2]; exact p7, by rw [m2]; exact p8, by rw [m2]; exact p9, ?_, ?_, ?_, ⟨by rw [p1, m3], by rw [m3]; omega, fun j j0 j1 => ?_⟩, fun s s0 s1 => ?_, p2, by rw [m2]; exact hZ⟩
  · refine ⟨by rw [q1, m6]; exact a6.1, by rw [m6]; exact a6.2.1, fun i i0 i1 => ?_⟩
    rw [m6] at i1
    rw [q5, n1]; exact a6.2.2 i i0 i1
  · refine ⟨by rw [q2, m9]; exact a7.1, by rw [m9]; exact a7.2.1, fun i i0 i1 => ?_⟩
    rw [m9] at i1
    rw [q6, n4]; exact a7.2.2 i i0 i1
  · exact ⟨by rw [q3, m7]; exact a8.1, by rw [q4, m8]; exact a8.2⟩
  · rw [m3] at j1
    by_cases e : j < c - sh
    · obtain ⟨x1, x2, x3⟩ := b3 (j + sh) (by omega) (by omega)
      obtain ⟨y1, y2⟩ := p3 j j0 e
      rw [m4 j j0 e]
      exact ⟨by rw [y1]; exact x1, y2 _ x2 x1, x3.mono hk⟩
    · rw [show j = c - sh by omega, m5]
      exact ⟨p4, p5, a2.mono hk⟩
  · obtain ⟨y1, y2⟩ := p6 s s0 s1
    have hkr : krM wM' s = krM wM s := congrArg nrm (funext fun i => n2 _)
    rw [n3, hkr]
    rcases cc s s0 s1 with e | ⟨e1, e2, e3, e4⟩
    · exact Or.inl ⟨by rw [y1]; exact e.1, e.2⟩
    · exact Or.inr ⟨by rw [y1]; exact e1, e2, y2 _ e3 e1, e4.mono hk⟩
