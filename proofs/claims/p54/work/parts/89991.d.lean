/-! ===== one round of the law's, as the class answers ===== -/
def actK (n wide : Int) : Nat → List (List Int)
  | 0 => []
  | i + 1 => actK n wide i ++ [wlist (n / 4 + 31 * (i : Nat)) (manyF (n / 4 + 31 * (i : Nat)) wide).toNat]
theorem actK_len (n wide : Int) : ∀ i, (actK n wide i).length = i
  | 0 => rfl
  | i + 1 => by unfold actK; rw [List.length_append, actK_len n wide i]; rfl
theorem actK_tk {n wide : Int} (hn : 0 ≤ n) (hw : 1 ≤ wide) : ∀ (i : Nat) (l : List Int) (us : List (List Int)), BD l → TK us l → TK (actK n wide i ++ us) (actT n wide i ++ l) := by
  intro i
  induction i with
  | zero => intro l us _ h; exact h
  | succ i ih =>
    intro l us hl h
    unfold actT actK
    rw [List.append_assoc, List.append_assoc, wordF_cons, List.singleton_append]
    have hm := manyF_r (n := n / 4 + 31 * (i : Nat)) (wide := wide) (by omega) hw
    exact ih _ _ (BD.sp _) (tk_cons1 (wt_word (wlist_ok _ (wd := wide) ⟨hm.1, Nat.le_trans hm.2.1 (by decide)⟩ hm.2.2) hl) h)
theorem actK_ok {n wide : Int} (hn : 0 ≤ n) (hw : 1 ≤ wide) : ∀ i, ∀ tok ∈ actK n wide i, Wok tok wide := by
  intro i
  induction i with
  | zero => intro tok h; exact absurd h List.not_mem_nil
  | succ i ih =>
    intro tok h
    unfold actK at h
    rcases List.mem_append.mp h with h | h
    · exact ih tok h
    · rw [List.mem_singleton] at h
      have hm := manyF_r (n := n / 4 + 31 * (i : Nat)) (wide := wide) (by omega) hw
      rw [h]; exact wlist_ok _ (wd := wide) ⟨hm.1, Nat.le_trans hm.2.1 (by decide)⟩ hm.2.2
section RO
variable {k na : Nat} {w wM : Wd}
/-- what an act leaves -/
def AZ (k : Nat) (wM : Wd) (z : Int × Nat × Wd) : Prop := ∃ wM', RR (k + 1) z.2.1 z.2.2 wM' ∧ CH (gA wM 51) (gA wM' 51) ∧ gF z.2.2 2 1 = 0
theorem az_same (h : RR k na w wM) (h0 : gF w 2 1 = 0) {r : Int} : AZ k wM (r, na, w) := ⟨wM, h.mono (Nat.le_succ k), h.ch, h0⟩
theorem wr_z {p8 : Option Rz} {z : Rz} {wM' : Wd} (e : p8 = some z) (hz : (∃ r, z.1 = .inl r) ∨ z.1 = .inr 1) (hR : RR (k + 1) z.2.1 z.2.2 wM') (hc : CH (gA wM 51) (gA wM' 51)) (hi : gF z.2.2 2 1 = 0) (f : Int → Int) : ∃ y, p8.bind (wrW f) = some y ∧ AZ k wM y := by
  obtain ⟨z1, z2⟩ := z
  rw [e, Option.bind_some]
  rcases hz with ⟨r, hr⟩ | hr
  · dsimp only at hr; subst hr
    exact ⟨(f r, z2), rfl, wM', hR, hc, hi⟩
  · dsimp only at hr; subst hr
    exact ⟨(-99, z2), rfl, wM', hR, hc, hi⟩
theorem wr_ac {p8 : Option Rz} (h0 : gF w 2 1 = 0) (h : AC k na w wM p8) (f : Int → Int) : ∃ y, p8.bind (wrW f) = some y ∧ AZ k wM y := by
  obtain ⟨z, wM', e, hz, hR, hc, hi⟩ := h
  exact wr_z e hz hR hc (hi.trans h0) f
theorem ac1_az {p8 : Option Rz} (h0 : gF w 2 1 = 0) (h : AC1 k na w wM p8) : ∃ y, (∃ r na1 w1, p8 = some (.inl r, na1, w1) ∧ (r, na1, w1) = y) ∧ AZ k wM y := by
  obtain ⟨r, ⟨na1, w1⟩, wM', e, hR, hc, hi⟩ := h
  exact ⟨(r, na1, w1), ⟨r, na1, w1, e, rfl⟩, wM', hR, hc, hi.trans h0⟩
theorem md_rng {a b : Int} (h : 0 < b) : 0 ≤ a % b ∧ a % b < b := ⟨Int.emod_nonneg _ (by omega), Int.emod_lt_of_pos _ h⟩
theorem fl_act (h : RR k na w wM) (h0 : gF w 2 1 = 0) (n m : Int) (v : Bool) : ∃ y, p_L_flawed (n % gA wM 51 0) (m % gA wM 51 1) (b2 v) na w = some y ∧ AZ k wM y := by
  have hc := h.B.c
  have hr := h.B.r
  have m1 := md_rng (a := n) (b := gA wM 51 0) (by omega)
  have m2 := md_rng (a := m) (b := gA wM 51 1) (by omega)
  exact wr_ac h0 (ac37 h (x := n % gA wM 51 0) (y := m % gA wM 51 1) (decide_eq_true ⟨m1.1, m1.2, m2.1, m2.2⟩) v) _
theorem ite_ex {c : Prop} [Decidable c] {α : Type} {P Q R : α → Prop} (h1 : c → ∃ z, P z ∧ R z) (h2 : ¬ c → ∃ z, Q z ∧ R z) : ∃ z, (if c then P z else Q z) ∧ R z := by
  by_cases d : c
  · obtain ⟨z, a, b⟩ := h1 d; exact ⟨z, by rw [if_pos d]; exact a, b⟩
  · obtain ⟨z, a, b⟩ := h2 d; exact ⟨z, by rw [if_neg d]; exact a, b⟩
theorem act_o (h : RR k na w wM) (h0 : gF w 2 1 = 0) {v n m : Int} (hn : 0 ≤ n ∧ n < 100000) (hm : 0 ≤ m ∧ m < 100000) :
    ∃ z, actB v n m (gA wM 51 9) (gA wM 51 1) (gA wM 51 0) na w z ∧ AZ k wM z := by
  have hc := h.B.c
  have hr := h.B.r
  have hp := h.B.p
  have hV := h.V
  unfold actB
  refine ite_ex (fun c0 => ?_) (fun c0 => ?_)
  · obtain ⟨fu, w1, m1, f1, f2, f3, f4⟩ := feed_o (asc_actT n (gA wM 51 0) (1 + n % 4).toNat) (Nat.le_trans (actT_le hn.1 (show 1 ≤ gA wM 51 0 by omega) _) (by omega)) h h0
    have htk := actK_tk (n := n) (wide := gA wM 51 0) hn.1 (by omega) (1 + n % 4).toNat [] [] (Or.inl rfl) rfl
    rw [List.append_nil, List.append_nil] at htk
    have hlen := actK_len n (gA wM 51 0) (1 + n % 4).toNat
    obtain ⟨z, wM', a1, a2, a3, a4, a5⟩ := ac34 f2 (x := m % 3) (by omega) htk (fun tok ht => by rw [f3]; exact actK_ok hn.1 (by omega) _ tok ht) f4 (by rw [hlen]; omega)
    rw [f3] at a4
    obtain ⟨y, b1, b2'⟩ := wr_z a1 a2 a3 a4 a5 (fun r => r)
    exact ⟨y, ⟨fu, w1, f1, b1⟩, b2'⟩
  refine ite_ex (fun c0 => ?_) (fun c0 => ?_)
  · refine ite_ex (fun c => ?_) (fun c => ?_)
    · exact ⟨_, rfl, az_same h h0⟩
    · exact wr_ac h0 (ac35 h (x := n % gA wM 51 9) (md_rng (by omega))) _
  refine ite_ex (fun c0 => ?_) (fun c0 => ?_)
  · refine ite_ex (fun c => ?_) (fun c => ?_)
    · exact ⟨_, rfl, az_same h h0⟩
    · exact wr_ac h0 (ac36 h (x := n % gA wM 51 9) (y := m % gA wM 51 9) (md_rng (by omega)) (md_rng (by omega))) _
  refine ite_ex (fun c0 => ?_) (fun c0 => ?_)
  · rw [show (if 0 < n % 3 then 1 else 0 : Int) = b2 (decide (0 < n % 3)) by
      by_cases c : 0 < n % 3
      · rw [if_pos c, decide_eq_true c]; rfl
      · rw [if_neg c, decide_eq_false c]; rfl]
    exact fl_act h h0 n m _
  refine ite_ex (fun c0 => ?_) (fun c0 => ?_)
  · exact wr_ac h0 (ac38 h (x := n % 4) (by omega)) _
  refine ite_ex (fun c0 => ?_) (fun c0 => ?_)
  · exact wr_ac h0 (ac39 h) _
  refine ite_ex (fun c0 => ?_) (fun c0 => ?_)
  · refine ite_ex (fun c => ?_) (fun c => ?_)
    · exact ⟨_, rfl, az_same h h0⟩
    · have m2 := md_rng (a := m) (b := gA wM 51 1 - 2) (by omega)
      rw [show (if m % 2 = 0 then 1 else 0 : Int) = b2 (decide (m % 2 = 0)) by
        by_cases c : m % 2 = 0
        · rw [if_pos c, decide_eq_true c]; rfl
        · rw [if_neg c, decide_eq_false c]; rfl]
      exact wr_ac h0 (ac40 h (x := 1 + m % (gA wM 51 1 - 2)) (by omega) _) _
  refine ite_ex (fun c0 => ?_) (fun c0 => ?_)
  · refine ite_ex (fun c => ?_) (fun c => ?_)
    · exact ac1_az h0 (ac41 h (x := 1 + m % 9) (by omega))
    · exact ⟨_, rfl, az_same h h0⟩
  refine ite_ex (fun c0 => ?_) (fun c0 => ?_)
  · exact ac1_az h0 (ac42 h)
  refine ite_ex (fun c0 => ?_) (fun c0 => ?_)
  · exact ac1_az h0 (ac43 h (x := 1 + n % 40) (y := m % 100) (by omega))
  · exact fl_act h h0 n m true
/-- what stands between the law's rounds -/
def IV (na : Nat) (w : Wd) : Prop := ∃ k wM, RR k na w wM ∧ gF w 2 1 = 0
theorem cw_o (h : RR k na w wM) : CW w (ktF (gA wM 51)).toNat (nLF (gA wM 51)) := by
  obtain ⟨vB, v1, v3, v4, v5, v6, v7, v8⟩ := h.V
  obtain ⟨k1, k2, k3⟩ := kt_rng vB v8
  have hn := nL_rng vB
  refine ⟨y_p6 h, ⟨hn.1, hn.2.2, by omega⟩, fun i hi => ?_, ?_⟩
  · have hiv : (0 : Int) ≤ (i : Int) ∧ (i : Int) < gA wM 51 10 := by omega
    have hrc := rc_rng vB (v := i) (by omega)
    have hlt := (k2 i (by omega) (by omega)).mpr (by omega)
    exact ⟨_, y_w5 h hiv, by omega, by omega⟩
  · by_cases c : ((ktF (gA wM 51)).toNat : Int) = nLF (gA wM 51)
    · exact Or.inl c
    · have hiv : (0 : Int) ≤ ((ktF (gA wM 51)).toNat : Int) ∧ ((ktF (gA wM 51)).toNat : Int) < gA wM 51 10 := by omega
      have hlt := k2 ((ktF (gA wM 51)).toNat : Int) (by omega) (by omega)
      have hg : ¬ laF (gA wM 51) ((ktF (gA wM 51)).toNat : Int) < gA wM 51 8 := fun q => by have := hlt.mp q; omega
      exact Or.inr ⟨_, y_w5 h hiv, by omega, by omega⟩
theorem wk_o (h : RR k na w wM) {N : Nat} {X Y Z : Nat → Int} (hN : (N : Int) ≤ nLF (gA wM 51)) (hX : ∀ i : Nat, i < N → rLF (gA wM 51) i = Y i ∧ cLF (gA wM 51) i = X i ∧ wbF (gA wM 51) i 0 = Z i) : WK w N X Y Z := by
  have hn := nL_rng h.B
  intro i hi
  obtain ⟨e1, e2, e3⟩ := hX i hi
  have hiv : (0 : Int) ≤ (i : Int) ∧ (i : Int) < gA wM 51 10 := by omega
  have hrc := rc_rng h.B (v := i) (by omega)
  refine ⟨?_, ?_, ?_⟩
  · rw [y_w3 h hiv, if_pos (by omega), e2]
  · rw [y_w2 h hiv, if_pos (by omega), e1]
  · rw [y_let h hiv (by omega), e3]
theorem f8_le (h : RR k na w wM) : 0 ≤ gA wM 51 8 ∧ gA wM 51 8 ≤ 100000 := by
  obtain ⟨vB, v1, v3, v4, v5, v6, v7, v8⟩ := h.V
  have hn := nL_rng vB
  have := laF_rng vB hn.1 hn.2.1
  omega
theorem round_o (xs : Nat → Int32) (L : Nat) (kk : Int) (h : IV na w) : RoundOK xs L kk na w IV := by
  obtain ⟨k, wM, h, h0⟩ := h
  obtain ⟨vB, v1, v3, v4, v5, v6, v7, v8⟩ := h.V
  obtain ⟨k1, k2, k3⟩ := kt_rng vB v8
  obtain ⟨z, a1, wM', a2, a3, a4⟩ := act_o h h0 (v := drw xs L kk 18) (n := drw xs L (kk + 1) 100000) (m := drw xs L (kk + 2) 100000) (drw_rng (by decide)) (drw_rng (by decide))
  obtain ⟨c1, c2, c3⟩ := a3
  have hc := h.B.c
  have hr := h.B.r
  have hp := h.B.p
  have e8 := f8_le a2
  have e8' := f8_le h
  exact ⟨(ktF (gA wM 51)).toNat, nLF (gA wM 51), gA wM 51 8, gA wM' 51 8, gA wM 51 9, gA wM 51 1, gA wM 51 0, fun i => cLF (gA wM 51) i, fun i => rLF (gA wM 51) i, fun i => wbF (gA wM 51) i 0, z, cw_o h, wk_o h (by omega) (fun i _ => ⟨rfl, rfl, rfl⟩), y_p8 h, ⟨y_p4 h, y_p1 h, y_p0 h, by omega, by omega, by omega, a1⟩, stands_o a2, y_p8 a2, ⟨e8'.1, c1, e8.2⟩,
    wk_o a2 (by omega) (fun i hi => by obtain ⟨d1, d2, d3⟩ := c3 i (by omega) (by omega); exact ⟨d1.symm, d2.symm, d3.symm⟩), k + 1, wM', a2, a4⟩
/-- the law's load -/
theorem ld_o (xs : Nat → Int32) (L : Nat) (h : RR k na w wM) (h0 : gF w 2 1 = 0) : ∃ n w1 na2 w2 laid, fedF (loadT xs L) n 0 0 w = some w1 ∧ LDok xs L na w1 na2 w2 laid ∧ p_L_stands w2 = some (1, w2) ∧ IV na2 w2 := by
  obtain ⟨n, w1, m1, f1, f2, f3, f4⟩ := feed_o (asc_loadT xs L) (Nat.le_trans (loadT_le xs L) (by decide)) h h0
  obtain ⟨w3, gf, cf, r1, r2⟩ := read_t xs L f4
  obtain ⟨na2, w2, wM', l1, l2, l3, l4, d0, d1, d2, d9, d10, d8, d3, d4, d5, dn⟩ := ac2 f2 r1 r2
  have hn := nL_rng l2.B
  refine ⟨n, w1, na2, w2, nLF (gA wM' 51), f1, ⟨l1, ⟨hn.1, Int.lt_of_le_of_lt hn.2.2 (by decide)⟩, ?_, ?_, ?_, ?_, ?_, ?_, ?_, y_p6 l2, ?_, ?_, ?_, ?_⟩, stands_o l2, k + 1, wM', l2, l3⟩
  · unfold p_X8_errorCode
    rw [l4]
  · rw [y_p0 l2, d0]
  · rw [y_p1 l2, d1]
  · rw [y_p2 l2, dn]
  · rw [y_p3 l2, d2]
  · rw [y_p4 l2, d9]
  · rw [y_p5 l2, d10]
  · rw [y_p8 l2, d8]
  · rw [y_p9 l2, d5]
  · rw [y_p10 l2, d3]
  · rw [y_p11 l2, d4]
end RO
