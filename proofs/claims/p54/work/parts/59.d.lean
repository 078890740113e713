/-! ===== what would be: gaps, flaws ===== -/
theorem VB_of {f g : Rw} (hV : VB f) (hg : ∀ i, (9 ≤ i ∧ i ≤ 10) ∨ 299 ≤ i → g i = f i) (h0 : g 0 = f 0) (h1 : 1 ≤ g 1 ∧ g 1 ≤ 12) (h2 : 0 ≤ g 2 ∧ g 2 ≤ 3) (hc : ∀ c r, 0 ≤ c → c < 24 → 0 ≤ r → r < 12 → fcF g c r = 0 ∨ fcF g c r = 1) : VB g := by
  have h9 : g 9 = f 9 := hg 9 (by omega)
  have h10 : g 10 = f 10 := hg 10 (by omega)
  refine ⟨by rw [h0]; exact hV.c, h1, h2, by rw [h9]; exact hV.p, by rw [h10]; exact hV.w, fun p p0 p1 => ?_, ?_, fun v v0 v1 => ?_, fun v k v0 v1 k0 k1 => ?_, hc⟩
  · rw [h9] at p1
    rw [show pkF g p = pkF f p from hg _ (by omega), show psF g p = psF f p from hg _ (by omega)]
    exact ⟨hV.pk p0 p1, hV.ps p0 p1⟩
  · rw [h9, h10, ← hV.fir]
    exact sm_congr _ fun i i0 i1 => hg _ (by omega)
  · rw [h10] at v1
    rw [show wnF g v = wnF f v from hg _ (by omega)]; exact hV.wn v0 v1
  · rw [h10] at v1
    rw [show wnF g v = wnF f v from hg _ (by omega)] at k1
    rw [show wbF g v k = wbF f v k from hg _ (by omega)]; exact hV.wb v0 v1 k0 k1
theorem RS.of {w w' : Wd} {o : Nat} {f g : Rw} (h : RS w o f) (hg : ∀ i, (3 ≤ i ∧ i ≤ 10) ∨ 299 ≤ i → g i = f i) (h0 : gF w' o 0 = g 0) (h1 : gF w' o 1 = g 1) (h2 : gF w' o 2 = g 2) (hF : ∀ k, 3 ≤ k → k < 12 → gF w' o k = gF w o k) (hC : ∀ k, gF w' (o + 11) k = gF w (o + 11) k) (hA : ∀ d, d < 12 → d ≠ 2 → ∀ i, gA w' (o + d) i = gA w (o + d) i)
    (hm : ∀ r, 0 ≤ r → r < 12 → ∀ i : Nat, i < 32 → bI (gA w' (o + 2) r) i = (decide (i < 24) && decide (fcF g i r = 1))) (hk : ∀ c r, 0 ≤ c → c < 24 → 0 ≤ r → r < 12 → fcF g c r = 1 → isCF g c r = true) : RS w' o g := by
  obtain ⟨s1, s2, s3, s4, s5, s6, s7⟩ := h
  have h9 : g 9 = f 9 := hg 9 (by omega)
  have h10 : g 10 = f 10 := hg 10 (by omega)
  refine ⟨⟨h0, h1, h2, ?_, ?_, ?_⟩, ⟨?_, ?_, ?_, ?_, ?_⟩, hm, fun p p0 p1 => ?_, fun v v0 v1 => ?_, fun v k v0 v1 k0 k1 => ?_, hk⟩
  · rw [hF 4 (by decide) (by decide), h9]; exact s1.2.2.2.1
  · rw [hF 7 (by decide) (by decide), h10]; exact s1.2.2.2.2.1
  · rw [hF 11 (by decide) (by decide), hg 8 (by omega)]; exact s1.2.2.2.2.2
  · rw [hC, hg 3 (by omega)]; exact s2.1
  · rw [hC, hg 4 (by omega)]; exact s2.2.1
  · rw [hC, hg 5 (by omega)]; exact s2.2.2.1
  · rw [hC, hg 6 (by omega)]; exact s2.2.2.2.1
  · rw [hC, hg 7 (by omega)]; exact s2.2.2.2.2
  · rw [h9] at p1
    rw [hA 4 (by decide) (by decide), hA 6 (by decide) (by decide), show pkF g p = pkF f p from hg _ (by omega), show psF g p = psF f p from hg _ (by omega)]; exact s4 p p0 p1
  · rw [h10] at v1
    rw [hA 8 (by decide) (by decide), show wnF g v = wnF f v from hg _ (by omega)]; exact s5 v v0 v1
  · rw [h10] at v1
    rw [show wnF g v = wnF f v from hg _ (by omega)] at k1
    rw [hA 10 (by decide) (by decide), show wbF g v k = wbF f v k from hg _ (by omega)]; exact s6 v k v0 v1 k0 k1
theorem fc_upd {f : Rw} {x y v : Int} (hx : 0 ≤ x ∧ x < 24) {c r : Int} (hc : 0 ≤ c ∧ c < 24) : fcF (upd1 f ((11 + (24 * y)) + x) v) c r = if c = x ∧ r = y then v else fcF f c r := by
  unfold fcF upd1
  by_cases d : c = x ∧ r = y
  · rw [if_pos d, if_pos (by omega)]
  · rw [if_neg d, if_neg (by omega)]
def mkF (f : Rw) (x y v : Int) : Rw := upd1 f ((11 + (24 * y)) + x) v
theorem mkF_n {f : Rw} {x y v i : Int} (hx : 0 ≤ x ∧ x < 24) (hy : 0 ≤ y ∧ y < 12) (hi : i < 11 ∨ 299 ≤ i) : mkF f x y v i = f i := upd1_n f v (by omega)
theorem mkF_VB {f : Rw} (hV : VB f) {x y : Int} {b : Bool} (hx : 0 ≤ x ∧ x < 24) (hy : 0 ≤ y ∧ y < 12) : VB (mkF f x y (b2 b)) := by
  refine VB_of hV (fun i hi => mkF_n hx hy (by omega)) (mkF_n hx hy (by omega)) ?_ ?_ (fun c r c0 c1 r0 r1 => ?_)
  · rw [mkF_n hx hy (by omega)]; exact hV.r
  · rw [mkF_n hx hy (by omega)]; exact hV.g
  · unfold mkF
    rw [fc_upd hx ⟨c0, c1⟩]
    by_cases d : c = x ∧ r = y
    · rw [if_pos d]; cases b
      · exact Or.inl rfl
      · exact Or.inr rfl
    · rw [if_neg d]; exact hV.fc c0 c1 r0 r1
theorem mkF_Z {f : Rw} (h : Z0 f) {x y v : Int} (hx : 0 ≤ x ∧ x < 24) (hy : 0 ≤ y ∧ y < 12) : Z0 (mkF f x y v) := upd1_Z h (by omega)
theorem isC_rng {f : Rw} (hV : VB f) {x y : Int} (c : isCF f x y = true) : (0 ≤ x ∧ x < 24) ∧ (0 ≤ y ∧ y < 12) ∧ x < f 0 ∧ y < f 1 := by
  have h1 := hV.c
  have h2 := hV.r
  have := of_decide_eq_true c
  omega
theorem mark_o {w : Wd} {o : Nat} {f : Rw} (ho : SLo o) (hV : VB f) (hS : RS w o f) {x y : Int} (c : isCF f x y = true) (b : Bool) : ∃ w', p_X6_mark o x y (b2 b) w = some w' ∧ frm S0 (fun a => a = o + 2) w w' ∧ RS w' o (mkF f x y (b2 b)) := by
  obtain ⟨hx, hy, hx2, hy2⟩ := isC_rng hV c
  have h1 := hV.c
  have h2 := hV.r
  have e0 : gF w o 0 = f 0 := hS.1.1
  have e1 : gF w o 1 = f 1 := hS.1.2.1
  obtain ⟨n, rfl⟩ := Int.eq_ofNat_of_zero_le hx.1
  have key : ∀ m : Int, (∀ i : Nat, i < 32 → bI m i = (decide (i < 24) && decide (fcF (mkF f n y (b2 b)) i y = 1))) → RS (sA w (o + 2) y m) o (mkF f n y (b2 b)) := by
    intro m hm
    refine hS.of (fun i hi => mkF_n hx hy (by omega)) ?_ ?_ ?_ (fun _ _ _ => rfl) (fun _ => rfl) (fun d hd hd2 i => by rw [gA_sA, if_neg (by omega)]) (fun r r0 r1 i hi => ?_) (fun cc r c0 c1 r0 r1 hh => ?_)
    · rw [mkF_n hx hy (by omega)]; exact e0
    · rw [mkF_n hx hy (by omega)]; exact e1
    · rw [mkF_n hx hy (by omega)]; exact hS.1.2.2.1
    · rw [gA_sA]
      by_cases d : r = y
      · rw [if_pos ⟨rfl, d⟩, d]; exact hm i hi
      · rw [if_neg (fun h => d h.2), hS.2.2.1 r r0 r1 i hi]
        by_cases e : i < 24
        · unfold mkF
          rw [fc_upd hx (by omega), if_neg (fun h => d h.2)]
        · rw [decide_eq_false e]; rfl
    · unfold mkF at hh
      rw [fc_upd hx ⟨c0, c1⟩] at hh
      have hic : isCF (mkF f n y (b2 b)) cc r = isCF f cc r := by
        unfold isCF; rw [mkF_n hx hy (by omega), mkF_n hx hy (by omega)]
      rw [hic]
      by_cases d : cc = n ∧ r = y
      · rw [d.1, d.2]; exact c
      · rw [if_neg d] at hh; exact hS.2.2.2.2.2.2 cc r c0 c1 r0 r1 hh
  have hput : ∀ m : Int, p_X6_mark_65 o m y w = some (sA w (o + 2) y m) := fun m => by
    unfold p_X6_mark_65
    rw [put_in (o := o + 1) ⟨hy.1, by rw [show ln (o + 1 + 1) = 12 from ho.l2]; omega⟩, Option.bind_some]
  have hat : p_X5_at (o + 1) y w = some (gA w (o + 2) y, w) := at_in ⟨hy.1, by rw [show ln (o + 1 + 1) = 12 from ho.l2]; omega⟩
  have hfr : ∀ m : Int, frm S0 (fun a => a = o + 2) w (sA w (o + 2) y m) := fun m => frm_sA (frm_refl w) rfl
  unfold p_X6_mark
  rw [e0, e1, if_neg (by rw [lt32_o (by omega)]; omega), if_pos (by rw [lt32_o (by omega)]; omega), if_neg (by rw [lt32_o (by omega)]; omega), if_pos (by rw [lt32_o (by omega)]; omega)]
  simp only [eq32_b2]
  cases b with
  | false =>
    rw [if_pos rfl, hat, Option.bind_some]
    dsimp only
    rw [hput]
    refine ⟨_, rfl, hfr _, key _ fun i hi => ?_⟩
    rw [bI_and, bI_xor, bI_pow n (by omega) i hi, bI_m1 i hi, hS.2.2.1 y hy.1 hy.2 i hi]
    by_cases e : i < 24
    · unfold mkF
      rw [fc_upd hx (by omega)]
      by_cases d : i = n
      · rw [if_pos ⟨by omega, rfl⟩, decide_eq_true d]
        simp [b2]
      · rw [if_neg (by omega), decide_eq_false d]; simp
    · rw [decide_eq_false e]; rfl
  | true =>
    rw [if_neg (by decide), hat, Option.bind_some]
    dsimp only
    rw [hput]
    refine ⟨_, rfl, hfr _, key _ fun i hi => ?_⟩
    rw [bI_or, bI_pow n (by omega) i hi, hS.2.2.1 y hy.1 hy.2 i hi]
    by_cases e : i < 24
    · unfold mkF
      rw [fc_upd hx (by omega)]
      by_cases d : i = n
      · rw [if_pos ⟨by omega, rfl⟩, decide_eq_true d, decide_eq_true e]
        simp [b2]
      · rw [if_neg (by omega), decide_eq_false d]; simp
    · rw [decide_eq_false e, decide_eq_false (show ¬ i = n by omega)]; rfl
theorem lot_o {w : Wd} {f' : Rw} (hV : VB f') (hS : RS w 116 f') : ∃ w', p_X8_laidOnTrial w = some (nLF f', w') ∧ frm (SLC 20) (TLC 20) w w' := by
  obtain ⟨w1, a1, a2, a3⟩ := layC SLo_1 (l := 20) (Or.inr rfl) hV hS
  unfold p_X8_laidOnTrial
  rw [a1, Option.bind_some, show gF w1 20 4 = nLF f' from a3.1.1]
  exact ⟨w1, rfl, a2⟩
theorem frm_L20 {w w' : Wd} (h : frm (SLC 20) (TLC 20) w w') : frm SCf TCf w w' := frm_mono h (fun o k h => by have := h.1; unfold SCf; omega) (fun o h => by unfold TLC at h; unfold TCf; omega)
theorem frm_118 {w w' : Wd} (h : frm S0 (fun a => a = 116 + 2) w w') : frm SCf TCf w w' := frm_mono h (fun o k h => absurd h id) (fun o h => by unfold TCf; omega)
section WI
variable {k na : Nat} {wC wM : Wd} {xs : Nat → Int32} {i : Int}
theorem wi9 (h : RR k na wC wM) {w : Wd} {f' : Rw} (hM : frm SMf TM5 wM w) (hA : ASI w (gA wM 51)) (h51 : gA w 51 = f') (hV : VB f') (hZ : Z0 f') :
    ∃ w1 w2, p_X9_lay w = some (nLF f', w1) ∧ (∀ r, p_X9_layBack r w1 = some (r, w2)) ∧ frm SMf TMf wM w2 ∧ gF w2 50 0 = gF w 50 0 := by
  have hp : gP w 50 3 = 51 := (hM.2.2 _ _).trans h.pp
  have hcr : cR w = f' := by unfold cR; rw [hp, h51]
  obtain ⟨w1, a1, a2, a3⟩ := lay9 hV hcr hp
  have hM1 := frm_trans hM (frm_5 (frm_L9 a1))
  have hA1 : ASI w1 (gA wM 51) := fun i i0 i1 => (a1.2.1 55 (by unfold TL9; decide) i).trans (hA i i0 i1)
  have h511 : gA w1 51 = f' := (funext fun i => a1.2.1 51 (by unfold TL9; decide) i).trans h51
  exact ⟨w1, _, a2, fun r => layBack_o w1 r, frm_51 (frm_setR hM1 (Or.inr rfl)) (back_p hA1 h511 h.z hZ), a1.1 50 0 (by unfold SL9; omega)⟩
/-- a world with the net kept aside -/
theorem as9 (h : RR k na wC wM) {w : Wd} (hw : frm SMf TMf wM w) : ∃ w', p_X9_keepAside w = some w' ∧ frm SMf TMf wM w' ∧ ASI w' (gA wM 51) ∧ gF w' 50 0 = gF w 50 0 :=
  ⟨_, keepAside_o w, frm_setR hw (by unfold TMf; omega), aside_p w (h.ny hw).2.2, rfl⟩
theorem isGap_o {x : Int} (hx : rng x) {w : Wd} : p_X9_isGap x w = some (b2 (decide (0 ≤ x ∧ x ≤ 3)), w) := by
  unfold rng at hx
  unfold p_X9_isGap
  rw [w32_o hx, in_o (by omega), Option.bind_some]
  dsimp only
  rw [zr_b2]
theorem gap_VB {f : Rw} (hV : VB f) {x : Int} (hx : 0 ≤ x ∧ x ≤ 3) : VB (upd1 f 2 x) :=
  VB_of hV (fun i hi => upd1_n f x (by omega)) rfl hV.r hx (fun c r c0 c1 r0 r1 => by
    rw [show fcF (upd1 f 2 x) c r = fcF f c r from upd1_n f x (by omega)]; exact hV.fc c0 c1 r0 r1)
theorem gap_RS {w : Wd} {f : Rw} (hS : RS w 116 f) {x : Int} : RS (sF w 116 2 x) 116 (upd1 f 2 x) :=
  hS.of (fun i hi => upd1_n f x (by omega)) hS.1.1 hS.1.2.1 rfl (fun k a b => by rw [gF_sF, if_neg (by omega)]) (fun k => by rw [gF_sF, if_neg (by omega)]) (fun _ _ _ _ => rfl)
    (fun r r0 r1 i hi => by rw [show fcF (upd1 f 2 x) i r = fcF f i r from upd1_n f x (by omega)]; exact hS.2.2.1 r r0 r1 i hi)
    (fun c r c0 c1 r0 r1 hh => by
      rw [show fcF (upd1 f 2 x) c r = fcF f c r from upd1_n f x (by omega)] at hh
      exact hS.2.2.2.2.2.2 c r c0 c1 r0 r1 hh)
theorem op24 (h : RR k na wC wM) : ∃ z, p_op_24 xs i na wC wM = some z ∧ RR k z.1 z.2.1 z.2.2 := by
  unfold p_op_24 p_L_laidWith
  have hx := sc_rng xs (i + 1)
  generalize sc xs (i + 1) = x at *
  unfold p_X8_laidWith p_X9_laidWith
  rw [needGap_o hx, isGap_o hx, Option.bind_some]
  dsimp only
  rw [passes_o, Option.bind_some]
  simp only [eq32_b2]
  by_cases c : 0 ≤ x ∧ x ≤ 3
  · rw [if_pos c, decide_eq_true c, if_neg (show ¬ true = false by decide), bindG_l]
    obtain ⟨w1, a1, a2, a3, a4⟩ := h.cp
    have hV' := gap_VB h.B c
    obtain ⟨w2, b1, b2'⟩ := lot_o hV' (gap_RS a4 (x := x))
    obtain ⟨m1, c1, c2, c3, c4⟩ := as9 h (frmM_0 wM (b2 (!true)))
    obtain ⟨m2, m3, d1, d2, d3, d4⟩ := wi9 h (w := sA m1 51 2 x) (f' := upd1 (gA wM 51) 2 x) (frm_sA (frm_5 c2) (Or.inr rfl)) (fun i i0 i1 => by rw [gA_sA, if_neg (by omega)]; exact c3 i i0 i1) (by rw [gA_upd, (h.ny c2).2.2]) hV' (upd1_Z h.z (by decide))
    refine wok (r := nLF (upd1 (gA wM 51) 2 x)) (na' := na) (wC' := w2) (wM' := m3) ?_ ?_ (d4.trans c4) (h.fr (frm_trans (frm_sF a3 (by unfold SCf; omega)) (frm_L20 b2')) d3)
    · rw [a1, Option.bind_some, b1, Option.bind_some]
    · rw [c1, Option.bind_some, if_neg (by decide), d1, Option.bind_some]
      dsimp only
      rw [d2, Option.bind_some]
  · rw [if_neg c, decide_eq_false c, if_pos rfl, bindG_r]
    exact wex (h := hnd1 2) (f := fun r w => sA w 34 0 (w32 r)) (e := 2) (na' := na) (wC' := wC) rfl rfl rfl (Or.inl rfl) rfl (h.fr (frm_refl _) (frmM_0 _ _))
theorem op38 (h : RR k na wC wM) : ∃ z, p_op_38 xs i na wC wM = some z ∧ RR (k + 1) z.1 z.2.1 z.2.2 := by
  unfold p_op_38 p_L_setGap
  have hx := sc_rng xs (i + 1)
  generalize sc xs (i + 1) = x at *
  unfold p_X8_setGap p_X9_setGap
  rw [needGap_o hx, isGap_o hx, Option.bind_some]
  dsimp only
  rw [passes2_r, Option.bind_some]
  simp only [eq32_b2]
  by_cases c : 0 ≤ x ∧ x ≤ 3
  · rw [if_pos c, decide_eq_true c, if_neg (show ¬ true = false by decide), bindG_l]
    obtain ⟨vB, v1, v3, v4, v5, v6, v7, v8⟩ := h.V
    obtain ⟨w1, a1, a2, a3, a4⟩ := h.cp
    have hV' := gap_VB h.B c
    obtain ⟨m1, c1, c2, c3, c3', c4⟩ := begin_o h (frmM_0 wM (b2 (!true)))
    have h51 := (h.ny c2).2.2
    rw [a1, Option.bind_some, c1, Option.bind_some, if_neg (by decide), if_neg (by decide), h51]
    have hst := op_stay h (wC1 := sF w1 116 2 x) (wM1 := sA m1 51 2 x) (f' := upd1 (gA wM 51) 2 x) (frm_sF a3 (by unfold SCf; omega)) (gap_RS a4) (frm_sA (frm_5 c2) (Or.inr rfl))
      ⟨c3.1, fun v v0 v1 => c3.2 v v0 v1⟩ (fun i i0 i1 => by rw [gA_sA, if_neg (by omega)]; exact c3' i i0 i1) (by rw [gA_upd, h51]) hV' (upd1_Z h.z (by decide)) v1 (fun i i0 i1 => upd1_n _ x (by omega)) (fun n13 w14 => some (Sum.inl (gF wC 100 2), n13, w14))
    have ht1 : gF (sA m1 51 2 x) 50 0 = 0 := c4
    rcases hst with ⟨na', wC', wM', s1, s2, s3, s4, s5, s6⟩ | ⟨wC', wM', s1, s2, s3⟩
    · rw [s2, Option.bind_some]
      dsimp only
      have hp2 := passes2_l (q := true) (w := wM')
      rw [show (1 : Int) = b2 true from rfl] at hp2 ⊢
      rw [hp2, Option.bind_some]
      refine wok (r := gA wM 51 2) (na' := na') (wC' := wC') (wM' := sF wM' 50 0 0) ?_ ?_ rfl (s3.fr (frm_refl _) (frmM_0 _ _))
      · rw [s1, show gF wC 100 2 = gA wM 51 2 from h.S.1.2.2.1]
      · rfl
    · rw [s2, Option.bind_some]
      dsimp only
      have hp2 := passes2_l (q := false) (w := wM')
      rw [show (0 : Int) = b2 false from rfl] at hp2 ⊢
      rw [hp2, Option.bind_some]
      refine wex (h := hnd2 2 1) (f := fun r w => sA w 34 0 (w32 r)) (e := 1) (c := 2) (na' := na) (wC' := wC') (r := 0) (wM' := sF wM' 50 0 2) s1 ?_ rfl (Or.inr rfl) rfl ((s3.fr (frm_refl _) (frmM_0 _ _)).mono (Nat.le_succ k))
      rfl
  · rw [if_neg c, decide_eq_false c, if_pos rfl, bindG_r]
    exact wex (h := hnd2 2 1) (f := fun r w => sA w 34 0 (w32 r)) (e := 2) (na' := na) (wC' := wC) rfl rfl rfl (Or.inl rfl) rfl ((h.fr (frm_refl _) (frmM_0 _ _)).mono (Nat.le_succ k))
end WI
