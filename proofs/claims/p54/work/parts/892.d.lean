/-! ===== words, a part that is begun ===== -/
theorem i8_s {b : Int} (h : 0 ≤ b ∧ b ≤ 127) : i8 b = b := by
  unfold i8
  simp only [Int.bmod_def]
  omega
/-- a word more in the draft -/
def ADW (f g : Rw) (B : Int → Int) (s e : Int) : Prop := g 10 = f 10 + 1 ∧ wnF g (f 10) = e - s ∧ (∀ k, 0 ≤ k → k < e - s → wbF g (f 10) k = B (s + k)) ∧ ∀ i, i ≠ 10 → (i < 319 + 13 * f 10 ∨ 319 + 13 * f 10 + 13 ≤ i) → g i = f i
theorem addWord_o {m : Wd} {B : Int → Int} {N s e : Int} {f : Rw} (hM : TXM m B N) (hp : gP m 50 3 = 52) (h52 : gA m 52 = f) (h20 : gF m 50 20 = e) (h21 : gF m 50 21 = s) (hs : 0 ≤ s ∧ s < e ∧ e ≤ N) (hl : e - s ≤ 12) (hW : 0 ≤ f 10 ∧ f 10 < 60) (hb : ∀ i, s ≤ i → i < e → B i ≤ 127) :
    ∃ m', p_X9_addWord m = some m' ∧ frm S0 (fun o => o = 52) m m' ∧ ADW f (gA m' 52) B s e := by
  have hN := hM.2.1
  have e10a : gA m 52 10 = f 10 := congrFun h52 10
  unfold p_X9_addWord
  rw [if_neg (show ¬ (inb 10 1099 = false) by decide), hp, e10a, if_neg (show ¬ (inb (319 + (13 * f 10)) 1099 = false) by rw [inb_f (by omega)]; exact id), h20, h21, gF_sA, h21]
  generalize hW0 : f 10 = W at *
  obtain ⟨m1, a1, a2, a3, a4, a5, a6⟩ := loop_up (lp := fun n x w => p_X9_addWord_35 n (319 + (13 * W)) x w) (fin := p_X9_addWord_70) (b := e)
    (I := fun x w' => s ≤ x ∧ frm S0 (fun o => o = 52) m w' ∧ (∀ k, 0 ≤ k → k < x - s → gA w' 52 (319 + 13 * W + 1 + k) = B (s + k)) ∧ gA w' 52 (319 + 13 * W) = e - s ∧ ∀ i, (i < 319 + 13 * W ∨ 319 + 13 * W + 13 ≤ i) → gA w' 52 i = f i)
    (fun n x w' hx hI => by
      obtain ⟨i0, i1, i2, i3, i4⟩ := hI
      have p20 : gF w' 50 20 = e := (i1.1 50 20 id).trans h20
      have p21 : gF w' 50 21 = s := (i1.1 50 21 id).trans h21
      have pp : gP w' 50 3 = 52 := (i1.2.2 _ _).trans hp
      have p60 : gA w' 60 x = B x := by
        have h1 := hM.2.2 x (by omega) (by omega)
        rw [i1.2.1 60 (by decide), h1.1, i8_s ⟨h1.2.1, hb x i0 hx⟩]
      simp only [p_X9_addWord_35]
      rw [p20, p21, pp, if_pos (show lt32 x e = true by rw [lt32_o (by omega)]; exact hx), if_neg (show ¬ (inb x 500 = false) by rw [inb_f (by omega)]; exact id), if_neg (show ¬ (inb (((319 + (13 * W)) + 1 + x) - s) 1099 = false) by rw [inb_f (by omega)]; exact id), p60]
      refine ⟨_, rfl, by omega, frm_sA i1 rfl, fun k k0 k1 => ?_, ?_, fun i hi => ?_⟩
      · rw [gA_sA]
        by_cases d : k = x - s
        · rw [if_pos ⟨rfl, by omega⟩, d, show s + (x - s) = x by omega]
        · rw [if_neg (by omega)]; exact i2 k k0 (by omega)
      · rw [gA_sA, if_neg (by omega)]; exact i3
      · rw [gA_sA, if_neg (by omega)]; exact i4 i hi)
    (fun n w' hI => by
      have p20 : gF w' 50 20 = e := (hI.2.1.1 50 20 id).trans h20
      simp only [p_X9_addWord_35]
      rw [p20, if_neg (show ¬ lt32 e e = true by rw [lt32_o (by omega)]; omega)])
    FU s (sA m 52 (319 + (13 * W)) (e - s)) (by omega) ⟨Int.le_refl _, frm_sA (frm_refl m) rfl, fun k k0 k1 => absurd k1 (by omega), by rw [gA_sA, if_pos ⟨rfl, rfl⟩], fun i hi => by rw [gA_sA, if_neg (by omega)]; exact congrFun h52 i⟩ (by have : FU = 1000000 := rfl; omega)
  rw [a1]
  unfold p_X9_addWord_70
  have pp : gP m1 50 3 = 52 := (a3.2.2 _ _).trans hp
  have p10 : gA m1 52 10 = W := (a6 10 (by omega)).trans hW0
  rw [if_neg (show ¬ (inb 10 1099 = false) by decide), if_neg (show ¬ (inb 10 1099 = false) by decide), pp, p10]
  refine ⟨_, rfl, frm_sA a3 rfl, ?_, ?_, fun k k0 k1 => ?_, fun i hi hj => ?_⟩
  · rw [gA_sA, if_pos ⟨rfl, rfl⟩, hW0]
  · unfold wnF; rw [gA_sA, hW0, if_neg (by omega)]; exact a5
  · unfold wbF; rw [gA_sA, hW0, if_neg (by omega)]; exact a4 k k0 k1
  · rw [hW0] at hj
    rw [gA_sA, if_neg (fun q => hi q.2)]; exact a6 i hj
/-- the draft with its part begun -/
def opW (f : Rw) (kind u : Int) : Rw := fun i => if i = 9 then f 9 + 1 else if i = 299 + 2 * f 9 then kind else if i = 299 + 2 * f 9 + 1 then u else f i
theorem opW_n {f : Rw} {kind u i : Int} (h : i ≠ 9 ∧ i ≠ 299 + 2 * f 9 ∧ i ≠ 299 + 2 * f 9 + 1) : opW f kind u i = f i := by
  unfold opW; rw [if_neg h.1, if_neg h.2.1, if_neg h.2.2]
theorem opW_9 {f : Rw} {kind u : Int} : opW f kind u 9 = f 9 + 1 := if_pos rfl
/-- a draft whose last words stand in no part yet: the parts end at W -/
def PV (f : Rw) (W : Int) : Prop :=
  (4 ≤ f 0 ∧ f 0 ≤ 24) ∧ (1 ≤ f 1 ∧ f 1 ≤ 12) ∧ (0 ≤ f 2 ∧ f 2 ≤ 3) ∧ (0 ≤ f 9 ∧ f 9 < 10) ∧ (0 ≤ W ∧ W ≤ f 10 ∧ f 10 ≤ 60) ∧
  (∀ p, 0 ≤ p → p < f 9 → (0 ≤ pkF f p ∧ pkF f p ≤ 2) ∧ 1 ≤ psF f p ∧ psF f p ≤ 60) ∧ firF f (f 9) = W ∧
  (∀ v, 0 ≤ v → v < f 10 → 1 ≤ wnF f v ∧ wnF f v ≤ 12) ∧
  (∀ v k, 0 ≤ v → v < f 10 → 0 ≤ k → k < wnF f v → isB (wbF f v k)) ∧
  (∀ c r, 0 ≤ c → c < 24 → 0 ≤ r → r < 12 → fcF f c r = 0 ∨ fcF f c r = 1)
theorem VB.pv {f : Rw} (h : VB f) (h9 : f 9 < 10) : PV f (f 10) := by
  obtain ⟨a1, a2, a3, a4, a5, a6, a7, a8, a9, a10⟩ := h
  exact ⟨a1, a2, a3, ⟨a4.1, h9⟩, ⟨a5.1, Int.le_refl _, a5.2⟩, a6, a7, a8, a9, a10⟩
theorem PV.add {f g : Rw} {W s e : Int} {B : Int → Int} (h : PV f W) (hg : ADW f g B s e) (h60 : f 10 < 60) (hl : 1 ≤ e - s ∧ e - s ≤ 12) (hb : ∀ i, s ≤ i → i < e → isB (B i)) : PV g W := by
  obtain ⟨a1, a2, a3, a4, a5, a6, a7, a8, a9, a10⟩ := h
  obtain ⟨g1, g2, g3, g4⟩ := hg
  have e9 : g 9 = f 9 := g4 9 (by decide) (by omega)
  have ew : ∀ v, 0 ≤ v → v < f 10 → wnF g v = wnF f v := fun v v0 v1 => g4 _ (by omega) (by omega)
  refine ⟨by rw [g4 0 (by decide) (by omega)]; exact a1, by rw [g4 1 (by decide) (by omega)]; exact a2, by rw [g4 2 (by decide) (by omega)]; exact a3, by rw [e9]; exact a4, by omega, fun p p0 p1 => ?_, ?_, fun v v0 v1 => ?_, fun v k v0 v1 k0 k1 => ?_, fun c r c0 c1 r0 r1 => ?_⟩
  · rw [e9] at p1
    rw [show pkF g p = pkF f p from g4 _ (by omega) (by omega), show psF g p = psF f p from g4 _ (by omega) (by omega)]
    exact a6 p p0 p1
  · rw [e9, ← a7]
    exact sm_congr _ fun i i0 i1 => g4 _ (by omega) (by omega)
  · by_cases d : v = f 10
    · rw [d, g2]; exact hl
    · rw [ew v v0 (by omega)]; exact a8 v v0 (by omega)
  · by_cases d : v = f 10
    · rw [d] at k1 ⊢
      rw [g2] at k1
      rw [g3 k k0 k1]
      exact hb _ (by omega) (by omega)
    · have h1 := a8 v v0 (by omega)
      rw [ew v v0 (by omega)] at k1
      rw [show wbF g v k = wbF f v k from g4 _ (by omega) (by omega)]
      exact a9 v k v0 (by omega) k0 k1
  · rw [show fcF g c r = fcF f c r from g4 _ (by omega) (by omega)]; exact a10 c r c0 c1 r0 r1
theorem PV.close {f : Rw} {W kind : Int} (h : PV f W) (hk : 0 ≤ kind ∧ kind ≤ 2) (h1 : W < f 10) : VB (opW f kind (f 10 - W)) := by
  obtain ⟨a1, a2, a3, a4, a5, a6, a7, a8, a9, a10⟩ := h
  have hn : ∀ i, i ≠ 9 → (i < 299 + 2 * f 9 ∨ 319 ≤ i) → opW f kind (f 10 - W) i = f i := fun i hi hj => opW_n (by omega)
  have kP : pkF (opW f kind (f 10 - W)) (f 9) = kind := by unfold pkF opW; rw [if_neg (by omega), if_pos (by omega)]
  have sP : psF (opW f kind (f 10 - W)) (f 9) = f 10 - W := by unfold psF opW; rw [if_neg (by omega), if_neg (by omega), if_pos (by omega)]
  refine ⟨by rw [hn 0 (by decide) (by omega)]; exact a1, by rw [hn 1 (by decide) (by omega)]; exact a2, by rw [hn 2 (by decide) (by omega)]; exact a3, by rw [opW_9]; omega, by rw [hn 10 (by decide) (by omega)]; omega, fun p p0 p1 => ?_, ?_, fun v v0 v1 => ?_, fun v k v0 v1 k0 k1 => ?_, fun c r c0 c1 r0 r1 => ?_⟩
  · rw [opW_9] at p1
    by_cases d : p = f 9
    · rw [d, kP, sP]; omega
    · rw [show pkF (opW f kind (f 10 - W)) p = pkF f p from hn _ (by omega) (by omega), show psF (opW f kind (f 10 - W)) p = psF f p from hn _ (by omega) (by omega)]
      exact a6 p p0 (by omega)
  · rw [opW_9, firF_step a4.1, sP, hn 10 (by decide) (by omega)]
    rw [show firF (opW f kind (f 10 - W)) (f 9) = firF f (f 9) from sm_congr _ fun i i0 i1 => hn _ (by omega) (by omega), a7]
    omega
  · rw [hn 10 (by decide) (by omega)] at v1
    rw [show wnF (opW f kind (f 10 - W)) v = wnF f v from hn _ (by omega) (by omega)]; exact a8 v v0 v1
  · rw [hn 10 (by decide) (by omega)] at v1
    rw [show wnF (opW f kind (f 10 - W)) v = wnF f v from hn _ (by omega) (by omega)] at k1
    rw [show wbF (opW f kind (f 10 - W)) v k = wbF f v k from hn _ (by omega) (by omega)]; exact a9 v k v0 v1 k0 k1
  · rw [show fcF (opW f kind (f 10 - W)) c r = fcF f c r from hn _ (by omega) (by omega)]; exact a10 c r c0 c1 r0 r1
theorem opW_OPN {f : Rw} {kind : Int} (h9 : 0 ≤ f 9 ∧ f 9 < 10) : OPN f (opW f kind 0) (f 9) kind := by
  refine ⟨fun i hi => opW_n (by omega), ⟨rfl, opW_9⟩, opW_n (by omega), fun p p0 p1 => ⟨opW_n (by omega), opW_n (by omega)⟩, ?_, ?_, fun v v0 v1 => ⟨opW_n (by omega), fun k k0 k1 => opW_n (by omega)⟩⟩
  · unfold pkF opW; rw [if_neg (by omega), if_pos (by omega)]
  · unfold psF opW; rw [if_neg (by omega), if_neg (by omega), if_pos (by omega)]
theorem opW_WRD {f g : Rw} {kind u s e : Int} {B : Int → Int} (h9 : 0 ≤ f 9 ∧ f 9 < 10) (h10 : 0 ≤ f 10 ∧ f 10 < 60) (hw : ∀ v, 0 ≤ v → v < f 10 → wnF f v ≤ 12) (hg : ADW f g B s e) : WRD (opW f kind u) (opW g kind (u + 1)) (f 9 + 1) (f 10) (e - s) := by
  obtain ⟨g1, g2, g3, g4⟩ := hg
  have e9 : g 9 = f 9 := g4 9 (by decide) (by omega)
  have hn : ∀ i, i ≠ 9 → (i < 299 + 2 * f 9 ∨ 319 ≤ i) → opW f kind u i = f i := fun i hi hj => opW_n (by omega)
  have hm : ∀ i, i ≠ 9 → (i < 299 + 2 * f 9 ∨ 319 ≤ i) → opW g kind (u + 1) i = g i := fun i hi hj => opW_n (by rw [e9]; omega)
  refine ⟨fun i hi => ?_, ⟨opW_9, by rw [opW_9, e9]⟩, ⟨hn 10 (by decide) (by omega), (hm 10 (by decide) (by omega)).trans g1⟩, fun p p0 p1 => ?_, fun p p0 p1 => ?_, ?_, fun v v0 v1 => ⟨?_, fun k k0 k1 => ?_⟩, ?_⟩
  · rw [hn i (by omega) (by omega), hm i (by omega) (by omega)]; exact g4 i (by omega) (by omega)
  · by_cases d : p = f 9
    · unfold pkF opW
      rw [d, if_neg (by omega), if_pos (by omega), if_neg (by omega), if_pos (by omega)]
    · rw [show pkF (opW g kind (u + 1)) p = pkF g p from hm _ (by omega) (by omega), show pkF (opW f kind u) p = pkF f p from hn _ (by omega) (by omega)]
      exact g4 _ (by omega) (by omega)
  · rw [show psF (opW g kind (u + 1)) p = psF g p from hm _ (by omega) (by omega), show psF (opW f kind u) p = psF f p from hn _ (by omega) (by omega)]
    exact g4 _ (by omega) (by omega)
  · rw [show f 9 + 1 - 1 = f 9 by omega]
    unfold psF opW
    rw [if_neg (by omega), if_neg (by omega), if_pos (by omega), if_neg (by omega), if_neg (by omega), if_pos (by omega)]
  · rw [show wnF (opW g kind (u + 1)) v = wnF g v from hm _ (by omega) (by omega), show wnF (opW f kind u) v = wnF f v from hn _ (by omega) (by omega)]
    exact g4 _ (by omega) (by omega)
  · rw [show wnF (opW f kind u) v = wnF f v from hn _ (by omega) (by omega)] at k1
    have := hw v v0 v1
    rw [show wbF (opW g kind (u + 1)) v k = wbF g v k from hm _ (by omega) (by omega), show wbF (opW f kind u) v k = wbF f v k from hn _ (by omega) (by omega)]
    exact g4 _ (by omega) (by omega)
  · rw [show wnF (opW g kind (u + 1)) (f 10) = wnF g (f 10) from hm _ (by omega) (by omega)]; exact g2
theorem fx_OPN {f g : Rw} {P kind : Int} (h : OPN f g P kind) (hP : 0 ≤ P) (hw : 0 ≤ f 10) : OPN (fx f) (fx g) P kind := by
  obtain ⟨g1, g2, g3, g4, g5, g6, g7⟩ := h
  refine ⟨fun i hi => ?_, by rw [fx_n (by decide), fx_n (by decide)]; exact g2, by rw [fx_n (by decide), fx_n (by decide)]; exact g3, fun p p0 p1 => ?_, ?_, ?_, fun v v0 v1 => ?_⟩
  · by_cases d : i = 5
    · unfold fx; rw [d, upd1_s, upd1_s]; exact g1 3 (by omega)
    · rw [fx_n d, fx_n d]; exact g1 i hi
  · unfold pkF psF
    rw [fx_n (by omega), fx_n (by omega), fx_n (by omega), fx_n (by omega)]; exact g4 p p0 p1
  · unfold pkF; rw [fx_n (by omega)]; exact g5
  · unfold psF; rw [fx_n (by omega)]; exact g6
  · rw [fx_n (by decide)] at v1
    have := g7 v v0 v1
    unfold wnF wbF at *
    rw [fx_n (by omega), fx_n (by omega)]
    refine ⟨this.1, fun k k0 k1 => ?_⟩
    rw [fx_n (by omega), fx_n (by omega)]; exact this.2 k k0 k1
theorem fx_WRD {f g : Rw} {P W len : Int} (h : WRD f g P W len) (hP : 1 ≤ P) (hW : 0 ≤ W) : WRD (fx f) (fx g) P W len := by
  obtain ⟨g1, g2, g3, g4, g5, g6, g7, g8⟩ := h
  refine ⟨fun i hi => ?_, by rw [fx_n (by decide), fx_n (by decide)]; exact g2, by rw [fx_n (by decide), fx_n (by decide)]; exact g3, fun p p0 p1 => ?_, fun p p0 p1 => ?_, ?_, fun v v0 v1 => ?_, ?_⟩
  · by_cases d : i = 5
    · unfold fx; rw [d, upd1_s, upd1_s]; exact g1 3 (by omega)
    · rw [fx_n d, fx_n d]; exact g1 i hi
  · unfold pkF; rw [fx_n (by omega), fx_n (by omega)]; exact g4 p p0 p1
  · unfold psF; rw [fx_n (by omega), fx_n (by omega)]; exact g5 p p0 p1
  · unfold psF; rw [fx_n (by omega), fx_n (by omega)]; exact g6
  · have := g7 v v0 v1
    unfold wnF wbF at *
    rw [fx_n (by omega), fx_n (by omega)]
    refine ⟨this.1, fun k k0 k1 => ?_⟩
    rw [fx_n (by omega), fx_n (by omega)]; exact this.2 k k0 k1
  · unfold wnF; rw [fx_n (by omega)]; exact g8
