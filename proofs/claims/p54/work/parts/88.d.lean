/-! ===== a draft, as both sides hold it; the slab's own statement ===== -/
theorem VB_empty {f : Rw} (h0 : 4 ≤ f 0 ∧ f 0 ≤ 24) (h1 : 1 ≤ f 1 ∧ f 1 ≤ 12) (h2 : 0 ≤ f 2 ∧ f 2 ≤ 3) (h : ∀ i, 9 ≤ i → i < 1099 → f i = 0) : VB f := by
  have h9 := h 9 (by decide) (by decide)
  have h10 := h 10 (by decide) (by decide)
  refine ⟨h0, h1, h2, by omega, by omega, fun p p0 p1 => absurd p1 (by omega), ?_, fun v v0 v1 => absurd v1 (by omega), fun v k v0 v1 => absurd v1 (by omega), fun c r c0 c1 r0 r1 => Or.inl (h ((11 + (24 * r)) + c) (by omega) (by omega))⟩
  rw [h9, h10]; rfl
theorem nf_0 {f : Rw} (h : ∀ i, 11 ≤ i → i < 299 → f i = 0) : nfF f = 0 := by
  have hz : ∀ n, sm (fun _ => 0) n = 0 := by
    intro n
    induction n with
    | zero => rfl
    | succ n ih => show sm (fun _ => 0) n + 0 = 0; rw [ih]; rfl
  unfold nfF
  rw [sm_congr (g' := fun _ => 0) 288 (fun i i0 i1 => h (11 + i) (by omega) (by omega)), hz]
theorem RS_empty {w : Wd} {o : Nat} {f : Rw} (hf : gF w o 0 = f 0 ∧ gF w o 1 = f 1 ∧ gF w o 2 = f 2 ∧ gF w o 4 = f 9 ∧ gF w o 7 = f 10 ∧ gF w o 11 = f 8)
    (hc : gF w (o + 11) 0 = f 3 ∧ gF w (o + 11) 1 = f 4 ∧ gF w (o + 11) 2 = f 5 ∧ gF w (o + 11) 3 = f 6 ∧ gF w (o + 11) 4 = f 7) (hm : ∀ r, 0 ≤ r → r < 12 → gA w (o + 2) r = 0) (h : ∀ i, 9 ≤ i → i < 1099 → f i = 0) : RS w o f := by
  have h9 := h 9 (by decide) (by decide)
  have h10 := h 10 (by decide) (by decide)
  refine ⟨hf, hc, fun r r0 r1 i hi => ?_, fun p p0 p1 => absurd p1 (by omega), fun v v0 v1 => absurd v1 (by omega), fun v k v0 v1 => absurd v1 (by omega), fun c r c0 c1 r0 r1 q => ?_⟩
  · rw [hm r r0 r1, bI_0, show fcF f i r = 0 from h ((11 + (24 * r)) + i) (by omega) (by omega)]
    rw [show decide ((0 : Int) = 1) = false by decide, Bool.and_false]
  · rw [show fcF f c r = 0 from h ((11 + (24 * r)) + c) (by omega) (by omega)] at q
    exact absurd q (by decide)
theorem slabB_o {w : Wd} {c r : Int} {f : Rw} (h0 : f 0 = c) (h1 : f 1 = r) (h2 : f 2 = 0) (h3 : f 3 = 100) (h4 : f 4 = 10) (h5 : f 5 = 100) (h : ∀ i, 6 ≤ i → i < 1099 → f i = 0) :
    ∃ w', p_X6_begin 116 c r w = some w' ∧ frm (fun o _ => o = 116 ∨ o = 127) (fun o => o = 118) w w' ∧ RS w' 116 f := by
  have hcl : ∀ w, p_X5_clear (116 + 1) w = some (setR w 118 (fun j => if 0 ≤ j ∧ j < 12 then 0 else gA w 118 j)) := fun w => clear_eq (o := 117)
  unfold p_X6_begin p_X6_clearParts p_X1_renew
  simp only [Option.bind_some, hcl]
  refine ⟨_, rfl, ?_, RS_empty ⟨h0.symm, h1.symm, h2.symm, ?_, ?_, ?_⟩ ⟨h3.symm, h4.symm, h5.symm, ?_, ?_⟩ (fun r r0 r1 => ?_) (fun i i0 i1 => h i (by omega) i1)⟩
  · exact frm_sF (frm_sF (frm_sF (frm_sF (frm_sF (frm_sF (frm_sF (frm_setR (frm_sF (frm_sF (frm_sF (frm_sF (frm_refl w) (Or.inl rfl)) (Or.inl rfl)) (Or.inl rfl)) (Or.inl rfl)) rfl) (Or.inl rfl)) (Or.inl rfl)) (Or.inr rfl)) (Or.inr rfl)) (Or.inr rfl)) (Or.inr rfl)) (Or.inr rfl)
  · rw [h 9 (by decide) (by decide)]; rfl
  · rw [h 10 (by decide) (by decide)]; rfl
  · rw [h 8 (by decide) (by decide)]; rfl
  · rw [h 6 (by decide) (by decide)]; rfl
  · rw [h 7 (by decide) (by decide)]; rfl
  · simp only [gA_sF]
    rw [gA_setR, if_pos rfl, if_pos ⟨r0, r1⟩]
def SPc (o k : Nat) : Prop := o = 8 ∨ (o = 9 ∧ 1 ≤ k) ∨ (116 ≤ o ∧ o ≤ 127)
def TPc (o : Nat) : Prop := 116 ≤ o ∧ o ≤ 127
def SPm (o k : Nat) : Prop := o = 50 ∧ 20 ≤ k ∧ k ≤ 27
def TPm (o : Nat) : Prop := o = 52
def VD (f : Rw) : Prop := VB f ∧ 2 ≤ f 1 ∧ (1 ≤ f 3 ∧ f 3 ≤ 999) ∧ (0 ≤ f 4 ∧ f 4 ≤ 99) ∧ (f 6 = 0 ∧ f 7 = 0 ∧ f 8 = 0) ∧ nfF f ≤ 40
def FLG (w m : Wd) (f : Rw) : Prop := (gF w 9 1 = 0 ∧ gF w 9 2 = -1 ∧ gF m 50 25 = -1) ∧ (gF w 9 5 = gF m 50 26 ∧ gF w 9 6 = gF m 50 27 ∧ gF w 9 4 = nfF f) ∧ (0 ≤ gF w 9 5 ∧ gF w 9 5 ≤ 1) ∧ (0 ≤ gF w 9 6 ∧ gF w 9 6 ≤ 1)
def fx (f : Rw) : Rw := upd1 f 5 (f 3)
def PG (w m : Wd) (B : Int → Int) (N : Int) (f : Rw) : Prop := PT w m B N ∧ (gP m 50 3 = 52 ∧ gA m 52 = f) ∧ RS w 116 (fx f) ∧ VD f ∧ FLG w m f
def mu (w : Wd) : Int := gF w 9 4 + gF w 9 5 + gF w 9 6 + gF w 116 4
def ST (w m : Wd) (B : Int → Int) (N : Int) (r : Bool) (w' m' : Wd) : Prop := frm SPc TPc w w' ∧ frm SPm TPm m m' ∧ ((r = true ∧ (∃ f', PG w' m' B N f') ∧ mu w + 1 ≤ mu w') ∨ (r = false ∧ BAD w' m'))
theorem fte {w w' : Wd} (h : frm Te T0 w w') : frm SPc TPc w w' := frm_mono h (fun o k q => by unfold Te at q; unfold SPc; omega) (fun _ q => absurd q id)
theorem ftc {w w' : Wd} (h : frm Tc T0 w w') : frm SPc TPc w w' := frm_mono h (fun o k q => by unfold Tc at q; unfold SPc; omega) (fun _ q => absurd q id)
theorem ft8 {w w' : Wd} (h : frm T8 T0 w w') : frm Tc T0 w w' := frm_mono h (fun o k q => Or.inl q) (fun _ q => q)
theorem ft3 {w w' : Wd} (h : frm (fun o k => o = 9 ∧ k = 3) T0 w w') : frm Tc T0 w w' := frm_mono h (fun o k q => Or.inr q) (fun _ q => q)
theorem fsc {m m' : Wd} (h : frm Ssc T0 m m') : frm SPm TPm m m' := frm_mono h (fun o k q => by unfold Ssc at q; unfold SPm; omega) (fun _ q => absurd q id)
theorem fse {m m' : Wd} (h : frm Sse T0 m m') : frm SPm TPm m m' := frm_mono h (fun o k q => by unfold Sse at q; unfold SPm; omega) (fun _ q => absurd q id)
section PGs
variable {w m w' m' : Wd} {B : Int → Int} {N : Int} {f : Rw}
theorem FLG.fr (h : FLG w m f) {S S' : Nat → Nat → Prop} {T T' : Nat → Prop} (hw : frm S T w w') (hm : frm S' T' m m') (hS : ∀ k, k ≠ 3 → ¬ S 9 k) (hS' : ∀ k, 25 ≤ k → k ≤ 27 → ¬ S' 50 k) : FLG w' m' f := by
  unfold FLG at *
  rw [hw.1 9 1 (hS 1 (by decide)), hw.1 9 2 (hS 2 (by decide)), hw.1 9 4 (hS 4 (by decide)), hw.1 9 5 (hS 5 (by decide)), hw.1 9 6 (hS 6 (by decide)), hm.1 50 25 (hS' 25 (by decide) (by decide)), hm.1 50 26 (hS' 26 (by decide) (by decide)), hm.1 50 27 (hS' 27 (by decide) (by decide))]
  exact h
theorem PG.tok (h : PG w m B N f) (hP : PT w' m' B N) (hw : frm Tc T0 w w') (hm : frm Ssc T0 m m') : PG w' m' B N f := by
  obtain ⟨h1, ⟨h2, h3⟩, h4, h5, h6⟩ := h
  exact ⟨hP, ⟨(hm.2.2 _ _).trans h2, (funext fun i => hm.2.1 52 id i).trans h3⟩, h4.fr hw (fun d k _ q => by unfold Tc at q; omega) (fun d _ q => q), h5, h6.fr hw hm (fun k hk q => by unfold Tc at q; omega) (fun k k0 k1 q => by unfold Ssc at q; omega)⟩
theorem wrd_o (h : PT w m B N) {o : Nat} (ho : o < 9) (h1 : o ≠ 1 ∧ o ≠ 3) : ∃ c : Bool, p_X7_says o w = some (b2 c, w) ∧ p_X9_isWord o m = some (b2 c, m) := by
  obtain ⟨a1, a2, a3, s, e, K, a4⟩ := h
  have hKr : 0 ≤ K ∧ K ≤ 3 := by rcases a4.2.2.2.1 with q | q <;> omega
  refine ⟨_, says_o a1 a4.1 a4.2.1.1 a4.2.1.2.1 ho, ?_⟩
  rw [isWord_o a2 a4.1 a4.2.2.1.1 a4.2.2.1.2.1 a4.2.2.1.2.2 hKr a3 ho, ← word_iff a4 ho h1]
theorem slab_o (h : PT w m B N) (hp : gP m 50 3 = 52) (h0 : ∀ i, 0 ≤ i → i < 1099 → gA m 52 i = if i = 0 then 10 else if i = 1 then 4 else if i = 3 then 100 else if i = 4 then 10 else if i = 5 then 100 else 0)
    (hF : gF w 9 1 = 0 ∧ gF w 9 2 = -1 ∧ gF m 50 25 = -1) (hF2 : gF w 9 5 = 0 ∧ gF m 50 26 = 0 ∧ gF w 9 6 = 0 ∧ gF m 50 27 = 0 ∧ gF w 9 4 = 0) :
    ∃ r w' m', p_X3_readSize 116 w = some (b2 r, w') ∧ p_X9_parseSlab m = some m' ∧ frm SPc TPc w w' ∧ frm SPm TPm m m' ∧ ((r = true ∧ ∃ f', PG w' m' B N f') ∨ (r = false ∧ BAD w' m')) := by
  have iT : ¬ eq32 (b2 true) 0 = true := by decide +kernel
  have iF : eq32 (b2 false) 0 = true := by decide +kernel
  have n0 : ¬ (inb 0 1099 = false) := by decide
  have n1 : ¬ (inb 1 1099 = false) := by decide
  obtain ⟨c, c1, c2⟩ := wrd_o h (o := 0) (by decide) (by decide)
  unfold p_X3_readSize p_X9_parseSlab p_X9_takeWord p_X9_takeWord_13
  rw [c1, Option.bind_some, c2, Option.bind_some]
  dsimp only
  cases c with
  | false =>
    obtain ⟨w1, m1, f1, f2, f3, f4, f5⟩ := bad2 h (c := 1) (by decide)
    have hx := f3.2.2
    have hp1 : gP m1 50 3 = 52 := (f5.2.2 _ _).trans hp
    rw [if_pos iF, if_pos iF, f1, Option.bind_some, f2, Option.bind_some, goOn_x hx, Option.bind_some, Option.bind_some, number_x hx, Option.bind_some]
    dsimp only
    have hx1 : IDL (sA m1 52 0 4) := hx
    have hx2 : IDL (sA (sA m1 52 0 4) 52 1 2) := hx
    rw [if_neg n0, hp1, number_x hx1, Option.bind_some]
    dsimp only
    rw [if_neg n1, show gP (sA m1 52 0 4) 50 3 = 52 from hp1, Option.bind_some, semicolon_x hx2, Option.bind_some]
    exact ⟨false, w1, _, zr_0 w1, rfl, fte f4, frm_sA (frm_sA (fse f5) rfl) rfl, Or.inr ⟨rfl, f3⟩⟩
  | true =>
    obtain ⟨w1, m1, d1, d2, d3, d4, d5⟩ := step2 h
    have hp1 : gP m1 50 3 = 52 := (d4.2.2 _ _).trans hp
    obtain ⟨r, a, w2, m2, e1, e2, e3, e4, e5⟩ := num_o d5 (lo := 4) (hi := 24) (by decide)
    rw [if_neg iT, if_neg iT, d1, Option.bind_some, d2, Option.bind_some, Option.bind_some, e1, Option.bind_some, e2, Option.bind_some]
    dsimp only
    rw [if_neg n0, hp1]
    rcases e4 with ⟨rfl, g1, g2, g3⟩ | ⟨rfl, g1, g2, g3⟩
    · have hp2 : gP m2 50 3 = 52 := (g3.2.2 _ _).trans hp1
      have hfa : frm S0 (fun o => o = 52) m2 (sA m2 52 0 a) := frm_sA (frm_refl m2) rfl
      have g4 : PT w2 (sA m2 52 0 a) B N := g1.fr (frm_refl (S := S0) (T := T0) w2) hfa (fun _ q => q) id id (fun _ _ _ q => q) (by decide)
      obtain ⟨r', a', w3, m3, i1, i2, i3, i4, i5⟩ := num_o g4 (lo := 2) (hi := 12) (by decide)
      rw [if_neg iT, i1, Option.bind_some, i2, Option.bind_some]
      dsimp only
      rw [if_neg n1, show gP (sA m2 52 0 a) 50 3 = 52 from hp2, Option.bind_some, e5 rfl]
      rcases i4 with ⟨rfl, j1, j2, j3⟩ | ⟨rfl, j1, j2, j3⟩
      · rw [if_neg iT, i5 rfl]
        have n52 : ∀ i, gA m3 52 i = if i = 0 then a else gA m 52 i := fun i => by
          rw [j3.2.1 52 id i, gA_sA, g3.2.1 52 id i, d4.2.1 52 id i]
          by_cases q : i = 0
          · rw [if_pos ⟨rfl, q⟩, if_pos q]
          · rw [if_neg (fun x => q x.2), if_neg q]
        have hrow : ∀ i, 0 ≤ i → i < 1099 → gA (sA m3 52 1 a') 52 i = if i = 0 then a else if i = 1 then a' else if i = 3 then 100 else if i = 4 then 10 else if i = 5 then 100 else 0 := fun i i0 i1 => by
          rw [gA_sA, n52, h0 i i0 i1]
          by_cases q : i = 1
          · rw [if_pos ⟨rfl, q⟩, if_neg (by omega), if_pos q]
          · rw [if_neg (fun x => q x.2), if_neg q]
            by_cases q2 : i = 0
            · rw [if_pos q2, if_pos q2]
            · rw [if_neg q2, if_neg q2, if_neg q2, if_neg q]
        obtain ⟨fr, hfr⟩ : ∃ fr, gA (sA m3 52 1 a') 52 = fr := ⟨_, rfl⟩
        rw [hfr] at hrow
        have k6 : ∀ i, 6 ≤ i → i < 1099 → fr i = 0 := fun i i0 i1 => by
          rw [hrow i (by omega) i1, if_neg (by omega), if_neg (by omega), if_neg (by omega), if_neg (by omega), if_neg (by omega)]
        have r0 : fr 0 = a := hrow 0 (by decide) (by decide)
        have r1 : fr 1 = a' := hrow 1 (by decide) (by decide)
        have r2 : fr 2 = 0 := hrow 2 (by decide) (by decide)
        have r3 : fr 3 = 100 := hrow 3 (by decide) (by decide)
        have r4 : fr 4 = 10 := hrow 4 (by decide) (by decide)
        have r5 : fr 5 = 100 := hrow 5 (by decide) (by decide)
        have hfx : fx fr = fr := by
          unfold fx
          rw [r3]
          funext j
          unfold upd1
          by_cases q : j = 5
          · rw [if_pos q, q, r5]
          · rw [if_neg q]
        obtain ⟨w4, k1, k2, k3⟩ := slabB_o (w := w3) (c := a) (r := a') r0 r1 r2 r3 r4 r5 k6
        have hnf : nfF fr = 0 := nf_0 (fun i i0 i1 => k6 i (by omega) (by omega))
        have hVD : VD fr := ⟨VB_empty (by rw [r0]; exact e3) (by rw [r1]; omega) (by rw [r2]; decide) (fun i i0 i1 => k6 i (by omega) i1), by rw [r1]; exact i3.1, by rw [r3]; decide, by rw [r4]; decide, ⟨k6 6 (by decide) (by decide), k6 7 (by decide) (by decide), k6 8 (by decide) (by decide)⟩, by rw [hnf]; decide⟩
        have wF : ∀ k, k ≠ 3 → gF w4 9 k = gF w 9 k := fun k hk => by
          rw [k2.1 9 k (by omega), j2.1 9 k (by unfold Tc; omega), g2.1 9 k (by unfold Tc; omega), d3.1 9 k (by unfold T8; omega)]
        have mF : ∀ k, 24 ≤ k → gF (sA m3 52 1 a') 50 k = gF m 50 k := fun k hk => by
          rw [gF_sA, j3.1 50 k (by unfold Ssc; omega), gF_sA, g3.1 50 k (by unfold Ssc; omega), d4.1 50 k (by unfold Ssc; omega)]
        have hP4 : PT w4 (sA m3 52 1 a') B N := j1.fr k2 (frm_sA (frm_refl m3) rfl : frm S0 (fun o => o = 52) m3 (sA m3 52 1 a')) (fun k q => by omega) (by omega) (by omega) (fun _ _ _ q => q) (by decide)
        have hPG : PG w4 (sA m3 52 1 a') B N fr := by
          refine ⟨hP4, ⟨(j3.2.2 _ _).trans hp2, hfr⟩, by rw [hfx]; exact k3, hVD, ⟨?_, ?_, ?_⟩, ?_, ?_⟩
          · rw [wF 1 (by decide)]; exact hF.1
          · rw [wF 2 (by decide)]; exact hF.2.1
          · rw [mF 25 (by decide)]; exact hF.2.2
          · rw [wF 4 (by decide), wF 5 (by decide), wF 6 (by decide), mF 26 (by decide), mF 27 (by decide), hnf]; omega
          · rw [wF 5 (by decide), wF 6 (by decide)]; omega
        obtain ⟨r6, w5, m5, l1, l2, l3⟩ := end_o hP4
        rw [k1, Option.bind_some, l1, Option.bind_some, l2, Option.bind_some]
        have hfw : frm SPc TPc w w4 := frm_trans (ftc (ft8 d3)) (frm_trans (ftc g2) (frm_trans (ftc j2) (frm_mono k2 (fun o k q => by unfold SPc; omega) (fun o q => by unfold TPc; omega))))
        have hfm : frm SPm TPm m (sA m3 52 1 a') := frm_sA (frm_trans (frm_sA (frm_trans (fsc d4) (fsc g3)) rfl) (fsc j3)) rfl
        refine ⟨r6, w5, m5, zr_b2 r6 w5, rfl, ?_⟩
        rcases l3 with ⟨rfl, o1, o2, o3⟩ | ⟨rfl, o1, o2, o3⟩
        · exact ⟨frm_trans hfw (ftc o2), frm_trans hfm (fsc o3), Or.inl ⟨rfl, fr, hPG.tok o1 o2 o3⟩⟩
        · exact ⟨frm_trans hfw (fte o2), frm_trans hfm (fse o3), Or.inr ⟨rfl, o1⟩⟩
      · have hx : IDL (sA m3 52 1 a') := j1.2.2
        rw [if_pos iF, semicolon_x hx, Option.bind_some]
        exact ⟨false, w3, _, rfl, rfl, frm_trans (ftc (ft8 d3)) (frm_trans (ftc g2) (fte j2)), frm_sA (frm_trans (frm_sA (frm_trans (fsc d4) (fsc g3)) rfl) (fse j3)) rfl, Or.inr ⟨rfl, j1⟩⟩
    · have hx1 : IDL (sA m2 52 0 a) := g1.2.2
      have hx2 : IDL (sA (sA m2 52 0 a) 52 1 2) := g1.2.2
      have hp2 : gP m2 50 3 = 52 := (g3.2.2 _ _).trans hp1
      rw [if_pos iF, number_x hx1, Option.bind_some]
      dsimp only
      rw [if_neg n1, show gP (sA m2 52 0 a) 50 3 = 52 from hp2, Option.bind_some, semicolon_x hx2, Option.bind_some]
      exact ⟨false, w2, _, rfl, rfl, frm_trans (ftc (ft8 d3)) (fte g2), frm_sA (frm_sA (frm_trans (fsc d4) (fse g3)) rfl) rfl, Or.inr ⟨rfl, g1⟩⟩
end PGs
