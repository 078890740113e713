/-! ===== a new part leaves the laid words where they are ===== -/
theorem lwF_keep {f : Rw} : ∀ (n : Nat) (v : Int) (st : Ly) (i : Int), i < v → (lwF f n v st).2.2.2.2.1 i = st.2.2.2.1 i ∧ (lwF f n v st).2.2.2.2.2 i = st.2.2.2.2 i := by
  intro n
  induction n with
  | zero => intro v st i _; exact ⟨rfl, rfl⟩
  | succ n ih =>
    intro v st i hi
    unfold lwF
    by_cases c : (fpF f (wnF f v) FP0 st.2.1 st.2.2.1).1 = true
    · rw [if_pos c]
      obtain ⟨h1, h2⟩ := ih (v + 1) (v + 1, (fpF f (wnF f v) FP0 st.2.1 st.2.2.1).2.1, (fpF f (wnF f v) FP0 st.2.1 st.2.2.1).2.2 + wnF f v + 1, upd1 st.2.2.2.1 v (fpF f (wnF f v) FP0 st.2.1 st.2.2.1).2.1, upd1 st.2.2.2.2 v (fpF f (wnF f v) FP0 st.2.1 st.2.2.1).2.2) i (by omega)
      exact ⟨h1.trans (upd1_n _ _ (by omega)), h2.trans (upd1_n _ _ (by omega))⟩
    · rw [if_neg c]; exact ⟨rfl, rfl⟩
theorem mrF_keep {f : Rw} {R C : Int → Int} {a b i : Int} (h : i < a) : mrF f R C a b i = C i := if_neg (by omega)
theorem ceF_keep {f : Rw} {R : Int → Int} {to : Int} : ∀ (k : Nat) (a x : Int) (C : Int → Int) (i : Int), i < a → a ≤ x → ceF f R to k a x C i = C i := by
  intro k
  induction k with
  | zero => intro a x C i _ _; rfl
  | succ k ih =>
    intro a x C i h hx
    unfold ceF
    by_cases c : x < to ∧ R x = R a
    · rw [if_pos c]; exact ih a (x + 1) C i h (by omega)
    · rw [if_neg c]
      by_cases c2 : x < to
      · rw [if_pos c2, ih x (x + 1) _ i (by omega) (by omega)]; exact mrF_keep h
      · rw [if_neg c2]; exact mrF_keep h
theorem lpF_keep {f : Rw} {p : Int} {st : Ly} {i : Int} (hi : i < st.1) : (lpF f p st).2.2.2.2.1 i = st.2.2.2.1 i ∧ (lpF f p st).2.2.2.2.2 i = st.2.2.2.2 i := by
  obtain ⟨h1, h2⟩ := lwF_keep (f := f) (psF f p).toNat st.1 st i hi
  unfold lpF
  by_cases c : (lwF f (psF f p).toNat st.1 st).1 = true
  · rw [if_pos c]
    refine ⟨h1, ?_⟩
    show (if pkF f p = 0 then _ else _ : Int → Int) i = _
    by_cases d : pkF f p = 0
    · rw [if_pos d, ceF_keep _ _ _ _ _ hi (by omega)]; exact h2
    · rw [if_neg d]; exact h2
  · rw [if_neg c]; exact ⟨h1, h2⟩
theorem lyF_keep {f : Rw} : ∀ (n : Nat) (p : Int) (st : Ly) (i : Int), i < (lyF f n p st).1 → (lyF f (n + 1) p st).2.2.2.1 i = (lyF f n p st).2.2.2.1 i ∧ (lyF f (n + 1) p st).2.2.2.2 i = (lyF f n p st).2.2.2.2 i := by
  intro n
  induction n with
  | zero =>
    intro p st i hi
    have h := lpF_keep (f := f) (p := p) (st := st) (i := i) hi
    show (if (lpF f p st).1 then (lpF f p st).2 else (lpF f p st).2).2.2.2.1 i = _ ∧ (if (lpF f p st).1 then (lpF f p st).2 else (lpF f p st).2).2.2.2.2 i = _
    rw [ite_self]
    exact h
  | succ n ih =>
    intro p st i hi
    rw [lyF] at hi ⊢
    rw [show lyF f (n + 1) p st = (if (lpF f p st).1 then lyF f n (p + 1) (lpF f p st).2 else (lpF f p st).2) from rfl]
    split
    · rename_i c
      rw [if_pos c] at hi
      exact ih (p + 1) _ i hi
    · exact ⟨rfl, rfl⟩
theorem add_keep {f g : Rw} {x c : Int} (hV : VB f) (h9 : f 9 < 10) (hg : AGF f g) (hVg : VB (nrm (opW g x c))) (h10 : g 10 = f 10 + c) (hc : 0 ≤ c) : nLF f ≤ nLF (nrm (opW g x c)) ∧ (∀ v, 0 ≤ v → v < nLF f → rLF f v = rLF (nrm (opW g x c)) v ∧ cLF f v = cLF (nrm (opW g x c)) v ∧ wbF f v 0 = wbF (nrm (opW g x c)) v 0) := by
  have hp := hV.p
  have hw := hV.w
  have hcc := hV.c
  have hrr := hV.r
  have g9 : g 9 = f 9 := hg 9 (by decide) (by decide) (by omega)
  have e : ∀ j, 0 ≤ j → j ≠ 9 → j ≠ 10 → (j < 299 + 2 * f 9 ∨ 319 ≤ j) → j < 319 + 13 * f 10 → nrm (opW g x c) j = f j := fun j j0 j9 j10 j1 j2 => by
    rw [nrm_i ⟨j0, by omega⟩, opW_n (by rw [g9]; omega)]; exact hg j j0 j10 j2
  have n9 : nrm (opW g x c) 9 = f 9 + 1 := (nrm_i (by decide)).trans (opW_9.trans (by rw [g9]))
  have n10 : nrm (opW g x c) 10 = f 10 + c := (nrm_i (by decide)).trans ((opW_n (by rw [g9]; omega)).trans h10)
  have hE : EXT f (nrm (opW g x c)) (f 9) (f 10) := by
    refine ⟨⟨(e 0 (by decide) (by decide) (by decide) (by omega) (by omega)).symm, (e 1 (by decide) (by decide) (by decide) (by omega) (by omega)).symm, (e 2 (by decide) (by decide) (by decide) (by omega) (by omega)).symm⟩, fun a b => ?_, fun p p0 p1 => ⟨?_, ?_⟩, fun v v0 v1 => ?_⟩
    · unfold flF isCF
      rw [e 0 (by decide) (by decide) (by decide) (by omega) (by omega), e 1 (by decide) (by decide) (by decide) (by omega) (by omega)]
      by_cases q : 0 ≤ a ∧ a < f 0 ∧ 0 ≤ b ∧ b < f 1
      · rw [show fcF (nrm (opW g x c)) a b = fcF f a b from e _ (by omega) (by omega) (by omega) (by omega) (by omega)]
      · rw [decide_eq_false q]; rfl
    · exact (e _ (by omega) (by omega) (by omega) (by omega) (by omega)).symm
    · exact (e _ (by omega) (by omega) (by omega) (by omega) (by omega)).symm
    · exact (e _ (by omega) (by omega) (by omega) (by omega) (by omega)).symm
  have h1 := lyF_ext hE hV (Int.le_refl _) (Int.le_refl _) (f 9).toNat 0 L0 (Int.le_refl _) (by omega) (by rw [Int.zero_add, Int.toNat_of_nonneg hp.1, hV.fir]; exact Int.le_refl _) VS_0
  have h2 := lyF_more (f := nrm (opW g x c)) (f 9).toNat 0 L0
  rw [← h1] at h2
  have h3 : nLF f ≤ nLF (nrm (opW g x c)) := by
    unfold nLF lF
    rw [n9, show (f 9 + 1).toNat = (f 9).toNat + 1 by omega]
    exact h2
  have hn := nL_rng hV
  have hl : lF (nrm (opW g x c)) = lyF (nrm (opW g x c)) ((f 9).toNat + 1) 0 L0 := by
    unfold lF
    rw [n9, show (f 9 + 1).toNat = (f 9).toNat + 1 by omega]
  refine ⟨h3, fun v v0 v1 => ?_⟩
  have hk := lyF_keep (f := nrm (opW g x c)) (f 9).toNat 0 L0 v (by rw [← h1]; exact v1)
  rw [← h1, ← hl] at hk
  exact ⟨hk.1.symm, hk.2.symm, (e _ (by omega) (by omega) (by omega) (by omega) (by omega)).symm⟩

/-! ===== the words of the law's new part ===== -/
section NP
variable {k na : Nat} {wC wM : Wd}
theorem tiw_t {t : List Int} {wd : Int} (hwd : wd ≤ 24) : ∀ (ws : List (List Int)) (n : Nat) (x2 x3 : Int) (w : Wd), POSL w t ws → (∀ tok ∈ ws, Wok tok wd) → gF w 100 0 = wd → (0 ≤ gF w 116 7 ∧ gF w 116 7 ≤ 60) → (0 ≤ gF w 116 4 ∧ gF w 116 4 ≤ 10) → 0 ≤ x3 ∧ x3 + ws.length ≤ 400 → ws.length < n → ∃ w', p_X8_takeInputWords_19 n x2 x3 w = some (x2 + ws.length, w') := by
  intro ws
  induction ws with
  | nil =>
    intro n x2 x3 w h _ _ _ _ hx hn
    obtain ⟨n', rfl⟩ : ∃ n', n = n' + 1 := ⟨n - 1, by simp only [List.length_nil] at hn; omega⟩
    simp only [List.length_nil] at hx
    have k0 : gF w 8 1 = 0 := by
      obtain ⟨pre, l, _, b, _⟩ := (show POS w t [] [] from h)
      rw [b]; exact if_pos rfl
    refine ⟨w, ?_⟩
    rw [p_X8_takeInputWords_19, if_pos (by rw [lt32_o (by omega)]; omega), k0, if_pos (by decide +kernel)]
    exact congrArg (fun q => some (q, w)) (Int.add_zero x2).symm
  | cons tok ws ih =>
    intro n x2 x3 w h hok h0 h7 h4 hx hn
    obtain ⟨n', rfl⟩ : ∃ n', n = n' + 1 := ⟨n - 1, by simp only [List.length_cons] at hn; omega⟩
    simp only [List.length_cons] at hx hn
    obtain ⟨k1, k2, k3, k4, k5⟩ := hok tok List.mem_cons_self
    have hne : tok ≠ [] := fun q => by rw [q] at k1; exact absurd k1 (by decide)
    have hP : POS w t tok ws := h
    have hpl := plain_t hP hne k4 k2
    obtain ⟨pre, l, ⟨hC, ht, h2, h3⟩, _, _⟩ := hP
    have hlen : t.length = pre.length + (tok.length + l.length) := by rw [ht, List.length_append, List.length_append]
    have hN := hC.2.1
    obtain ⟨w1, m1, m2, m3, m4⟩ := takeWord_t (w := w) (o := 116) (src := 3) (start := gF w 8 2) (len := gF w 8 3) SLo_1 h7 h4 (by omega) (by rw [show ln (3 + 1) = 500 from rfl]; omega)
    have p1 : POSL w1 t (tok :: ws) := POS.fr h m2 (fun k q => absurd q.1 (by decide)) (fun q => absurd q.1 (by decide)) (by unfold TWo; decide)
    obtain ⟨w2, s1, s2, s3⟩ := POS.go p1
    obtain ⟨w3, a⟩ := ih n' (x2 + 1) (x3 + 1) w2 s3 (fun tk htk => hok tk (List.mem_cons_of_mem _ htk)) ((s2.1 100 0 (by unfold T8; decide)).trans ((m2.1 100 0 (by unfold SWo; omega)).trans h0)) (by rw [s2.1 116 7 (by unfold T8; decide)]; exact m3) (by rw [s2.1 116 4 (by unfold T8; decide), m4]; exact h4) (by omega) (by omega)
    refine ⟨w3, ?_⟩
    have hk : ¬ eq32 (gF w 8 1) 0 = true := h.kd hne (by omega)
    rw [p_X8_takeInputWords_19, if_pos (by rw [lt32_o (by omega)]; omega), if_neg hk, hpl, Option.bind_some]
    dsimp only
    rw [if_neg (by decide +kernel), h0, if_neg (by rw [h3, lt32_o (by omega)]; omega), m1, Option.bind_some, s1, Option.bind_some, a]
    exact congrArg (fun q => some (q, w3)) (by simp only [List.length_cons]; omega)
theorem tiw_o {t : List Int} {wd : Int} (hwd : wd ≤ 24) {ws : List (List Int)} (hTK : TK ws t) (hok : ∀ tok ∈ ws, Wok tok wd) {w : Wd} (hC : TXC w (Bt t) (t.length : Nat)) (h0 : gF w 100 0 = wd) (h7 : 0 ≤ gF w 116 7 ∧ gF w 116 7 ≤ 60) (h4 : 0 ≤ gF w 116 4 ∧ gF w 116 4 ≤ 10) (hl : ws.length ≤ 400) (x : Int) : ∃ w', p_X8_takeInputWords x w = some (((ws.length : Nat) : Int), w') := by
  have hop : ∃ w1, p_X6_openPart 116 x w = some w1 ∧ frm (fun o k => o = 116 ∧ k = 4) (fun o => o = 120 ∨ o = 122) w w1 ∧ (0 ≤ gF w1 116 4 ∧ gF w1 116 4 ≤ 10) := by
    unfold p_X6_openPart
    by_cases c : gF w 116 4 < 10
    · rw [if_pos (by rw [lt32_o (by omega)]; exact c), put_in (o := 116 + 3) ⟨h4.1, by rw [show ln (116 + 3 + 1) = 10 from rfl]; omega⟩, Option.bind_some]
      rw [show gF (sA w (116 + 3 + 1) (gF w 116 4) x) 116 4 = gF w 116 4 from rfl, put_in (o := 116 + 5) ⟨h4.1, by rw [show ln (116 + 5 + 1) = 10 from rfl]; omega⟩, Option.bind_some]
      rw [show gF (sA (sA w (116 + 3 + 1) (gF w 116 4) x) (116 + 5 + 1) (gF w 116 4) 0) 116 4 = gF w 116 4 from rfl]
      exact ⟨_, rfl, frm_sF (frm_sA (frm_sA (frm_refl w) (Or.inl rfl)) (Or.inr rfl)) ⟨rfl, rfl⟩, by rw [gF_sF, if_pos ⟨rfl, rfl⟩]; omega⟩
    · rw [if_neg (by rw [lt32_o (by omega)]; exact c)]
      exact ⟨w, rfl, frm_refl w, h4⟩
  obtain ⟨w1, o1, o2, o3⟩ := hop
  have hC1 : TXC w1 (Bt t) (t.length : Nat) := hC.fr o2 (by decide) (by decide)
  have f0 : frm (fun o _ => o = 8) T0 w1 (sF (sF w1 8 2 0) 8 3 0) := frm_sF (frm_sF (frm_refl w1) rfl) rfl
  have hA : AT0 (sF (sF w1 8 2 0) 8 3 0) t [] [] t := ⟨hC1.fr f0 (by decide) id, by rw [List.nil_append, List.nil_append], by rw [gF_sF, if_neg (by decide), gF_sF, if_pos ⟨rfl, rfl⟩]; rfl, by rw [gF_sF, if_pos ⟨rfl, rfl⟩]; rfl⟩
  obtain ⟨w2, s1, s2, s3⟩ := step_t hA hTK
  have e2 : ∀ o j, o ≠ 8 → gF w2 o j = gF w1 o j := fun o j ho => (s2.1 o j ho).trans (f0.1 o j ho)
  obtain ⟨w3, a⟩ := tiw_t hwd ws FU 0 0 w2 s3 hok ((e2 100 0 (by decide)).trans ((o2.1 100 0 (by decide)).trans h0)) (by rw [e2 116 7 (by decide), o2.1 116 7 (by decide)]; exact h7) (by rw [e2 116 4 (by decide)]; exact o3) (by omega) (by have : FU = 1000000 := rfl; omega)
  refine ⟨w3, ?_⟩
  unfold p_X8_takeInputWords p_X7_restart
  rw [o1, Option.bind_some, Option.bind_some, s1, Option.bind_some, Option.bind_some, a]
  exact congrArg (fun q => some (q, w3)) (Int.zero_add _)
/-- a new part -/
theorem ac34 (h : RR k na wC wM) {x : Int} (hxk : 0 ≤ x ∧ x ≤ 2) {t : List Int} {ws : List (List Int)} (hTK : TK ws t) (hok : ∀ tok ∈ ws, Wok tok (gA wM 51 0)) (hC : TXC wC (Bt t) (t.length : Nat)) (hl : 1 ≤ ws.length ∧ ws.length ≤ 400) :
    ∃ (z : Rz) (wM' : Wd), p_X8_addPart x na wC = some z ∧ ((∃ r, z.1 = .inl r) ∨ z.1 = .inr 1) ∧ RR (k + 1) z.2.1 z.2.2 wM' ∧ CH (gA wM 51) (gA wM' 51) ∧ gF z.2.2 2 1 = 0 := by
  have hx : rng x := ⟨by omega, by omega⟩
  have hx' := hx
  unfold rng at hx'
  have hV := h.B
  have hp9 := hV.p
  have hw10 := hV.w
  obtain ⟨w1, w2, m2, a1, a2, a3, a4⟩ := add_go h hx
  obtain ⟨y1, y2, y3, y4, y5⟩ := h.cp
  have y6 : w1 = y1 := Option.some.inj (a1.symm.trans y2)
  subst y6
  have hVc := hV.c
  have htk := tiw_o (w := w1) (wd := gA wM 51 0) hVc.2 hTK hok (hC.fr y3 (by unfold SQ; decide) (by unfold TQ; decide)) ((y4.1 100 0 (by unfold SCf; omega)).trans h.S.1.1) (by rw [y5.1.2.2.2.2.1]; exact hw10) (by rw [y5.1.2.2.2.1]; exact hp9) hl.2 x
  obtain ⟨m3, hm3⟩ : ∃ m3, m3 = sF (sF (sP m2 50 3 51) 50 24 (gF wM 50 24)) 50 25 (gF wM 50 25) := ⟨_, rfl⟩
  have p3 : ∀ o j, gP m3 o j = gP wM o j := fun o j => by
    rw [hm3, gP_sF, gP_sF, gP_sP]
    by_cases q : o = 50 ∧ j = 3
    · rw [if_pos q, q.1, q.2]; exact h.pp.symm
    · rw [if_neg q, a3.2.2.1, if_neg q]
  have e24 : gF m3 50 24 = gF wM 50 24 := by rw [hm3, gF_sF, if_neg (by decide), gF_sF, if_pos ⟨rfl, rfl⟩]
  have e25 : gF m3 50 25 = gF wM 50 25 := by rw [hm3, gF_sF, if_pos ⟨rfl, rfl⟩]
  have eX : ∀ o l, ¬ (o = 50 ∧ 18 ≤ l ∧ l ≤ 27) → gF m3 o l = gF wM o l := fun o l hl => by
    rw [hm3, gF_sF, if_neg (by omega), gF_sF, if_neg (by omega), gF_sP]; exact a3.1 o l hl
  have e18 : gF m3 50 18 = 0 := by rw [hm3, gF_sF, if_neg (by decide), gF_sF, if_neg (by decide), gF_sP]; exact a3.2.2.2
  have eA : ∀ o j, gA m3 o j = gA m2 o j := fun o j => by rw [hm3]; rfl
  have fW : frm SCe TCf wC (sF w2 2 1 0) := frm_sF (frm_mono a2 (fun o l q => by unfold SPa at q; unfold SCe SCf; omega) (fun o q => by unfold TPc at q; unfold TCf; omega)) (Or.inr (Or.inl ⟨rfl, rfl⟩))
  have fM : ∀ v : Int, frm SMe TMf wM (sF m3 50 0 v) := fun v => by
    refine ⟨fun o l hl => ?_, fun o ho j => ?_, fun o j => p3 o j⟩
    · rw [gF_sF, if_neg (by unfold SMe at hl; omega)]; exact eX o l (by unfold SMe at hl; omega)
    · rw [gA_sF, eA]; exact a3.2.1 o (fun q => ho (by rw [q]; unfold TMf; omega)) j
  have hI : ∀ v : Int, INr (sF w2 2 1 0) (sF m3 50 0 v) := fun v => by
    have e : gF (sF m3 50 0 v) 50 18 = 0 := e18
    refine ⟨by rw [e]; rfl, by rw [e]; decide, fun j j0 j1 => ?_⟩
    rw [e] at j1
    exact absurd j1 (by omega)
  have w91 : gF w2 9 1 = gF wC 9 1 := a2.1 9 1 (by unfold SPa; omega)
  have w92 : gF w2 9 2 = gF wC 9 2 := a2.1 9 2 (by unfold SPa; omega)
  have hEr : ∀ v : Int, ERr (sF w2 2 1 0) (sF m3 50 0 v) := fun v => by
    have hq := h.2.2.2.2.2.2.2.1
    exact ⟨w91.trans (hq.1.trans e24.symm), w92.trans (hq.2.trans e25.symm)⟩
  have hRR : ∀ v : Int, RR (k + 1) na (sF w2 2 1 0) (sF m3 50 0 v) := fun v => (h.er fW (fM v) (hI v) (hEr v)).mono (Nat.le_succ k)
  have g4 : gF (sF w2 2 1 0) 100 4 = gA wM 51 9 := (a2.1 100 4 (by unfold SPa; omega)).trans h.S.1.2.2.2.1
  have g7 : gF (sF w2 2 1 0) 100 7 = gA wM 51 10 := (a2.1 100 7 (by unfold SPa; omega)).trans h.S.1.2.2.2.2.1
  have n9 : gA m3 51 9 = gA wM 51 9 := (eA 51 9).trans (a3.2.1 51 (by decide) 9)
  have n10 : gA m3 51 10 = gA wM 51 10 := (eA 51 10).trans (a3.2.1 51 (by decide) 10)
  have hcl : ∀ c, p_X8_takeInputWords x w1 = some (c, w2) → p_X8_addPart x na wC = if eq32 c 0 = true then some (.inr 2, na, sF w2 2 1 0) else if lt32 x 0 = true then some (.inr 2, na, sF w2 2 1 0) else if lt32 2 x = true then some (.inr 2, na, sF w2 2 1 0) else
      if lt32 (gA wM 51 9) 10 = true then (if lt32 60 (gA wM 51 10 + c) = true then some (.inr 1, na, sF w2 2 1 0) else bindG (p_X8_settle na (sF w2 2 1 0)) fun _ n5 w6 => some (Sum.inl ((gF w6 100 4) - 1), n5, w6)) else some (.inr 1, na, sF w2 2 1 0) := fun c hc => by
    unfold p_X8_addPart p_X8_addPart_38 p_X8_addPart_72
    rw [a1, Option.bind_some, hc, Option.bind_some]
    dsimp only
    rw [g4, g7]
  rcases a4 with ⟨c, c0, c1, d1, d2, B, N, hAL⟩ | ⟨x6, d1, d2, hx6⟩
  · obtain ⟨hP, hp52, -, -, -, -, -, hq⟩ := hAL
    have hgd : p_X9_good m2 = some (b2 true, m2) := good_o hP.2.2.1
    obtain ⟨q, f1, f2⟩ := a223_o (x := x) (x5 := gA wM 51 10) (x6 := c) (s0 := b2 (decide (0 ≤ x ∧ x ≤ 2) && true)) n9 n10
    have f2' := f2 hp9.1 hp9.2 hw10.1 hw10.2 (by omega) c1
    rw [a183_o hgd, ← hm3, f1] at d2
    have hcl' := hcl c d1
    rw [if_neg (show ¬ eq32 c 0 = true by rw [eq32_o (by omega)]; omega)] at hcl'
    by_cases e1 : 0 ≤ x ∧ x ≤ 2
    · rw [if_neg (show ¬ lt32 x 0 = true by rw [lt32_o (by omega)]; omega), if_neg (show ¬ lt32 2 x = true by rw [lt32_o (by omega)]; omega)] at hcl'
      rw [decide_eq_true e1] at d2
      by_cases e2 : gA wM 51 9 < 10 ∧ gA wM 51 10 + c ≤ 60
      · rw [if_pos (show lt32 (gA wM 51 9) 10 = true by rw [lt32_o (by omega)]; omega), if_neg (show ¬ lt32 60 (gA wM 51 10 + c) = true by rw [lt32_o (by omega)]; omega)] at hcl'
        rw [f2', decide_eq_true e2] at d2
        obtain ⟨r1, r2, r3, r4⟩ := hq e2.1 e2.2
        have h9g : gA m2 52 9 = gA wM 51 9 := r4 9 (by decide) (by decide) (by omega)
        have he := h.er ((frm_sF (frm_refl wC) (Or.inr (Or.inl ⟨rfl, rfl⟩))) : frm SCe TCf wC (sF wC 2 1 0)) (frm_sF (frm_refl wM) ⟨rfl, by decide, by decide⟩ : frm SMe TMf wM (sF wM 50 18 0))
          ⟨rfl, ⟨Int.le_refl 0, show (0 : Int) ≤ 500 by decide⟩, fun j j0 j1 => absurd j1 (by show ¬ j < 0; omega)⟩ h.2.2.2.2.2.2.2.1
        have hfM : frm SMf TMf (sF wM 50 18 0) (sF m3 50 0 0) := by
          refine ⟨fun o l hl => ?_, fun o ho j => (fM 0).2.1 o ho j, fun o j => (fM 0).2.2 o j⟩
          rw [gF_sF, gF_sF]
          by_cases q18 : o = 50 ∧ l = 18
          · rw [if_pos q18, q18.1, q18.2, if_neg (by decide)]; exact e18
          · rw [if_neg q18, if_neg (by unfold SMf at hl; omega)]
            by_cases q24 : o = 50 ∧ l = 24
            · rw [q24.1, q24.2]; exact e24
            · by_cases q25 : o = 50 ∧ l = 25
              · rw [q25.1, q25.2]; exact e25
              · exact eX o l (by unfold SMf at hl; omega)
        have hfC : frm SCf TCf (sF wC 2 1 0) (sF w2 2 1 0) := by
          refine ⟨fun o l hl => ?_, fun o ho j => fW.2.1 o ho j, fun o j => fW.2.2 o j⟩
          rw [gF_sF, gF_sF]
          by_cases q0 : o = 2 ∧ l = 1
          · rw [if_pos q0, if_pos q0]
          · rw [if_neg q0, if_neg q0]; exact a2.1 o l (by unfold SCf at hl; unfold SPa; omega)
        obtain ⟨m4, b1, b2', b3⟩ := he.rem hfM
        have n52 : gA m4 52 = gA m2 52 := funext fun j => (b2'.2.1 52 (by decide) j).trans (eA 52 j)
        have h9' : gA m2 52 9 < 10 := by omega
        have h9'' : 0 ≤ gA m2 52 9 := by omega
        obtain ⟨m5, l1, l2, l3⟩ := addPartOf_o (m := sP m4 50 3 52) (f := gA m2 52) (kind := x) (W0 := gA wM 51 10) (by rw [gP_sP, if_pos ⟨rfl, rfl⟩]) (by rw [← n52]; rfl) ⟨h9'', h9'⟩
        rw [show gA m2 52 10 - gA wM 51 10 = c by omega] at l3
        have hVo : VB (opW (gA m2 52) x c) := by
          have := r3.close e1 (by omega)
          rw [show gA m2 52 10 - gA wM 51 10 = c by omega] at this
          exact this
        have hVB := VB_nrm hVo
        have hS' : RS (sF w2 2 1 0) 116 (nrm (opW (gA m2 52) x c)) := (RS_nrm hVo r1).fr (frm_sF (frm_refl w2) ⟨rfl, rfl⟩ : frm (fun o l => o = 2 ∧ l = 1) T0 w2 (sF w2 2 1 0)) (fun d l _ q => by omega) (fun d _ q => q)
        have hxi : ∀ j, 0 ≤ j → j < 9 → nrm (opW (gA m2 52) x c) j = gA wM 51 j := fun j j0 j1 => (nrm_i ⟨j0, by omega⟩).trans ((opW_n (by omega)).trans (r4 j j0 (by omega) (by omega)))
        have hVF : VF (k + 1) (nrm (opW (gA m2 52) x c)) := by
          obtain ⟨vB, v1, v3, v4, v5, v6, v7, v8⟩ := h.V
          have hl := add_ext hV e2.1 r4 hVB r2 (by omega)
          refine ⟨hVB, ?_, ?_, ?_, ?_, ?_, ?_, ?_⟩
          · rw [hxi 1 (by decide) (by decide)]; exact v1
          · rw [hxi 3 (by decide) (by decide)]; exact v3
          · rw [hxi 4 (by decide) (by decide)]; exact v4
          · rw [hxi 5 (by decide) (by decide), hxi 3 (by decide) (by decide)]; exact v5
          · rw [hxi 6 (by decide) (by decide)]; omega
          · rw [hxi 7 (by decide) (by decide)]; omega
          · rw [hxi 8 (by decide) (by decide)]; omega
        have e52' : gA (sP m5 50 3 51) 52 = opW (gA m2 52) x c := l3
        have p5 : ∀ o j, gP (sP m5 50 3 51) o j = gP m4 o j := fun o j => by
          rw [gP_sP]
          by_cases q : o = 50 ∧ j = 3
          · rw [if_pos q, q.1, q.2]; exact b3.1.symm
          · rw [if_neg q, l2.2.2, gP_sP, if_neg q]
        have A51 : ∀ j, gA (sP m5 50 3 51) 51 j = gA m4 51 j := fun j => l2.2.1 51 (by decide) j
        have e51 : gA (setR (sP m5 50 3 51) 51 (fun j => if 0 ≤ j ∧ j < 1099 then gA (sP m5 50 3 51) 52 j else gA (sP m5 50 3 51) 51 j)) 51 = nrm (opW (gA m2 52) x c) := funext fun j => by
          rw [gA_setR, if_pos rfl]
          unfold nrm
          by_cases q : 0 ≤ j ∧ j < 1099
          · rw [if_pos q, if_pos q, e52']
          · rw [if_neg q, if_neg q, A51, b3.2.1]; exact he.z j q
        have hfr : frm SMf TM5 m4 (setR (sP m5 50 3 51) 51 (fun j => if 0 ≤ j ∧ j < 1099 then gA (sP m5 50 3 51) 52 j else gA (sP m5 50 3 51) 51 j)) := by
          refine ⟨fun o l _ => l2.1 o l id, fun o ho j => ?_, fun o j => p5 o j⟩
          rw [gA_setR, if_neg (fun q => ho (Or.inr q))]
          exact l2.2.1 o (fun q => ho (Or.inl (by rw [q]; unfold TMf; omega))) j
        have hM4 := b3.up hfr e51
        obtain ⟨na', wC', s1, s2⟩ := he.settle hfC hS' hVF (nrm_Z _) hM4
        have hn9 : nrm (opW (gA m2 52) x c) 9 = gA wM 51 9 + 1 := (nrm_i (by decide)).trans (opW_9.trans (by rw [h9g]))
        have c4 : gF wC' 100 4 = gA wM 51 9 + 1 := s2.S.1.2.2.2.1.trans ((congrFun e51 9).trans hn9)
        have ht : gF (setR (sP m5 50 3 51) 51 (fun j => if 0 ≤ j ∧ j < 1099 then gA (sP m5 50 3 51) 52 j else gA (sP m5 50 3 51) 51 j)) 50 0 = 0 := by
          have t1 : gF m5 50 0 = gF m4 50 0 := l2.1 50 0 id
          have t2 : gF m4 50 0 = 0 := (b2'.1 50 0 (by decide)).trans (by rw [gF_sF, if_pos ⟨rfl, rfl⟩])
          exact t1.trans t2
        have hCH : CH (gA wM 51) (nrm (opW (gA m2 52) x c)) := by
          obtain ⟨vB, v1, v3, v4, v5, v6, v7, v8⟩ := h.V
          obtain ⟨q1, q2⟩ := add_keep hV e2.1 r4 hVB r2 (by omega)
          obtain ⟨k1, k2, k3⟩ := kt_rng hV v8
          exact ⟨by rw [hxi 8 (by decide) (by decide)]; exact Int.le_refl _, by omega, fun v v0 v1 => q2 v v0 (by omega)⟩
        have hin : gF wC' 2 1 = 0 := s2.2.2.2.2.2.1.1.trans (hM4.2.2.2.2.2.1.1.trans (by rw [gF_sF, if_pos ⟨rfl, rfl⟩]))
        refine ⟨(.inl (gF wC' 100 4 - 1), na', wC'), _, ?_, Or.inl ⟨_, rfl⟩, s2, ?_, hin⟩
        · rw [hcl', s1, bindG_l]
        · rw [e51]; exact hCH
      · have hz : p_X8_addPart x na wC = some (.inr 1, na, sF w2 2 1 0) := by
          rw [hcl']
          by_cases e3 : lt32 (gA wM 51 9) 10 = true
          · rw [if_pos e3]
            rw [lt32_o (by omega)] at e3
            rw [if_pos (show lt32 60 (gA wM 51 10 + c) = true by rw [lt32_o (by omega)]; omega)]
          · rw [if_neg e3]
        refine ⟨_, sF m3 50 0 2, hz, Or.inr rfl, hRR 2, ?_, by show gF (sF w2 2 1 0) 2 1 = 0; rw [gF_sF, if_pos ⟨rfl, rfl⟩]⟩
        rw [show gA (sF m3 50 0 2) 51 = gA wM 51 from funext fun j => (eA 51 j).trans (a3.2.1 51 (by decide) j)]
        exact h.ch
    · exact absurd hxk e1
  · obtain ⟨w9, hw9⟩ := htk
    rw [hw9] at d1
    have := congrArg Prod.fst (Option.some.inj d1)
    exact absurd this (by show ¬ ((ws.length : Nat) : Int) = 0; omega)

/-- the law's load -/
theorem ac2 (h : RR k na wC wM) {w1' : Wd} {wd hi gp pa wo sh ti fl gf cf : Int} (hread : p_X3_read 116 wC = some (1, w1')) (hDR : DRF w1' wd hi gp pa wo sh ti fl gf cf) :
    ∃ (na' : Nat) (wC' wM' : Wd), p_X8_load na wC = some (.inl (nLF (gA wM' 51)), na', wC') ∧ RR (k + 1) na' wC' wM' ∧ gF wC' 2 1 = 0 ∧ gF wC' 9 1 = 0 ∧
      (gA wM' 51 0 = wd ∧ gA wM' 51 1 = hi ∧ gA wM' 51 2 = gp ∧ gA wM' 51 9 = pa ∧ gA wM' 51 10 = wo ∧ gA wM' 51 8 = 0 ∧ gA wM' 51 3 = sh ∧ gA wM' 51 4 = ti ∧ gA wM' 51 5 = sh ∧ nfF (gA wM' 51) = fl) := by
  obtain ⟨r, w1, m1, a1, a2, a3, a4, a5⟩ := load_go h
  obtain ⟨r9, w9⟩ : b2 r = 1 ∧ w1 = w1' := by
    have := Option.some.inj (a1.symm.trans hread)
    exact ⟨congrArg Prod.fst this, congrArg Prod.snd this⟩
  subst w9
  have fW : frm SCe TCf wC (sF w1 2 1 0) := frm_sF (frm_mono a3 (fun o k q => by unfold SPc at q; unfold SCe SCf; omega) (fun o q => by unfold TPc at q; unfold TCf; omega)) (Or.inr (Or.inl ⟨rfl, rfl⟩))
  have p1 : gP m1 50 3 = 52 := (a4.2.2.1 50 3).trans (if_pos ⟨rfl, rfl⟩)
  have hM3 : ∀ v : Int, frm SMe TMf wM (sP (sA m1 52 5 v) 50 3 51) := fun v => by
    refine ⟨fun o k hk => a4.1 o k (by unfold SMe at hk; omega), fun o ho i => ?_, fun o i => ?_⟩
    · rw [gA_sP, gA_sA, if_neg (fun q => ho (by rw [q.1]; unfold TMf; omega))]
      exact a4.2.1 o (fun q => ho (by rw [q]; unfold TMf; omega)) i
    · rw [gP_sP]
      by_cases q : o = 50 ∧ i = 3
      · rw [if_pos q, q.1, q.2]; exact h.pp.symm
      · rw [if_neg q, gP_sA, a4.2.2.1, if_neg q]
  have hI : ∀ v : Int, INr (sF w1 2 1 0) (sP (sA m1 52 5 v) 50 3 51) := fun v => by
    have e : gF (sP (sA m1 52 5 v) 50 3 51) 50 18 = 0 := a4.2.2.2.2
    refine ⟨by rw [e]; rfl, by rw [e]; decide, fun i i0 i1 => ?_⟩
    rw [e] at i1
    exact absurd i1 (by omega)
  have h52 : p_X9_load wM = (p_X9_good (sP (sA m1 52 5 (gA m1 52 3)) 50 3 51)).bind fun z => if eq32 z.1 0 then some (-4, z.2) else (p_X9_remember z.2).bind fun w6 => (p_X9_takeDraft w6).bind fun w7 => (p_X9_lay w7).bind fun z2 => some (z2.1, z2.2) := by
    rw [a2]
    unfold p_X9_load_52
    rw [if_neg (show ¬ (inb 3 1099 = false) by decide), if_neg (show ¬ (inb 5 1099 = false) by decide), p1, Option.bind_some]
  rcases a5 with ⟨rfl, B, N, f, hG⟩ | ⟨rfl, hB⟩
  · obtain ⟨hP, ⟨-, e52⟩, hS, hVD, hF⟩ := hG
    have e3 : gA m1 52 3 = f 3 := congrFun e52 3
    rw [e3] at h52
    have he := h.er ((frm_sF (frm_sF (frm_sF (frm_refl wC) (Or.inr (Or.inl ⟨rfl, rfl⟩))) (Or.inr (Or.inr rfl))) (Or.inr (Or.inr rfl)) : frm SCe TCf wC (sF (sF (sF wC 2 1 0) 9 1 0) 9 2 (-1))))
      (frm_sF (frm_sF (frm_sF (frm_refl wM) ⟨rfl, by decide, by decide⟩) ⟨rfl, by decide, by decide⟩) ⟨rfl, by decide, by decide⟩ : frm SMe TMf wM (sF (sF (sF wM 50 18 0) 50 24 0) 50 25 (-1)))
      ⟨rfl, ⟨Int.le_refl 0, show (0 : Int) ≤ 500 by decide⟩, fun i i0 i1 => absurd i1 (by show ¬ i < 0; omega)⟩ ⟨rfl, rfl⟩
    have g24 : gF m1 50 24 = 0 := hP.2.2.1
    have hfM : frm SMf TMf (sF (sF (sF wM 50 18 0) 50 24 0) 50 25 (-1)) (sP (sA m1 52 5 (f 3)) 50 3 51) := by
      refine ⟨fun o k hk => ?_, fun o ho i => (hM3 (f 3)).2.1 o ho i, fun o i => (hM3 (f 3)).2.2 o i⟩
      simp only [gF_sF, gF_sP, gF_sA]
      by_cases q25 : o = 50 ∧ k = 25
      · rw [if_pos q25, q25.1, q25.2]; exact hF.1.2.2
      · rw [if_neg q25]
        by_cases q24 : o = 50 ∧ k = 24
        · rw [if_pos q24, q24.1, q24.2]; exact g24
        · rw [if_neg q24]
          by_cases q18 : o = 50 ∧ k = 18
          · rw [if_pos q18, q18.1, q18.2]; exact a4.2.2.2.2
          · rw [if_neg q18]; exact a4.1 o k (by unfold SMf at hk; omega)
    have hfC : frm SCf TCf (sF (sF (sF wC 2 1 0) 9 1 0) 9 2 (-1)) (sF w1 2 1 0) := by
      refine ⟨fun o k hk => ?_, fun o ho i => fW.2.1 o ho i, fun o i => fW.2.2 o i⟩
      simp only [gF_sF]
      by_cases q2 : o = 9 ∧ k = 2
      · rw [if_pos q2, q2.1, q2.2, if_neg (by decide)]; exact hF.1.2.1
      · rw [if_neg q2]
        by_cases q1 : o = 9 ∧ k = 1
        · rw [if_pos q1, q1.1, q1.2, if_neg (by decide)]; exact hF.1.1
        · rw [if_neg q1]
          by_cases q0 : o = 2 ∧ k = 1
          · rw [if_pos q0, if_pos q0]
          · rw [if_neg q0, if_neg q0]
            exact a3.1 o k (by unfold SCf at hk; unfold SPc; omega)
    obtain ⟨m4, b1, b2', b3⟩ := he.rem hfM
    have hS' : RS (sF w1 2 1 0) 116 (nrm (fx f)) := (RS_nrm (fx_SAM.VB hVD.1) hS).fr (frm_sF (frm_refl w1) ⟨rfl, rfl⟩ : frm (fun o k => o = 2 ∧ k = 1) T0 w1 (sF w1 2 1 0)) (fun d k _ q => by omega) (fun d _ q => q)
    have hVB : VB (nrm (fx f)) := VB_nrm (fx_SAM.VB hVD.1)
    have hVF : VF (k + 1) (nrm (fx f)) := by
      obtain ⟨v1, v2, v3, v4, ⟨v6, v7, v8⟩, v9⟩ := hVD
      have hx5 : nrm (fx f) 5 = f 3 := (nrm_i (by decide)).trans (upd1_s _ _ _)
      have hxi : ∀ j, 0 ≤ j → j < 1099 → j ≠ 5 → nrm (fx f) j = f j := fun j j0 j1 j2 => (nrm_i ⟨j0, j1⟩).trans (fx_n j2)
      have hn := nL_rng hVB
      have hla := laF_rng hVB (p := nLF (nrm (fx f))) (by omega) (by omega)
      refine ⟨hVB, ?_, ?_, ?_, ?_, ?_, ?_, ?_⟩
      · rw [hxi 1 (by decide) (by decide) (by decide)]; exact v2
      · rw [hxi 3 (by decide) (by decide) (by decide)]; exact v3
      · rw [hxi 4 (by decide) (by decide) (by decide)]; exact v4
      · rw [hx5, hxi 3 (by decide) (by decide) (by decide)]; omega
      · rw [hxi 6 (by decide) (by decide) (by decide), v6]; omega
      · rw [hxi 7 (by decide) (by decide) (by decide), v7]; omega
      · rw [hxi 8 (by decide) (by decide) (by decide), v8]; omega
    have e52' : gA m4 52 = upd1 f 5 (f 3) := by
      rw [show gA m4 52 = gA (sA m1 52 5 (f 3)) 52 from funext fun j => b2'.2.1 52 (by decide) j, gA_upd, e52]
    have e51 : gA (setR m4 51 (fun j => if 0 ≤ j ∧ j < 1099 then gA m4 52 j else gA m4 51 j)) 51 = nrm (fx f) := funext fun j => by
      rw [gA_setR, if_pos rfl]
      unfold nrm fx
      by_cases q : 0 ≤ j ∧ j < 1099
      · rw [if_pos q, if_pos q, e52']
      · rw [if_neg q, if_neg q, b3.2.1]; exact he.z j q
    have hM4 := b3.up (w' := setR m4 51 (fun j => if 0 ≤ j ∧ j < 1099 then gA m4 52 j else gA m4 51 j)) (frm_setR (frm_refl m4) (Or.inr rfl)) e51
    have hp4 : gP (setR m4 51 (fun j => if 0 ≤ j ∧ j < 1099 then gA m4 52 j else gA m4 51 j)) 50 3 = 51 := hM4.1
    obtain ⟨m6, d1, d2, d3⟩ := lay9 hVB (w := setR m4 51 (fun j => if 0 ≤ j ∧ j < 1099 then gA m4 52 j else gA m4 51 j)) (by unfold cR; rw [hp4]; exact e51) hp4
    have hM6 := hM4.up (frm_5 (frm_L9 d1)) ((funext fun j => d1.2.1 51 (by unfold TL9; omega) j).trans e51)
    obtain ⟨na', wC', s1, s2⟩ := he.settle hfC hS' hVF (nrm_Z _) hM6
    have f51 : gA m6 51 = nrm (fx f) := hM6.2.1
    obtain ⟨⟨c0, c1, c2, c4, c7⟩, ⟨d0, d1⟩, ⟨e4, e5, e6⟩⟩ := hDR
    obtain ⟨⟨g0, g1, g2, g4, g7, g11⟩, ⟨k0, k1, k2, k3, k4⟩, _⟩ := hS
    have hi : ∀ i, 0 ≤ i → i < 1099 → nrm (fx f) i = fx f i := fun i i0 i1 => nrm_i ⟨i0, i1⟩
    refine ⟨na', wC', m6, ?_, s2, s2.2.2.2.2.2.1.1.trans (hM6.2.2.2.2.2.1.1.trans ?_), s2.2.2.2.2.2.2.2.1.1.trans (hM6.2.2.2.2.2.1.2.1.trans ?_), ?_⟩
    · unfold p_X8_load
      rw [a1, Option.bind_some]
      dsimp only
      rw [if_neg (show ¬ eq32 (b2 true) 0 = true by decide +kernel), s1, bindG_l, show gF wC' 10 4 = nLF (gA m6 51) from s2.L.1.1]
    · rw [gF_sF, if_neg (by decide), gF_sF, if_neg (by decide), gF_sF, if_pos ⟨rfl, rfl⟩]
    · rw [gF_sF, if_neg (by decide), gF_sF, if_pos ⟨rfl, rfl⟩]
    · rw [f51]
      have e35 : fx f 3 = f 3 := fx_n (by decide)
      have e55 : fx f 5 = f 3 := upd1_s _ _ _
      refine ⟨(hi 0 (by decide) (by decide)).trans (g0.symm.trans c0), (hi 1 (by decide) (by decide)).trans (g1.symm.trans c1), (hi 2 (by decide) (by decide)).trans (g2.symm.trans c2), (hi 9 (by decide) (by decide)).trans (g4.symm.trans c4), (hi 10 (by decide) (by decide)).trans (g7.symm.trans c7), ?_, (hi 3 (by decide) (by decide)).trans (k0.symm.trans d0), (hi 4 (by decide) (by decide)).trans (k1.symm.trans d1), ?_, ?_⟩
      · rw [hi 8 (by decide) (by decide), fx_n (by decide)]; exact hVD.2.2.2.2.1.2.2
      · rw [hi 5 (by decide) (by decide), e55, ← e35]; exact k0.symm.trans d0
      · rw [← e4, hF.2.1.2.2]
        unfold nfF
        exact sm_congr _ fun i i0 i1 => (hi (11 + i) (by omega) (by omega)).trans (fx_n (by omega))
  · exact absurd r9 (by decide)
end NP
