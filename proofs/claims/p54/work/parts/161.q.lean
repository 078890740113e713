/-! ===== load: its ends ===== -/
def asc (t : List Int) : Prop := ∀ c ∈ t, 0 ≤ c ∧ c < 128
theorem asc.app {t s : List Int} (h : asc t) (h2 : asc s) : asc (t ++ s) := fun c hc => (List.mem_append.mp hc).elim (h c) (h2 c)
theorem asc.nil : asc [] := fun c hc => absurd hc List.not_mem_nil
theorem asc.at {t : List Int} (h : asc t) : ∀ j, j < t.length → 0 ≤ t.getD j 0 ∧ t.getD j 0 < 128 := by
  intro j hj
  rw [List.getD_eq_getElem?_getD, List.getElem?_eq_getElem hj]
  exact h _ (List.getElem_mem hj)
theorem asc_ctx : ∀ i, i < 14 → asc (ctx i) := by
  intro i hi c hc
  exact (by decide +kernel : ∀ i, i < 14 → ∀ c ∈ ctx i, 0 ≤ c ∧ c < 128) i hi c hc
theorem asc_digs {v : Int} (h : 0 ≤ v ∧ v < 100) : asc (digs v) := by
  unfold digs
  split <;> intro c hc
  · rcases List.mem_singleton.mp hc with rfl; omega
  · rcases List.mem_cons.mp hc with rfl | hc
    · omega
    · rcases List.mem_singleton.mp hc with rfl; omega
theorem asc_wordF (n wide : Int) : asc (wordF n wide) := by
  intro c hc
  unfold wordF at hc
  rcases List.mem_cons.mp hc with rfl | hc
  · omega
  · unfold wlist at hc
    obtain ⟨j, _, rfl⟩ := List.mem_map.mp hc
    have := wordL_rng n j
    omega
theorem asc_wrdT (xs : Nat → Int32) (L : Nat) (wide p : Int) : ∀ i, asc (wrdT xs L wide p i)
  | 0 => asc.nil
  | i + 1 => (asc_wrdT xs L wide p i).app (asc_wordF _ _)
theorem kndI_14 (k : Int) : kndI k < 14 := (kndI_le k).2.1
theorem asc_prtT (xs : Nat → Int32) (L : Nat) (wide : Int) : ∀ p, asc (prtT xs L wide p)
  | 0 => asc.nil
  | p + 1 => (asc_prtT xs L wide p).app (((asc_ctx _ (kndI_14 _)).app (asc_wrdT _ _ _ _ _)).app (asc_ctx 1 (by decide)))
theorem asc_flwC {wide cell : Int} (hw : 4 ≤ wide ∧ wide ≤ 24) (hc : 0 ≤ cell ∧ cell < 288) : asc (flwC wide cell) :=
  ((((asc_ctx 11 (by decide)).app (asc_digs (mdR hw))).app (asc_ctx 10 (by decide))).app (asc_digs (dvR hc (Int.le_refl _) hw))).app (asc_ctx 1 (by decide))
theorem rgw {a n : Int} (h : 0 ≤ a ∧ a < n) (hn : n ≤ 288) : 0 ≤ a ∧ a < 288 := by omega
theorem asc_flwT (xs : Nat → Int32) (L : Nat) {wide wh : Int} (hw : 4 ≤ wide ∧ wide ≤ 24) (hwh : 8 ≤ wh ∧ wh ≤ 288) : ∀ k, asc (flwT xs L wide wh k) := by
  intro k
  induction k with
  | zero => exact asc.nil
  | succ k ih =>
    unfold flwT
    split
    · exact ih
    · exact ih.app (asc_flwC hw (rgw (drw_rng (by omega)) hwh.2))
theorem wide_rng {xs : Nat → Int32} {L : Nat} : 4 ≤ wideF xs L ∧ wideF xs L ≤ 24 := by
  have h : ∀ a : Int, 0 ≤ a ∧ a < 21 → 4 ≤ 4 + a ∧ 4 + a ≤ 24 := fun a ha => by omega
  exact h _ (drw_rng (by decide))
theorem high_rng {xs : Nat → Int32} {L : Nat} : 2 ≤ highF xs L ∧ highF xs L ≤ 12 := by
  have h : ∀ a : Int, 0 ≤ a ∧ a < 11 → 2 ≤ 2 + a ∧ 2 + a ≤ 12 := fun a ha => by omega
  exact h _ (drw_rng (by decide))
theorem whF_rng {xs : Nat → Int32} {L : Nat} : 8 ≤ wideF xs L * highF xs L ∧ wideF xs L * highF xs L ≤ 288 := wh_rng (drw_rng (by decide)) (drw_rng (by decide))
theorem r100 {a : Int} {l u : Int} (h : l ≤ a ∧ a ≤ u) (hl : 0 ≤ l) (hu : u < 100) : 0 ≤ a ∧ a < 100 := by omega
theorem d100 {a n : Int} (h : 0 ≤ a ∧ a < n) (hn : n ≤ 100) : 0 ≤ a ∧ a < 100 := by omega
theorem e100 {a n : Int} (h : 0 ≤ a ∧ a < n) (hn : n ≤ 99) : 0 ≤ 1 + a ∧ 1 + a < 100 := by omega
theorem asc_hdT {wide high : Int} (h1 : 0 ≤ wide ∧ wide < 100) (h2 : 0 ≤ high ∧ high < 100) : asc (hdT wide high) :=
  ((((asc_ctx 9 (by decide)).app (asc_digs h1)).app (asc_ctx 10 (by decide))).app (asc_digs h2)).app (asc_ctx 1 (by decide))
theorem asc_gapT (xs : Nat → Int32) (L : Nat) : asc (gapT xs L) := by
  unfold gapT
  split
  · exact ((asc_ctx 12 (by decide)).app (asc_digs (d100 (drw_rng (by decide)) (by decide)))).app (asc_ctx 1 (by decide))
  · exact asc.nil
theorem asc_chiT (xs : Nat → Int32) (L : Nat) : asc (chiT xs L) := by
  unfold chiT
  split
  · exact ((((asc_ctx 13 (by decide)).app (asc_digs (e100 (drw_rng (by decide)) (by decide)))).app (asc_ctx 10 (by decide))).app (asc_digs (d100 (drw_rng (by decide)) (by decide)))).app (asc_ctx 1 (by decide))
  · exact asc.nil
theorem asc_loadT (xs : Nat → Int32) (L : Nat) : asc (loadT xs L) :=
  ((((asc_hdT (r100 wide_rng (by decide) (by decide)) (r100 high_rng (by decide) (by decide))).app (asc_flwT xs L wide_rng whF_rng _)).app (asc_gapT xs L)).app (asc_chiT xs L)).app (asc_prtT xs L _ _)
theorem hdT_le (wide high : Int) : (hdT wide high).length ≤ 11 := app_le (a := 10) (b := 1) (app_le (a := 8) (b := 2) (app_le (a := 7) (b := 1) (app_le (a := 5) (b := 2) ctx_le.1 (digs_le _)) ctx_le.2.1) (digs_le _)) ctx_le.2.2.1
theorem gapT_le (xs : Nat → Int32) (L : Nat) : (gapT xs L).length ≤ 7 := by
  unfold gapT
  split
  · exact app_le (a := 6) (b := 1) (app_le (a := 4) (b := 2) ctx_le.2.2.2.2.1 (digs_le _)) ctx_le.2.2.1
  · exact Nat.zero_le _
theorem chiT_le (xs : Nat → Int32) (L : Nat) : (chiT xs L).length ≤ 13 := by
  unfold chiT
  split
  · exact app_le (a := 12) (b := 1) (app_le (a := 10) (b := 2) (app_le (a := 9) (b := 1) (app_le (a := 7) (b := 2) ctx_le.2.2.2.2.2.1 (digs_le _)) ctx_le.2.1) (digs_le _)) ctx_le.2.2.1
  · exact Nat.zero_le _
theorem itsN_le (xs : Nat → Int32) (L : Nat) (p : Int) : (itsN xs L p).toNat ≤ 5 := by
  have h : ∀ a : Int, 0 ≤ a ∧ a < 5 → (1 + a).toNat ≤ 5 := fun a ha => by omega
  exact h _ (drw_rng (by decide))
theorem prtT_le (xs : Nat → Int32) (L : Nat) {wide : Int} (hw : 1 ≤ wide) : ∀ k, (prtT xs L wide k).length ≤ 46 * k := by
  intro k
  induction k with
  | zero => exact Nat.le_refl _
  | succ k ih =>
    unfold prtT
    have h5 := itsN_le xs L (k : Nat)
    exact Nat.le_trans (app_le ih (app_le (b := 1) (app_le (a := 5) (b := 40) (kndI_le _).1 (Nat.le_trans (wrdT_le xs L hw _) (by omega))) ctx_le.2.2.1)) (by omega)
theorem nat_le {a : Int} {n : Nat} (h : 0 ≤ a ∧ a < (n : Int)) : a.toNat ≤ n - 1 ∧ ((a.toNat : Nat) : Int) = a := by omega
theorem preP_le (xs : Nat → Int32) (L : Nat) : (hdT (wideF xs L) (highF xs L) ++ flwT xs L (wideF xs L) (wideF xs L * highF xs L) (drw xs L 2 9).toNat ++ gapT xs L ++ chiT xs L).length ≤ 119 := by
  have h8 := (nat_le (n := 9) (drw_rng (xs := xs) (L := L) (k := 2) (n := 9) (by decide))).1
  exact app_le (a := 106) (b := 13) (app_le (a := 99) (b := 7) (app_le (a := 11) (b := 88) (hdT_le _ _) (Nat.le_trans (flwT_le _ _ _ _ _) (by omega))) (gapT_le _ _)) (chiT_le _ _)
theorem loadT_le (xs : Nat → Int32) (L : Nat) : (loadT xs L).length ≤ 257 := by
  have h8 := (nat_le (n := 4) (drw_rng (xs := xs) (L := L) (k := 17) (n := 4) (by decide))).1
  have hw := wide_rng (xs := xs) (L := L)
  exact app_le (a := 119) (b := 138) (preP_le xs L) (Nat.le_trans (prtT_le _ _ (by omega) _) (by omega))
theorem eq_self (a : Int) : eq32 a a = true := by unfold eq32; exact decide_eq_true rfl
theorem ne_lt (a : Int) (h : 0 ≤ a ∧ a < 2147483648) : ¬ lt32 a 0 = true := fun e => by have := (ltq (by omega)).mp e; omega
section PR
variable {g : Cx} {d : Dl} {cc : ByteArray} {nL : Nat} {ret : Option FieldType} {es : va_W} {lv : List (Nat × Value)} {st : List Value} {pc : Nat}
/-- a question of the law's with a known answer -/
theorem q_pr (C : CX g cc nL ret RL) {rmO : Room} (hA : ∀ q : Nat, g.s.heap.size ≤ q → g.A q) (hR : g.R = rmO) {w : Wd} {k v : Int} (hlk : Cond.methodLink RL 94 yX8_property ∈ lw_tg) (hrr : 7 ≤ rmO.frames ∧ 110 ≤ rmO.locals) (hro : (st.map fun v => v.category).sum ≤ 8) (hce : d.ce ≤ rmO.cells ∧ d.so ≤ rmO.slots) (dg : decode cc pc = .ok (.invokevirtual 94, 3)) (hk : p_Y8_property k w = some (v, w))
    (k' : XG g d (hY g d w es) lv (iV v :: st) (pc + 3)) : XG g d (hY g d w es) lv (iV k :: .ref (d.ad 1) :: st) pc :=
  q_cI (K := 9) (o := 1) (d := d) (rm := rmv 6 89 0 0) (As := [iV k]) (rest := st) (pv := p_Y8_property k w) (Kt := some) (res := (v, w)) C hA hR mf_X8_property hlk rfl ⟨rfl, rfl⟩ (by decide) ⟨rfl, rfl⟩ ⟨hrr.1, hrr.2⟩ rfl rfl hro hce dg (by rw [hk]; rfl) (fun _ _ h => c_Y8_property g.l g.G rfl h) (fun r w1 _ e => by cases e; exact k')
/-- a feed of the law's -/
theorem q_feed (C : CX g cc nL ret RL) {rmO : Room} (hA : ∀ q : Nat, g.s.heap.size ≤ q → g.A q) (hR : g.R = rmO) {na : Nat} {ad : Nat → Nat} {ce so : Nat} {w w1 : Wd} {hs : Nat} {t : List Int} {X : va_W} (hlk : Cond.methodLink RL 84 yL_feed ∈ lw_tg) (hmf : mfS yL_feed cL_feed 4 none 2) (hrr : 8 ≤ rmO.frames ∧ 273 ≤ rmO.locals) (hro : (st.map fun v => v.category).sum ≤ 8) (hce : ce ≤ rmO.cells ∧ so ≤ rmO.slots) (dg : decode cc pc = .ok (.invokestatic 84, 3)) (hT : TXs g.G hs t X es) (ht : t.length ≤ 400) (h7 : asc t) {n : Nat} (hf : fedF t n 0 0 w = some w1)
    (k' : XG g (na, ad, ce, so) (hY g (na, ad, ce, so) w1 X) lv st (pc + 3)) : XG g (na, ad, ce, so) (hY g (na, ad, ce, so) w es) lv (.ref hs :: .ref (ad 1) :: st) pc := by
  obtain ⟨hv, a, rfl, hc, hfb⟩ := hT
  refine XG.ok (fun hok => ?_)
  refine x_tV C hA hY.sub2 (hp' := fun _ => hY g (na, ad, ce, so) w1 (stc hs hv :: bya g.G hv t.length a :: X)) (t_S (rm := rmv 7 250 0 0) (As := [.ref (ad 1), .ref hs]) (rest := st) C hA hR hY.sub2 (cL_feed_ g.l g.G hok (k0 := 0) (k1 := 1) rfl rfl ht hc h7.at hf) hmf hlk ⟨rfl, rfl⟩ ⟨hrr.1, hrr.2⟩ rfl rfl hro hce dg) (fun ws' hp => hY.back2 hp.1 hp.2) (fun ws' _ => ?_)
  exact y_sub ⟨[stc hs hv, bya g.G hv t.length a], List.perm_append_comm⟩ k'
end PR
theorem tm_J4_toString_0e30d : mfV yJ4_toString_0e30d cJ4_toString_0e30d 1 (some (.object "java/lang/String")) 0 := ⟨in_tg 703 (by decide +kernel) rfl, in_tg 704 (by decide +kernel) rfl, in_tg 44 (by decide +kernel) rfl, in_tg 705 (by decide +kernel) rfl, by decide +kernel, by decide +kernel, by decide +kernel⟩
theorem tl_SlabCutterLaw_80 : Cond.methodLink "SlabCutterLaw" 80 yJ4_toString_0e30d ∈ lw_tg := in_tg 702 (by decide +kernel) rfl
theorem tl_SlabCutterLaw_84 : Cond.methodLink "SlabCutterLaw" 84 yL_feed ∈ lw_tg := in_tg 762 (by decide +kernel) rfl
theorem tm_L_feed : mfS yL_feed cL_feed 4 none 2 := ⟨in_tg 763 (by decide +kernel) rfl, in_tg 33 (by decide +kernel) rfl, in_tg 764 (by decide +kernel) rfl, by decide +kernel, by decide +kernel, by decide +kernel⟩
theorem tm_X8_load : mfV yX8_load cX8_load 2 (some .int) 0 := ⟨in_tg 820 (by decide +kernel) rfl, in_tg 821 (by decide +kernel) rfl, in_tg 34 (by decide +kernel) rfl, in_tg 822 (by decide +kernel) rfl, by decide +kernel, by decide +kernel, by decide +kernel⟩
theorem tl_SlabCutterLaw_88 : Cond.methodLink "SlabCutterLaw" 88 yX8_load ∈ lw_tg := in_tg 819 (by decide +kernel) rfl
theorem tm_X8_errorCode : mfV yX8_errorCode cX8_errorCode 1 (some .int) 0 := ⟨in_tg 1015 (by decide +kernel) rfl, in_tg 1016 (by decide +kernel) rfl, in_tg 34 (by decide +kernel) rfl, in_tg 1017 (by decide +kernel) rfl, by decide +kernel, by decide +kernel, by decide +kernel⟩
theorem tl_SlabCutterLaw_91 : Cond.methodLink "SlabCutterLaw" 91 yX8_errorCode ∈ lw_tg := in_tg 1014 (by decide +kernel) rfl
theorem tl_SlabCutterLaw_94 : Cond.methodLink "SlabCutterLaw" 94 yX8_property ∈ lw_tg := in_tg 340 (by decide +kernel) rfl
theorem tcl_SlabCutterLaw_43 : Cond.classLink "SlabCutterLaw" 43 "java/lang/StringBuilder" ∈ lw_tg := in_tg 487 (by decide +kernel) rfl
theorem tm_J4_init_a7421 : mfI yJ4_init_a7421 cJ4_init_a7421 2 1 := ⟨in_tg 491 (by decide +kernel) rfl, in_tg 44 (by decide +kernel) rfl, in_tg 492 (by decide +kernel) rfl, by decide +kernel, by decide +kernel, by decide +kernel, rfl⟩
theorem tl_SlabCutterLaw_56 : Cond.methodLink "SlabCutterLaw" 56 yJ4_init_a7421 ∈ lw_tg := in_tg 490 (by decide +kernel) rfl
def gapV (xs : Nat → Int32) (L : Nat) : Int := if drw xs L 13 2 = 0 then drw xs L 12 4 else 0
def sharpV (xs : Nat → Int32) (L : Nat) : Int := if drw xs L 16 2 = 0 then 1 + drw xs L 14 40 else 100
def timeV (xs : Nat → Int32) (L : Nat) : Int := if drw xs L 16 2 = 0 then drw xs L 15 100 else 10
/-- what the class must answer to the law's load -/
def LDok (xs : Nat → Int32) (L : Nat) (na : Nat) (w : Wd) (na2 : Nat) (w2 : Wd) (laid : Int) : Prop :=
  p_X8_load na w = some (.inl laid, na2, w2) ∧ (0 ≤ laid ∧ laid < 2147483648) ∧ p_X8_errorCode w2 = some (0, w2) ∧ p_Y8_property 0 w2 = some (wideF xs L, w2) ∧ p_Y8_property 1 w2 = some (highF xs L, w2) ∧ p_Y8_property 2 w2 = some (flwN xs L (wideF xs L * highF xs L) (drw xs L 2 9).toNat, w2) ∧ p_Y8_property 3 w2 = some (gapV xs L, w2)
  ∧ p_Y8_property 4 w2 = some ((((drw xs L 17 4).toNat : Nat) : Int), w2) ∧ p_Y8_property 5 w2 = some (prtN xs L (drw xs L 17 4).toNat, w2) ∧ p_Y8_property 6 w2 = some (laid, w2) ∧ p_Y8_property 8 w2 = some (0, w2) ∧ p_Y8_property 9 w2 = some (sharpV xs L, w2) ∧ p_Y8_property 10 w2 = some (sharpV xs L, w2) ∧ p_Y8_property 11 w2 = some (timeV xs L, w2)

theorem L_ltail {g : Cx} (C : CX g cL_load 16 (some .boolean) RL) {na : Nat} {ad : Nat → Nat} {b L : Nat} {xs : Nat → Int32} (hS : SX g na ad b L xs (rmv 12 420 250 200000)) {w : Wd} (hfl : g.l.stackTraces = false) {hb na2 n : Nat} {w1 w2 : Wd} {laid : Int} (hR : rtX g na ad cL_load .boolean 250 200000 (1, na2, w2)) (hfd : fedF (loadT xs L) n 0 0 w = some w1) (hld : LDok xs L na w1 na2 w2 laid)
    (es : va_W) (c1 s1 : Nat) (hT : TXb g.G hb (loadT xs L) [] es) (hd : c1 ≤ 200 ∧ s1 ≤ 160000) : XG g (na, ad, c1, s1) (hY g (na, ad, c1, s1) w es) [(0, .ref (ad 1)), (1, .ref b), (2, iV (wideF xs L)), (3, iV (highF xs L)), (4, .ref hb), (6, iV (flwN xs L (wideF xs L * highF xs L) (drw xs L 2 9).toNat)), (7, iV (drw xs L 12 4)), (8, iV (1 + drw xs L 14 40)), (9, iV (drw xs L 15 100)), (10, iV (((drw xs L 17 4).toNat : Nat) : Int)), (11, iV (prtN xs L (drw xs L 17 4).toNat))] [] 412 := by
  obtain ⟨hA, hR0, hX, hbs, hbA, hL9⟩ := hS
  obtain ⟨h1, hld, he, p0, p1, p2, p3, p4, p5, p6, p8, p9, p10, p11⟩ := hld
  have hTl : (loadT xs L).length ≤ 400 := Nat.le_trans (loadT_le xs L) (by decide)
  have hTa := asc_loadT xs L
  obtain ⟨ha, m, a, rfl, b1, b2, b3, b4⟩ := hT
  have hd13 := drw_rng (xs := xs) (L := L) (k := 13) (n := 2) (by decide)
  have hd16 := drw_rng (xs := xs) (L := L) (k := 16) (n := 2) (by decide)
  refine x_aload_n C 0 dL_load_412 rfl ?_
  refine x_aload C 4 dL_load_413 rfl ?_
  refine y_tR C hA (t_V (rm := rmv 5 191 2 804) (As := []) (rest := [.ref (ad 1)]) C hA hR0 hY.sub (rcYb C) (ct_toString g.l g.G b3 b4 ⟨b1, b2⟩) tm_J4_toString_0e30d tl_SlabCutterLaw_80 ⟨rfl, rfl⟩ ⟨Nat.le_of_ble_eq_true rfl, Nat.le_of_ble_eq_true rfl⟩ rfl rfl (Nat.le_of_ble_eq_true rfl) ⟨(by omega : c1 + 2 ≤ 250), (by omega : s1 + 804 ≤ 200000)⟩ dL_load_415) (fun r ws' c2 s2 hp e1 e2 => ?_)
  refine q_feed C hA hR0 tl_SlabCutterLaw_84 tm_L_feed ⟨Nat.le_of_ble_eq_true rfl, Nat.le_of_ble_eq_true rfl⟩ (Nat.le_of_ble_eq_true rfl) ⟨(by omega : c2 ≤ 250), (by omega : s2 ≤ 200000)⟩ dL_load_418 hp hTl hTa hfd ?_
  refine x_aload_n C 0 dL_load_421 rfl ?_
  refine q_cG (K := 9) (o := 1) (d := (na, ad, c2, s2)) (rm := rmv 9 210 12 834) (As := []) (rest := []) C hA hR0 tm_X8_load tl_SlabCutterLaw_88 rfl ⟨rfl, rfl⟩ (by decide) ⟨rfl, rfl⟩ ⟨Nat.le_of_ble_eq_true rfl, Nat.le_of_ble_eq_true rfl⟩ rfl rfl (Nat.le_of_ble_eq_true rfl) ⟨by show c2 + 12 ≤ 250; omega, by show s2 + 834 ≤ 200000; omega⟩ dL_load_422 (c_X8_load g.l g.G hfl rfl h1) (fun d1 hag hn hc hs => ?_)
  obtain ⟨na3, ad2, c3, s3⟩ := d1
  replace hn : na3 = na2 := hn
  replace hc : c3 = c2 + 12 := hc
  replace hs : s3 = s2 + 834 := hs
  subst hn
  rw [show ad 1 = ad2 1 from (hag.2 1 (fun h => nomatch h)).symm]
  refine XG.sub [0, 1, 2, 3, 5, 6, 7, 8, 9, 10] rfl ?_
  refine x_istore (lv' := [(12, iV laid), (0, .ref (ad2 1)), (1, .ref b), (2, iV (wideF xs L)), (3, iV (highF xs L)), (6, iV (flwN xs L (wideF xs L * highF xs L) (drw xs L 2 9).toNat)), (7, iV (drw xs L 12 4)), (8, iV (1 + drw xs L 14 40)), (9, iV (drw xs L 15 100)), (10, iV (((drw xs L 17 4).toNat : Nat) : Int)), (11, iV (prtN xs L (drw xs L 17 4).toNat))]) C dL_load_425 (by decide) rfl ?_
  refine x_iload C 0 dL_load_427 rfl ?_
  refine x_if_lt (tgt := 491) (P1 := none) (P2 := some ()) (z := ()) C dL_load_429 (by decide) (if_neg (ne_lt _ hld)) (fun h => nomatch h) (fun _ => ?_)
  refine x_aload_n C 1 dL_load_432 rfl ?_
  refine q_cI (K := 9) (o := 1) (d := (na3, ad2, c3, s3)) (rm := rmv 0 0 0 0) (As := []) (rest := []) (pv := p_X8_errorCode w2) (Kt := some) (res := (0, w2)) C hA hR0 tm_X8_errorCode tl_SlabCutterLaw_91 rfl ⟨rfl, rfl⟩ (by decide) ⟨rfl, rfl⟩ ⟨Nat.le_of_ble_eq_true rfl, Nat.le_of_ble_eq_true rfl⟩ rfl rfl (Nat.le_of_ble_eq_true rfl) ⟨(by omega : c3 ≤ 250), (by omega : s3 ≤ 200000)⟩ dL_load_433 (by rw [he]; rfl) (fun _ _ h => c_X8_errorCode g.l g.G rfl h) (fun r9 w9 _ e9 => ?_)
  cases e9
  refine x_if_ne (tgt := 491) (P1 := some ()) (P2 := none) (z := ()) C dL_load_436 (by decide) (if_pos (eq_self _)) (fun h => nomatch h) (fun _ => ?_)
  refine x_aload_n C 1 dL_load_439 rfl ?_
  refine x_iconst C dL_load_440 ?_
  refine q_pr C hA hR0 tl_SlabCutterLaw_94 ⟨Nat.le_of_ble_eq_true rfl, Nat.le_of_ble_eq_true rfl⟩ (Nat.le_of_ble_eq_true rfl) ⟨(by omega : c3 ≤ 250), (by omega : s3 ≤ 200000)⟩ dL_load_441 p0 ?_
  refine x_iload_n C 3 dL_load_444 rfl ?_
  refine x_icmp_ne (tgt := 491) (P1 := some ()) (P2 := none) (z := ()) C dL_load_445 (by decide) (if_pos (eq_self _)) (fun h => nomatch h) (fun _ => ?_)
  refine x_aload_n C 1 dL_load_448 rfl ?_
  refine x_iconst C dL_load_449 ?_
  refine q_pr C hA hR0 tl_SlabCutterLaw_94 ⟨Nat.le_of_ble_eq_true rfl, Nat.le_of_ble_eq_true rfl⟩ (Nat.le_of_ble_eq_true rfl) ⟨(by omega : c3 ≤ 250), (by omega : s3 ≤ 200000)⟩ dL_load_450 p1 ?_
  refine x_iload_n C 4 dL_load_453 rfl ?_
  refine x_icmp_ne (tgt := 491) (P1 := some ()) (P2 := none) (z := ()) C dL_load_454 (by decide) (if_pos (eq_self _)) (fun h => nomatch h) (fun _ => ?_)
  refine x_aload_n C 1 dL_load_457 rfl ?_
  refine x_iconst C dL_load_458 ?_
  refine q_pr C hA hR0 tl_SlabCutterLaw_94 ⟨Nat.le_of_ble_eq_true rfl, Nat.le_of_ble_eq_true rfl⟩ (Nat.le_of_ble_eq_true rfl) ⟨(by omega : c3 ≤ 250), (by omega : s3 ≤ 200000)⟩ dL_load_459 p2 ?_
  refine x_iload C 5 dL_load_462 rfl ?_
  refine x_icmp_ne (tgt := 491) (P1 := some ()) (P2 := none) (z := ()) C dL_load_464 (by decide) (if_pos (eq_self _)) (fun h => nomatch h) (fun _ => ?_)
  refine x_aload_n C 1 dL_load_467 rfl ?_
  refine x_iconst C dL_load_468 ?_
  refine q_pr C hA hR0 tl_SlabCutterLaw_94 ⟨Nat.le_of_ble_eq_true rfl, Nat.le_of_ble_eq_true rfl⟩ (Nat.le_of_ble_eq_true rfl) ⟨(by omega : c3 ≤ 250), (by omega : s3 ≤ 200000)⟩ dL_load_469 p3 ?_
  refine x_aload_n C 2 dL_load_472 rfl ?_
  refine x_bipush (v := 13) C dL_load_473 (by decide +kernel) ?_
  refine x_iconst C dL_load_475 ?_
  refine q_draw C hA hR0 hX hbs hbA (k := 13) (n := 2) (by omega) hL9 (by decide +kernel) tl_SlabCutterLaw_50 ⟨Nat.le_of_ble_eq_true rfl, Nat.le_of_ble_eq_true rfl⟩ (Nat.le_of_ble_eq_true rfl) ⟨(by omega : c3 ≤ 250), (by omega : s3 ≤ 200000)⟩ dL_load_476 ?_
  have K597 : XG g (na3, ad2, c3, s3) (hY g (na3, ad2, c3, s3) w2 ([] : va_W)) [(12, iV laid), (0, .ref (ad2 1)), (1, .ref b), (2, iV (wideF xs L)), (3, iV (highF xs L)), (6, iV (flwN xs L (wideF xs L * highF xs L) (drw xs L 2 9).toNat)), (7, iV (drw xs L 12 4)), (8, iV (1 + drw xs L 14 40)), (9, iV (drw xs L 15 100)), (10, iV (((drw xs L 17 4).toNat : Nat) : Int)), (11, iV (prtN xs L (drw xs L 17 4).toNat))] [iV (timeV xs L), iV (timeV xs L)] 597 := by
    refine x_icmp_ne (tgt := 604) (P1 := some ()) (P2 := none) (z := ()) C dL_load_597 (by decide) (if_pos (eq_self _)) (fun h => nomatch h) (fun _ => ?_)
    refine x_iconst C dL_load_600 ?_
    refine x_goto (tgt := 605) C dL_load_601 (by decide) ?_
    exact hR (na3, ad2, c3, s3) _ _ 1 w2 _ hag ⟨by show c3 ≤ 250; omega, by show s3 ≤ 200000; omega⟩ rfl rfl dL_load_605
  have K571 : XG g (na3, ad2, c3, s3) (hY g (na3, ad2, c3, s3) w2 ([] : va_W)) [(12, iV laid), (0, .ref (ad2 1)), (1, .ref b), (2, iV (wideF xs L)), (3, iV (highF xs L)), (6, iV (flwN xs L (wideF xs L * highF xs L) (drw xs L 2 9).toNat)), (7, iV (drw xs L 12 4)), (8, iV (1 + drw xs L 14 40)), (9, iV (drw xs L 15 100)), (10, iV (((drw xs L 17 4).toNat : Nat) : Int)), (11, iV (prtN xs L (drw xs L 17 4).toNat))] [iV (sharpV xs L), iV (sharpV xs L)] 571 := by
    refine x_icmp_ne (tgt := 604) (P1 := some ()) (P2 := none) (z := ()) C dL_load_571 (by decide) (if_pos (eq_self _)) (fun h => nomatch h) (fun _ => ?_)
    refine x_aload_n C 1 dL_load_574 rfl ?_
    refine x_bipush (v := 11) C dL_load_575 (by decide +kernel) ?_
    refine q_pr C hA hR0 tl_SlabCutterLaw_94 ⟨Nat.le_of_ble_eq_true rfl, Nat.le_of_ble_eq_true rfl⟩ (Nat.le_of_ble_eq_true rfl) ⟨(by omega : c3 ≤ 250), (by omega : s3 ≤ 200000)⟩ dL_load_577 p11 ?_
    refine x_aload_n C 2 dL_load_580 rfl ?_
    refine x_bipush (v := 16) C dL_load_581 (by decide +kernel) ?_
    refine x_iconst C dL_load_583 ?_
    refine q_draw C hA hR0 hX hbs hbA (k := 16) (n := 2) (by omega) hL9 (by decide +kernel) tl_SlabCutterLaw_50 ⟨Nat.le_of_ble_eq_true rfl, Nat.le_of_ble_eq_true rfl⟩ (Nat.le_of_ble_eq_true rfl) ⟨(by omega : c3 ≤ 250), (by omega : s3 ≤ 200000)⟩ dL_load_584 ?_
    by_cases c16 : drw xs L 16 2 = 0
    · refine x_if_ne (tgt := 595) (P1 := some ()) (P2 := none) (z := ()) C dL_load_587 (by decide) (if_pos (eqt (rg2 hd16 (by decide) (by decide)) c16)) (fun h => nomatch h) (fun _ => ?_)
      refine x_iload C 8 dL_load_590 rfl ?_
      refine x_goto (tgt := 597) C dL_load_592 (by decide) ?_
      rw [show timeV xs L = _ from if_pos c16] at K597 ⊢
      exact K597
    · refine x_if_ne (tgt := 595) (P1 := none) (P2 := some ()) (z := ()) C dL_load_587 (by decide) (if_neg (eqn (rg2 hd16 (by decide) (by decide)) c16)) (fun _ => ?_) (fun h => nomatch h)
      refine x_bipush (v := 10) C dL_load_595 (by decide +kernel) ?_
      rw [show timeV xs L = _ from if_neg c16] at K597 ⊢
      exact K597
  have K488 : XG g (na3, ad2, c3, s3) (hY g (na3, ad2, c3, s3) w2 ([] : va_W)) [(12, iV laid), (0, .ref (ad2 1)), (1, .ref b), (2, iV (wideF xs L)), (3, iV (highF xs L)), (6, iV (flwN xs L (wideF xs L * highF xs L) (drw xs L 2 9).toNat)), (7, iV (drw xs L 12 4)), (8, iV (1 + drw xs L 14 40)), (9, iV (drw xs L 15 100)), (10, iV (((drw xs L 17 4).toNat : Nat) : Int)), (11, iV (prtN xs L (drw xs L 17 4).toNat))] [iV (gapV xs L), iV (gapV xs L)] 488 := by
    refine x_icmp_eq (tgt := 493) (P1 := some ()) (P2 := none) (z := ()) C dL_load_488 (by decide) (if_pos (eq_self _)) (fun _ => ?_) (fun h => nomatch h)
    refine x_aload_n C 1 dL_load_493 rfl ?_
    refine x_iconst C dL_load_494 ?_
    refine q_pr C hA hR0 tl_SlabCutterLaw_94 ⟨Nat.le_of_ble_eq_true rfl, Nat.le_of_ble_eq_true rfl⟩ (Nat.le_of_ble_eq_true rfl) ⟨(by omega : c3 ≤ 250), (by omega : s3 ≤ 200000)⟩ dL_load_495 p4 ?_
    refine x_iload C 9 dL_load_498 rfl ?_
    refine x_icmp_ne (tgt := 604) (P1 := some ()) (P2 := none) (z := ()) C dL_load_500 (by decide) (if_pos (eq_self _)) (fun h => nomatch h) (fun _ => ?_)
    refine x_aload_n C 1 dL_load_503 rfl ?_
    refine x_iconst C dL_load_504 ?_
    refine q_pr C hA hR0 tl_SlabCutterLaw_94 ⟨Nat.le_of_ble_eq_true rfl, Nat.le_of_ble_eq_true rfl⟩ (Nat.le_of_ble_eq_true rfl) ⟨(by omega : c3 ≤ 250), (by omega : s3 ≤ 200000)⟩ dL_load_505 p5 ?_
    refine x_iload C 10 dL_load_508 rfl ?_
    refine x_icmp_ne (tgt := 604) (P1 := some ()) (P2 := none) (z := ()) C dL_load_510 (by decide) (if_pos (eq_self _)) (fun h => nomatch h) (fun _ => ?_)
    refine x_aload_n C 1 dL_load_513 rfl ?_
    refine x_bipush (v := 6) C dL_load_514 (by decide +kernel) ?_
    refine q_pr C hA hR0 tl_SlabCutterLaw_94 ⟨Nat.le_of_ble_eq_true rfl, Nat.le_of_ble_eq_true rfl⟩ (Nat.le_of_ble_eq_true rfl) ⟨(by omega : c3 ≤ 250), (by omega : s3 ≤ 200000)⟩ dL_load_516 p6 ?_
    refine x_iload C 0 dL_load_519 rfl ?_
    refine x_icmp_ne (tgt := 604) (P1 := some ()) (P2 := none) (z := ()) C dL_load_521 (by decide) (if_pos (eq_self _)) (fun h => nomatch h) (fun _ => ?_)
    refine x_aload_n C 1 dL_load_524 rfl ?_
    refine x_bipush (v := 8) C dL_load_525 (by decide +kernel) ?_
    refine q_pr C hA hR0 tl_SlabCutterLaw_94 ⟨Nat.le_of_ble_eq_true rfl, Nat.le_of_ble_eq_true rfl⟩ (Nat.le_of_ble_eq_true rfl) ⟨(by omega : c3 ≤ 250), (by omega : s3 ≤ 200000)⟩ dL_load_527 p8 ?_
    refine x_if_ne (tgt := 604) (P1 := some ()) (P2 := none) (z := ()) C dL_load_530 (by decide) (if_pos (eq_self _)) (fun h => nomatch h) (fun _ => ?_)
    refine x_aload_n C 1 dL_load_533 rfl ?_
    refine x_bipush (v := 9) C dL_load_534 (by decide +kernel) ?_
    refine q_pr C hA hR0 tl_SlabCutterLaw_94 ⟨Nat.le_of_ble_eq_true rfl, Nat.le_of_ble_eq_true rfl⟩ (Nat.le_of_ble_eq_true rfl) ⟨(by omega : c3 ≤ 250), (by omega : s3 ≤ 200000)⟩ dL_load_536 p9 ?_
    refine x_aload_n C 1 dL_load_539 rfl ?_
    refine x_bipush (v := 10) C dL_load_540 (by decide +kernel) ?_
    refine q_pr C hA hR0 tl_SlabCutterLaw_94 ⟨Nat.le_of_ble_eq_true rfl, Nat.le_of_ble_eq_true rfl⟩ (Nat.le_of_ble_eq_true rfl) ⟨(by omega : c3 ≤ 250), (by omega : s3 ≤ 200000)⟩ dL_load_542 p10 ?_
    refine x_icmp_ne (tgt := 604) (P1 := some ()) (P2 := none) (z := ()) C dL_load_545 (by decide) (if_pos (eq_self _)) (fun h => nomatch h) (fun _ => ?_)
    refine x_aload_n C 1 dL_load_548 rfl ?_
    refine x_bipush (v := 10) C dL_load_549 (by decide +kernel) ?_
    refine q_pr C hA hR0 tl_SlabCutterLaw_94 ⟨Nat.le_of_ble_eq_true rfl, Nat.le_of_ble_eq_true rfl⟩ (Nat.le_of_ble_eq_true rfl) ⟨(by omega : c3 ≤ 250), (by omega : s3 ≤ 200000)⟩ dL_load_551 p10 ?_
    refine x_aload_n C 2 dL_load_554 rfl ?_
    refine x_bipush (v := 16) C dL_load_555 (by decide +kernel) ?_
    refine x_iconst C dL_load_557 ?_
    refine q_draw C hA hR0 hX hbs hbA (k := 16) (n := 2) (by omega) hL9 (by decide +kernel) tl_SlabCutterLaw_50 ⟨Nat.le_of_ble_eq_true rfl, Nat.le_of_ble_eq_true rfl⟩ (Nat.le_of_ble_eq_true rfl) ⟨(by omega : c3 ≤ 250), (by omega : s3 ≤ 200000)⟩ dL_load_558 ?_
    by_cases c16 : drw xs L 16 2 = 0
    · refine x_if_ne (tgt := 569) (P1 := some ()) (P2 := none) (z := ()) C dL_load_561 (by decide) (if_pos (eqt (rg2 hd16 (by decide) (by decide)) c16)) (fun h => nomatch h) (fun _ => ?_)
      refine x_iload C 7 dL_load_564 rfl ?_
      refine x_goto (tgt := 571) C dL_load_566 (by decide) ?_
      rw [show sharpV xs L = _ from if_pos c16] at K571 ⊢
      exact K571
    · refine x_if_ne (tgt := 569) (P1 := none) (P2 := some ()) (z := ()) C dL_load_561 (by decide) (if_neg (eqn (rg2 hd16 (by decide) (by decide)) c16)) (fun _ => ?_) (fun h => nomatch h)
      refine x_bipush (v := 100) C dL_load_569 (by decide +kernel) ?_
      rw [show sharpV xs L = _ from if_neg c16] at K571 ⊢
      exact K571
  by_cases c13 : drw xs L 13 2 = 0
  · refine x_if_ne (tgt := 487) (P1 := some ()) (P2 := none) (z := ()) C dL_load_479 (by decide) (if_pos (eqt (rg2 hd13 (by decide) (by decide)) c13)) (fun h => nomatch h) (fun _ => ?_)
    refine x_iload C 6 dL_load_482 rfl ?_
    refine x_goto (tgt := 488) C dL_load_484 (by decide) ?_
    rw [show gapV xs L = _ from if_pos c13] at K488 ⊢
    exact K488
  · refine x_if_ne (tgt := 487) (P1 := none) (P2 := some ()) (z := ()) C dL_load_479 (by decide) (if_neg (eqn (rg2 hd13 (by decide) (by decide)) c13)) (fun _ => ?_) (fun h => nomatch h)
    refine x_iconst C dL_load_487 ?_
    rw [show gapV xs L = _ from if_neg c13] at K488 ⊢
    exact K488

theorem L_l275 {g : Cx} (C : CX g cL_load 16 (some .boolean) RL) {na : Nat} {ad : Nat → Nat} {b L : Nat} {xs : Nat → Int32} (hS : SX g na ad b L xs (rmv 12 420 250 200000)) {w : Wd} (hfl : g.l.stackTraces = false) {hb na2 n : Nat} {w1 w2 : Wd} {laid : Int} (hR : rtX g na ad cL_load .boolean 250 200000 (1, na2, w2)) (hfd : fedF (loadT xs L) n 0 0 w = some w1) (hld : LDok xs L na w1 na2 w2 laid) : ∀ (es : va_W) (c s : Nat), TXb g.G hb (((hdT (wideF xs L) (highF xs L) ++ flwT xs L (wideF xs L) (wideF xs L * highF xs L) (drw xs L 2 9).toNat) ++ gapT xs L) ++ chiT xs L) [] es → (c ≤ 58 ∧ s ≤ 43400) → XG g (na, ad, c, s) (hY g (na, ad, c, s) w es) [(0, .ref (ad 1)), (1, .ref b), (2, iV (wideF xs L)), (3, iV (highF xs L)), (4, .ref hb), (6, iV (flwN xs L (wideF xs L * highF xs L) (drw xs L 2 9).toNat)), (7, iV (drw xs L 12 4)), (8, iV (1 + drw xs L 14 40)), (9, iV (drw xs L 15 100))] [] 275 := by
  have hS0 := hS
  obtain ⟨hA, hR0, hX, hbs, hbA, hL9⟩ := hS0
  intro es c s hT hd
  have h17 := nat_le (n := 4) (drw_rng (xs := xs) (L := L) (k := 17) (n := 4) (by decide))
  have hw0 := wide_rng (xs := xs) (L := L)
  refine x_aload_n C 1 dL_load_275 rfl ?_
  refine x_bipush (v := 17) C dL_load_276 (by decide +kernel) ?_
  refine x_iconst C dL_load_278 ?_
  refine q_draw C hA hR0 hX hbs hbA (k := 17) (n := 4) (by omega) hL9 (by decide +kernel) tl_SlabCutterLaw_50 ⟨Nat.le_of_ble_eq_true rfl, Nat.le_of_ble_eq_true rfl⟩ (Nat.le_of_ble_eq_true rfl) ⟨(by omega : c ≤ 250), (by omega : s ≤ 200000)⟩ dL_load_279 ?_
  rw [show iV (drw xs L 17 4) = iV ((drw xs L 17 4).toNat : Nat) from congrArg iV h17.2.symm]
  refine x_istore (lv' := [(10, iV ((drw xs L 17 4).toNat : Nat)), (0, .ref (ad 1)), (1, .ref b), (2, iV (wideF xs L)), (3, iV (highF xs L)), (4, .ref hb), (6, iV (flwN xs L (wideF xs L * highF xs L) (drw xs L 2 9).toNat)), (7, iV (drw xs L 12 4)), (8, iV (1 + drw xs L 14 40)), (9, iV (drw xs L 15 100))]) C dL_load_282 (by decide) rfl ?_
  refine x_iconst C dL_load_284 ?_
  refine x_istore (lv' := [(11, iV 0), (10, iV ((drw xs L 17 4).toNat : Nat)), (0, .ref (ad 1)), (1, .ref b), (2, iV (wideF xs L)), (3, iV (highF xs L)), (4, .ref hb), (6, iV (flwN xs L (wideF xs L * highF xs L) (drw xs L 2 9).toNat)), (7, iV (drw xs L 12 4)), (8, iV (1 + drw xs L 14 40)), (9, iV (drw xs L 15 100))]) C dL_load_285 (by decide) rfl ?_
  refine x_iconst C dL_load_287 ?_
  refine x_istore (lv' := [(12, iV 0), (11, iV 0), (10, iV ((drw xs L 17 4).toNat : Nat)), (0, .ref (ad 1)), (1, .ref b), (2, iV (wideF xs L)), (3, iV (highF xs L)), (4, .ref hb), (6, iV (flwN xs L (wideF xs L * highF xs L) (drw xs L 2 9).toNat)), (7, iV (drw xs L 12 4)), (8, iV (1 + drw xs L 14 40)), (9, iV (drw xs L 15 100))]) C dL_load_288 (by decide) rfl ?_
  refine XG.sub [3, 4, 5, 6, 7, 8, 9, 10, 11, 2, 1, 0] rfl ?_
  exact L_parts C hS (T := (((hdT (wideF xs L) (highF xs L) ++ flwT xs L (wideF xs L) (wideF xs L * highF xs L) (drw xs L 2 9).toNat) ++ gapT xs L) ++ chiT xs L)) (wide := wideF xs L) (high := highF xs L) wide_rng h17.1 (preP_le xs L) (fun k _ => prtT_le xs L (by omega) k) (fun es c s hT hd => L_ltail C hS hfl hR hfd hld es c s hT ⟨by omega, by omega⟩) (drw xs L 17 4).toNat 0 es c s (by omega) (by rw [prtT, List.append_nil]; exact hT) (by omega)

theorem L_l215 {g : Cx} (C : CX g cL_load 16 (some .boolean) RL) {na : Nat} {ad : Nat → Nat} {b L : Nat} {xs : Nat → Int32} (hS : SX g na ad b L xs (rmv 12 420 250 200000)) {w : Wd} (hfl : g.l.stackTraces = false) {hb na2 n : Nat} {w1 w2 : Wd} {laid : Int} (hR : rtX g na ad cL_load .boolean 250 200000 (1, na2, w2)) (hfd : fedF (loadT xs L) n 0 0 w = some w1) (hld : LDok xs L na w1 na2 w2 laid) : ∀ (es : va_W) (c s : Nat), TXb g.G hb ((hdT (wideF xs L) (highF xs L) ++ flwT xs L (wideF xs L) (wideF xs L * highF xs L) (drw xs L 2 9).toNat) ++ gapT xs L) [] es → (c ≤ 53 ∧ s ≤ 39400) → XG g (na, ad, c, s) (hY g (na, ad, c, s) w es) [(0, .ref (ad 1)), (1, .ref b), (2, iV (wideF xs L)), (3, iV (highF xs L)), (4, .ref hb), (6, iV (flwN xs L (wideF xs L * highF xs L) (drw xs L 2 9).toNat)), (7, iV (drw xs L 12 4))] [] 215 := by
  have hS0 := hS
  obtain ⟨hA, hR0, hX, hbs, hbA, hL9⟩ := hS0
  intro es c s hT hd
  have hd16 := drw_rng (xs := xs) (L := L) (k := 16) (n := 2) (by decide)
  refine x_iconst C dL_load_215 ?_
  refine x_aload_n C 1 dL_load_216 rfl ?_
  refine x_bipush (v := 14) C dL_load_217 (by decide +kernel) ?_
  refine x_bipush (v := 40) C dL_load_219 (by decide +kernel) ?_
  refine q_draw C hA hR0 hX hbs hbA (k := 14) (n := 40) (by omega) hL9 (by decide +kernel) tl_SlabCutterLaw_50 ⟨Nat.le_of_ble_eq_true rfl, Nat.le_of_ble_eq_true rfl⟩ (Nat.le_of_ble_eq_true rfl) ⟨(by omega : c ≤ 250), (by omega : s ≤ 200000)⟩ dL_load_221 ?_
  refine x_iadd C dL_load_224 ?_
  refine x_istore (lv' := [(8, iV (1 + (drw xs L 14 40))), (0, .ref (ad 1)), (1, .ref b), (2, iV (wideF xs L)), (3, iV (highF xs L)), (4, .ref hb), (6, iV (flwN xs L (wideF xs L * highF xs L) (drw xs L 2 9).toNat)), (7, iV (drw xs L 12 4))]) C dL_load_225 (by decide) rfl ?_
  refine x_aload_n C 2 dL_load_227 rfl ?_
  refine x_bipush (v := 15) C dL_load_228 (by decide +kernel) ?_
  refine x_bipush (v := 100) C dL_load_230 (by decide +kernel) ?_
  refine q_draw C hA hR0 hX hbs hbA (k := 15) (n := 100) (by omega) hL9 (by decide +kernel) tl_SlabCutterLaw_50 ⟨Nat.le_of_ble_eq_true rfl, Nat.le_of_ble_eq_true rfl⟩ (Nat.le_of_ble_eq_true rfl) ⟨(by omega : c ≤ 250), (by omega : s ≤ 200000)⟩ dL_load_232 ?_
  refine x_istore (lv' := [(9, iV (drw xs L 15 100)), (8, iV (1 + (drw xs L 14 40))), (0, .ref (ad 1)), (1, .ref b), (2, iV (wideF xs L)), (3, iV (highF xs L)), (4, .ref hb), (6, iV (flwN xs L (wideF xs L * highF xs L) (drw xs L 2 9).toNat)), (7, iV (drw xs L 12 4))]) C dL_load_235 (by decide) rfl ?_
  refine x_aload_n C 3 dL_load_237 rfl ?_
  refine x_bipush (v := 16) C dL_load_238 (by decide +kernel) ?_
  refine x_iconst C dL_load_240 ?_
  refine q_draw C hA hR0 hX hbs hbA (k := 16) (n := 2) (by omega) hL9 (by decide +kernel) tl_SlabCutterLaw_50 ⟨Nat.le_of_ble_eq_true rfl, Nat.le_of_ble_eq_true rfl⟩ (Nat.le_of_ble_eq_true rfl) ⟨(by omega : c ≤ 250), (by omega : s ≤ 200000)⟩ dL_load_241 ?_
  by_cases c16 : drw xs L 16 2 = 0
  · refine x_if_ne (tgt := 275) (P1 := some ()) (P2 := none) (z := ()) C dL_load_244 (by decide) (if_pos (eqt (rg2 hd16 (by decide) (by decide)) c16)) (fun h => nomatch h) (fun _ => ?_)
    obtain ⟨ha, m, a, rfl, b1, b2, b3, b4⟩ := hT
    have hl : ((hdT (wideF xs L) (highF xs L) ++ flwT xs L (wideF xs L) (wideF xs L * highF xs L) (drw xs L 2 9).toNat) ++ gapT xs L).length ≤ 106 := app_le (a := 99) (b := 7) (app_le (a := 11) (b := 88) (hdT_le _ _) (Nat.le_trans (flwT_le _ _ _ _ _) (by have := (nat_le (n := 9) (drw_rng (xs := xs) (L := L) (k := 2) (n := 9) (by decide))).1; omega))) (gapT_le _ _)
    refine x_aload C 6 dL_load_247 rfl ?_
    refine x_ldcS (i := 13) (tx := "chisel ") C (by decide +kernel) dL_load_249 ?_
    refine y_tR C hA (t_V (rm := rmv 5 167 1 800) (As := [.ref (g.G.aK 13)]) (rest := []) C hA hR0 hY.sub (rcYb C) (ct_appS g.l g.G b3 b4 (i := 13) (by decide) b1 ⟨b2, by rw [show slen 13 = 7 from rfl]; omega⟩) tm_J4_append_15ec4 tl_SlabCutterLaw_42 ⟨rfl, rfl⟩ ⟨Nat.le_of_ble_eq_true rfl, Nat.le_of_ble_eq_true rfl⟩ rfl rfl (Nat.le_of_ble_eq_true rfl) ⟨(by omega : c + 1 ≤ 250), (by omega : s + 800 ≤ 200000)⟩ dL_load_251) (fun r ws' c25 s26 hp e1 e2 => ?_)
    obtain ⟨hr, ha, m, a, rfl, b1, b2, b3, b4⟩ := hp
    rw [hr]
    have hl27 : ((((hdT (wideF xs L) (highF xs L) ++ flwT xs L (wideF xs L) (wideF xs L * highF xs L) (drw xs L 2 9).toNat) ++ gapT xs L) ++ ctx 13)).length ≤ 113 := app_le (a := 106) (b := 7) hl ctx_le.2.2.2.2.2.1
    refine x_iload C 1 dL_load_254 rfl ?_
    refine y_tR C hA (t_V (rm := rmv 5 167 1 800) (As := [iV (1 + (drw xs L 14 40))]) (rest := []) C hA hR0 hY.sub (rcYb C) (ct_appI g.l g.G b3 b4 (e100 (drw_rng (by decide)) (by decide)) b1 ⟨b2, by omega⟩) tm_J4_append_bf812 tl_SlabCutterLaw_59 ⟨rfl, rfl⟩ ⟨Nat.le_of_ble_eq_true rfl, Nat.le_of_ble_eq_true rfl⟩ rfl rfl (Nat.le_of_ble_eq_true rfl) ⟨(by omega : c25 + 1 ≤ 250), (by omega : s26 + 800 ≤ 200000)⟩ dL_load_256) (fun r ws' c28 s29 hp e1 e2 => ?_)
    obtain ⟨hr, ha, m, a, rfl, b1, b2, b3, b4⟩ := hp
    rw [hr]
    have hl30 : (((((hdT (wideF xs L) (highF xs L) ++ flwT xs L (wideF xs L) (wideF xs L * highF xs L) (drw xs L 2 9).toNat) ++ gapT xs L) ++ ctx 13) ++ digs (1 + drw xs L 14 40))).length ≤ 115 := app_le (a := 113) (b := 2) hl27 (digs_le _)
    refine x_ldcS (i := 10) (tx := " ") C (by decide +kernel) dL_load_259 ?_
    refine y_tR C hA (t_V (rm := rmv 5 167 1 800) (As := [.ref (g.G.aK 10)]) (rest := []) C hA hR0 hY.sub (rcYb C) (ct_appS g.l g.G b3 b4 (i := 10) (by decide) b1 ⟨b2, by rw [show slen 10 = 1 from rfl]; omega⟩) tm_J4_append_15ec4 tl_SlabCutterLaw_42 ⟨rfl, rfl⟩ ⟨Nat.le_of_ble_eq_true rfl, Nat.le_of_ble_eq_true rfl⟩ rfl rfl (Nat.le_of_ble_eq_true rfl) ⟨(by omega : c28 + 1 ≤ 250), (by omega : s29 + 800 ≤ 200000)⟩ dL_load_261) (fun r ws' c31 s32 hp e1 e2 => ?_)
    obtain ⟨hr, ha, m, a, rfl, b1, b2, b3, b4⟩ := hp
    rw [hr]
    have hl33 : ((((((hdT (wideF xs L) (highF xs L) ++ flwT xs L (wideF xs L) (wideF xs L * highF xs L) (drw xs L 2 9).toNat) ++ gapT xs L) ++ ctx 13) ++ digs (1 + drw xs L 14 40)) ++ ctx 10)).length ≤ 116 := app_le (a := 115) (b := 1) hl30 ctx_le.2.1
    refine x_iload C 0 dL_load_264 rfl ?_
    refine y_tR C hA (t_V (rm := rmv 5 167 1 800) (As := [iV (drw xs L 15 100)]) (rest := []) C hA hR0 hY.sub (rcYb C) (ct_appI g.l g.G b3 b4 (d100 (drw_rng (by decide)) (by decide)) b1 ⟨b2, by omega⟩) tm_J4_append_bf812 tl_SlabCutterLaw_59 ⟨rfl, rfl⟩ ⟨Nat.le_of_ble_eq_true rfl, Nat.le_of_ble_eq_true rfl⟩ rfl rfl (Nat.le_of_ble_eq_true rfl) ⟨(by omega : c31 + 1 ≤ 250), (by omega : s32 + 800 ≤ 200000)⟩ dL_load_266) (fun r ws' c34 s35 hp e1 e2 => ?_)
    obtain ⟨hr, ha, m, a, rfl, b1, b2, b3, b4⟩ := hp
    rw [hr]
    have hl36 : (((((((hdT (wideF xs L) (highF xs L) ++ flwT xs L (wideF xs L) (wideF xs L * highF xs L) (drw xs L 2 9).toNat) ++ gapT xs L) ++ ctx 13) ++ digs (1 + drw xs L 14 40)) ++ ctx 10) ++ digs (drw xs L 15 100))).length ≤ 118 := app_le (a := 116) (b := 2) hl33 (digs_le _)
    refine x_ldcS (i := 1) (tx := ";") C (by decide +kernel) dL_load_269 ?_
    refine y_tR C hA (t_V (rm := rmv 5 167 1 800) (As := [.ref (g.G.aK 1)]) (rest := []) C hA hR0 hY.sub (rcYb C) (ct_appS g.l g.G b3 b4 (i := 1) (by decide) b1 ⟨b2, by rw [show slen 1 = 1 from rfl]; omega⟩) tm_J4_append_15ec4 tl_SlabCutterLaw_42 ⟨rfl, rfl⟩ ⟨Nat.le_of_ble_eq_true rfl, Nat.le_of_ble_eq_true rfl⟩ rfl rfl (Nat.le_of_ble_eq_true rfl) ⟨(by omega : c34 + 1 ≤ 250), (by omega : s35 + 800 ≤ 200000)⟩ dL_load_271) (fun r ws' c37 s38 hp e1 e2 => ?_)
    obtain ⟨hr, ha, m, a, rfl, b1, b2, b3, b4⟩ := hp
    rw [hr]
    have hl39 : ((((((((hdT (wideF xs L) (highF xs L) ++ flwT xs L (wideF xs L) (wideF xs L * highF xs L) (drw xs L 2 9).toNat) ++ gapT xs L) ++ ctx 13) ++ digs (1 + drw xs L 14 40)) ++ ctx 10) ++ digs (drw xs L 15 100)) ++ ctx 1)).length ≤ 119 := app_le (a := 118) (b := 1) hl36 ctx_le.2.2.1
    refine x_pop C rfl dL_load_274 ?_
    refine XG.sub [2, 3, 4, 5, 6, 7, 8, 1, 0] rfl ?_
    have e1 : (((hdT (wideF xs L) (highF xs L) ++ flwT xs L (wideF xs L) (wideF xs L * highF xs L) (drw xs L 2 9).toNat) ++ gapT xs L) ++ chiT xs L) = (((((((hdT (wideF xs L) (highF xs L) ++ flwT xs L (wideF xs L) (wideF xs L * highF xs L) (drw xs L 2 9).toNat) ++ gapT xs L) ++ ctx 13) ++ digs (1 + drw xs L 14 40)) ++ ctx 10) ++ digs (drw xs L 15 100)) ++ ctx 1) := by rw [chiT, if_pos c16]; simp only [List.append_assoc]
    exact L_l275 C hS hfl hR hfd hld _ c37 s38 (by rw [e1]; exact ⟨ha, m, a, rfl, b1, b2, b3, b4⟩) ⟨by omega, by omega⟩
  · refine x_if_ne (tgt := 275) (P1 := none) (P2 := some ()) (z := ()) C dL_load_244 (by decide) (if_neg (eqn (rg2 hd16 (by decide) (by decide)) c16)) (fun _ => ?_) (fun h => nomatch h)
    refine XG.sub [2, 3, 4, 5, 6, 7, 8, 1, 0] rfl ?_
    exact L_l275 C hS hfl hR hfd hld es c s (by rw [chiT, if_neg c16, List.append_nil]; exact hT) ⟨by omega, by omega⟩

theorem L_l178 {g : Cx} (C : CX g cL_load 16 (some .boolean) RL) {na : Nat} {ad : Nat → Nat} {b L : Nat} {xs : Nat → Int32} (hS : SX g na ad b L xs (rmv 12 420 250 200000)) {w : Wd} (hfl : g.l.stackTraces = false) {hb na2 n : Nat} {w1 w2 : Wd} {laid : Int} (hR : rtX g na ad cL_load .boolean 250 200000 (1, na2, w2)) (hfd : fedF (loadT xs L) n 0 0 w = some w1) (hld : LDok xs L na w1 na2 w2 laid) : ∀ (es : va_W) (c s : Nat), TXb g.G hb (hdT (wideF xs L) (highF xs L) ++ flwT xs L (wideF xs L) (wideF xs L * highF xs L) (drw xs L 2 9).toNat) [] es → (c ≤ 50 ∧ s ≤ 37000) → XG g (na, ad, c, s) (hY g (na, ad, c, s) w es) [(0, .ref (ad 1)), (1, .ref b), (2, iV (wideF xs L)), (3, iV (highF xs L)), (4, .ref hb), (6, iV (flwN xs L (wideF xs L * highF xs L) (drw xs L 2 9).toNat))] [] 178 := by
  have hS0 := hS
  obtain ⟨hA, hR0, hX, hbs, hbA, hL9⟩ := hS0
  intro es c s hT hd
  have hd13 := drw_rng (xs := xs) (L := L) (k := 13) (n := 2) (by decide)
  refine x_aload_n C 1 dL_load_178 rfl ?_
  refine x_bipush (v := 12) C dL_load_179 (by decide +kernel) ?_
  refine x_iconst C dL_load_181 ?_
  refine q_draw C hA hR0 hX hbs hbA (k := 12) (n := 4) (by omega) hL9 (by decide +kernel) tl_SlabCutterLaw_50 ⟨Nat.le_of_ble_eq_true rfl, Nat.le_of_ble_eq_true rfl⟩ (Nat.le_of_ble_eq_true rfl) ⟨(by omega : c ≤ 250), (by omega : s ≤ 200000)⟩ dL_load_182 ?_
  refine x_istore (lv' := [(7, iV (drw xs L 12 4)), (0, .ref (ad 1)), (1, .ref b), (2, iV (wideF xs L)), (3, iV (highF xs L)), (4, .ref hb), (6, iV (flwN xs L (wideF xs L * highF xs L) (drw xs L 2 9).toNat))]) C dL_load_185 (by decide) rfl ?_
  refine x_aload_n C 2 dL_load_187 rfl ?_
  refine x_bipush (v := 13) C dL_load_188 (by decide +kernel) ?_
  refine x_iconst C dL_load_190 ?_
  refine q_draw C hA hR0 hX hbs hbA (k := 13) (n := 2) (by omega) hL9 (by decide +kernel) tl_SlabCutterLaw_50 ⟨Nat.le_of_ble_eq_true rfl, Nat.le_of_ble_eq_true rfl⟩ (Nat.le_of_ble_eq_true rfl) ⟨(by omega : c ≤ 250), (by omega : s ≤ 200000)⟩ dL_load_191 ?_
  by_cases c13 : drw xs L 13 2 = 0
  · refine x_if_ne (tgt := 215) (P1 := some ()) (P2 := none) (z := ()) C dL_load_194 (by decide) (if_pos (eqt (rg2 hd13 (by decide) (by decide)) c13)) (fun h => nomatch h) (fun _ => ?_)
    obtain ⟨ha, m, a, rfl, b1, b2, b3, b4⟩ := hT
    have hl : (hdT (wideF xs L) (highF xs L) ++ flwT xs L (wideF xs L) (wideF xs L * highF xs L) (drw xs L 2 9).toNat).length ≤ 99 := app_le (a := 11) (b := 88) (hdT_le _ _) (Nat.le_trans (flwT_le _ _ _ _ _) (by have := (nat_le (n := 9) (drw_rng (xs := xs) (L := L) (k := 2) (n := 9) (by decide))).1; omega))
    refine x_aload C 5 dL_load_197 rfl ?_
    refine x_ldcS (i := 12) (tx := "gap ") C (by decide +kernel) dL_load_199 ?_
    refine y_tR C hA (t_V (rm := rmv 5 167 1 800) (As := [.ref (g.G.aK 12)]) (rest := []) C hA hR0 hY.sub (rcYb C) (ct_appS g.l g.G b3 b4 (i := 12) (by decide) b1 ⟨b2, by rw [show slen 12 = 4 from rfl]; omega⟩) tm_J4_append_15ec4 tl_SlabCutterLaw_42 ⟨rfl, rfl⟩ ⟨Nat.le_of_ble_eq_true rfl, Nat.le_of_ble_eq_true rfl⟩ rfl rfl (Nat.le_of_ble_eq_true rfl) ⟨(by omega : c + 1 ≤ 250), (by omega : s + 800 ≤ 200000)⟩ dL_load_201) (fun r ws' c40 s41 hp e1 e2 => ?_)
    obtain ⟨hr, ha, m, a, rfl, b1, b2, b3, b4⟩ := hp
    rw [hr]
    have hl42 : (((hdT (wideF xs L) (highF xs L) ++ flwT xs L (wideF xs L) (wideF xs L * highF xs L) (drw xs L 2 9).toNat) ++ ctx 12)).length ≤ 103 := app_le (a := 99) (b := 4) hl ctx_le.2.2.2.2.1
    refine x_iload C 0 dL_load_204 rfl ?_
    refine y_tR C hA (t_V (rm := rmv 5 167 1 800) (As := [iV (drw xs L 12 4)]) (rest := []) C hA hR0 hY.sub (rcYb C) (ct_appI g.l g.G b3 b4 (d100 (drw_rng (by decide)) (by decide)) b1 ⟨b2, by omega⟩) tm_J4_append_bf812 tl_SlabCutterLaw_59 ⟨rfl, rfl⟩ ⟨Nat.le_of_ble_eq_true rfl, Nat.le_of_ble_eq_true rfl⟩ rfl rfl (Nat.le_of_ble_eq_true rfl) ⟨(by omega : c40 + 1 ≤ 250), (by omega : s41 + 800 ≤ 200000)⟩ dL_load_206) (fun r ws' c43 s44 hp e1 e2 => ?_)
    obtain ⟨hr, ha, m, a, rfl, b1, b2, b3, b4⟩ := hp
    rw [hr]
    have hl45 : ((((hdT (wideF xs L) (highF xs L) ++ flwT xs L (wideF xs L) (wideF xs L * highF xs L) (drw xs L 2 9).toNat) ++ ctx 12) ++ digs (drw xs L 12 4))).length ≤ 105 := app_le (a := 103) (b := 2) hl42 (digs_le _)
    refine x_ldcS (i := 1) (tx := ";") C (by decide +kernel) dL_load_209 ?_
    refine y_tR C hA (t_V (rm := rmv 5 167 1 800) (As := [.ref (g.G.aK 1)]) (rest := []) C hA hR0 hY.sub (rcYb C) (ct_appS g.l g.G b3 b4 (i := 1) (by decide) b1 ⟨b2, by rw [show slen 1 = 1 from rfl]; omega⟩) tm_J4_append_15ec4 tl_SlabCutterLaw_42 ⟨rfl, rfl⟩ ⟨Nat.le_of_ble_eq_true rfl, Nat.le_of_ble_eq_true rfl⟩ rfl rfl (Nat.le_of_ble_eq_true rfl) ⟨(by omega : c43 + 1 ≤ 250), (by omega : s44 + 800 ≤ 200000)⟩ dL_load_211) (fun r ws' c46 s47 hp e1 e2 => ?_)
    obtain ⟨hr, ha, m, a, rfl, b1, b2, b3, b4⟩ := hp
    rw [hr]
    have hl48 : (((((hdT (wideF xs L) (highF xs L) ++ flwT xs L (wideF xs L) (wideF xs L * highF xs L) (drw xs L 2 9).toNat) ++ ctx 12) ++ digs (drw xs L 12 4)) ++ ctx 1)).length ≤ 106 := app_le (a := 105) (b := 1) hl45 ctx_le.2.2.1
    refine x_pop C rfl dL_load_214 ?_
    refine XG.sub [1, 2, 3, 4, 5, 6, 0] rfl ?_
    have e1 : ((hdT (wideF xs L) (highF xs L) ++ flwT xs L (wideF xs L) (wideF xs L * highF xs L) (drw xs L 2 9).toNat) ++ gapT xs L) = ((((hdT (wideF xs L) (highF xs L) ++ flwT xs L (wideF xs L) (wideF xs L * highF xs L) (drw xs L 2 9).toNat) ++ ctx 12) ++ digs (drw xs L 12 4)) ++ ctx 1) := by rw [gapT, if_pos c13]; simp only [List.append_assoc]
    exact L_l215 C hS hfl hR hfd hld _ c46 s47 (by rw [e1]; exact ⟨ha, m, a, rfl, b1, b2, b3, b4⟩) ⟨by omega, by omega⟩
  · refine x_if_ne (tgt := 215) (P1 := none) (P2 := some ()) (z := ()) C dL_load_194 (by decide) (if_neg (eqn (rg2 hd13 (by decide) (by decide)) c13)) (fun _ => ?_) (fun h => nomatch h)
    refine XG.sub [1, 2, 3, 4, 5, 6, 0] rfl ?_
    exact L_l215 C hS hfl hR hfd hld es c s (by rw [gapT, if_neg c13, List.append_nil]; exact hT) ⟨by omega, by omega⟩

theorem cL_load_ (l : Launch) (G : Gd) (hfl : l.stackTraces = false) {na : Nat} {ad : Nat → Nat} {b L : Nat} {xs : Nat → Int32} (hL : L ≤ 260) {w w1 w2 : Wd} {na2 n : Nat} {laid : Int} (hfd : fedF (loadT xs L) n 0 0 w = some w1) (hld : LDok xs L na w1 na2 w2 laid) : mX l yL_load cL_load 16 (some .boolean) (rmv 12 420 250 200000) G na ad b L xs [.ref (ad 1), .ref b] w (1, na2, w2) 250 200000 := by
  refine met_X [(0, .ref (ad 1)), (1, .ref b)] (by decide) (Nat.le_of_ble_eq_true rfl) rfl .boolean rfl (fun g d C S hR => ?_)
  obtain ⟨rfl, hR0, rfl, hdm, rfl, hA, hX, hbs, hbA⟩ := S
  have hL9 := hL
  have hS : SX g na ad b L xs (rmv 12 420 250 200000) := ⟨hA, hR0, hX, hbs, hbA, hL9⟩
  have h9 := nat_le (n := 9) (drw_rng (xs := xs) (L := L) (k := 2) (n := 9) (by decide))
  refine x_iconst C dL_load_0 ?_
  refine x_aload_n C 1 dL_load_1 rfl ?_
  refine x_iconst C dL_load_2 ?_
  refine x_bipush (v := 21) C dL_load_3 (by decide +kernel) ?_
  refine q_draw C hA hR0 hX hbs hbA (k := 0) (n := 21) (by omega) hL9 (by decide +kernel) tl_SlabCutterLaw_50 ⟨Nat.le_of_ble_eq_true rfl, Nat.le_of_ble_eq_true rfl⟩ (Nat.le_of_ble_eq_true rfl) ⟨(by omega : 0 ≤ 250), (by omega : 0 ≤ 200000)⟩ dL_load_5 ?_
  refine x_iadd C dL_load_8 ?_
  rw [show 4 + drw xs L 0 21 = wideF xs L from rfl]
  refine x_istore_n (lv' := [(2, iV (wideF xs L)), (0, .ref (ad 1)), (1, .ref b)]) C dL_load_9 (by decide) rfl ?_
  refine x_iconst C dL_load_10 ?_
  refine x_aload_n C 2 dL_load_11 rfl ?_
  refine x_iconst C dL_load_12 ?_
  refine x_bipush (v := 11) C dL_load_13 (by decide +kernel) ?_
  refine q_draw C hA hR0 hX hbs hbA (k := 1) (n := 11) (by omega) hL9 (by decide +kernel) tl_SlabCutterLaw_50 ⟨Nat.le_of_ble_eq_true rfl, Nat.le_of_ble_eq_true rfl⟩ (Nat.le_of_ble_eq_true rfl) ⟨(by omega : 0 ≤ 250), (by omega : 0 ≤ 200000)⟩ dL_load_15 ?_
  refine x_iadd C dL_load_18 ?_
  rw [show 2 + drw xs L 1 11 = highF xs L from rfl]
  refine x_istore_n (lv' := [(3, iV (highF xs L)), (2, iV (wideF xs L)), (0, .ref (ad 1)), (1, .ref b)]) C dL_load_19 (by decide) rfl ?_
  refine y_new (ci := 11) C hA hR0 cl_J4 ⟨tcl_SlabCutterLaw_43, icl_J4.1, icl_J4.2⟩ idf_J4 (k := 4) rfl ⟨by decide, by decide⟩ dL_load_20 (fun q cq sq eq1 eq2 => ?_)
  refine x_dup C rfl dL_load_23 ?_
  refine x_ldcS (i := 9) (tx := "slab ") C (by decide +kernel) dL_load_24 ?_
  refine y_tV C hA (t_I (rm := rmv 8 233 2 840) (As := [.ref (g.G.aK 9)]) (rest := [.ref q]) C hA hR0 hY.sub (ct_inits (X := []) g.l g.G (i := 9) (by decide)) tm_J4_init_a7421 tl_SlabCutterLaw_56 ⟨rfl, rfl⟩ ⟨Nat.le_of_ble_eq_true rfl, Nat.le_of_ble_eq_true rfl⟩ rfl rfl (Nat.le_of_ble_eq_true rfl) ⟨(by omega : cq + 2 ≤ 250), (by omega : sq + 840 ≤ 200000)⟩ dL_load_26) (fun ws' ch sh hp e1 e2 => ?_)
  obtain ⟨ha, m, a, rfl, b1, b2, b3, b4⟩ := hp
  have hl : (ctx 9).length ≤ 5 := ctx_le.1
  refine x_iload_n C 1 dL_load_29 rfl ?_
  refine y_tR C hA (t_V (rm := rmv 5 167 1 800) (As := [iV (wideF xs L)]) (rest := []) C hA hR0 hY.sub (rcYb C) (ct_appI g.l g.G b3 b4 (r100 wide_rng (by decide) (by decide)) b1 ⟨b2, by omega⟩) tm_J4_append_bf812 tl_SlabCutterLaw_59 ⟨rfl, rfl⟩ ⟨Nat.le_of_ble_eq_true rfl, Nat.le_of_ble_eq_true rfl⟩ rfl rfl (Nat.le_of_ble_eq_true rfl) ⟨(by omega : ch + 1 ≤ 250), (by omega : sh + 800 ≤ 200000)⟩ dL_load_30) (fun r ws' c49 s50 hp e1 e2 => ?_)
  obtain ⟨hr, ha, m, a, rfl, b1, b2, b3, b4⟩ := hp
  rw [hr]
  have hl51 : ((ctx 9 ++ digs (wideF xs L))).length ≤ 7 := app_le (a := 5) (b := 2) hl (digs_le _)
  refine x_ldcS (i := 10) (tx := " ") C (by decide +kernel) dL_load_33 ?_
  refine y_tR C hA (t_V (rm := rmv 5 167 1 800) (As := [.ref (g.G.aK 10)]) (rest := []) C hA hR0 hY.sub (rcYb C) (ct_appS g.l g.G b3 b4 (i := 10) (by decide) b1 ⟨b2, by rw [show slen 10 = 1 from rfl]; omega⟩) tm_J4_append_15ec4 tl_SlabCutterLaw_42 ⟨rfl, rfl⟩ ⟨Nat.le_of_ble_eq_true rfl, Nat.le_of_ble_eq_true rfl⟩ rfl rfl (Nat.le_of_ble_eq_true rfl) ⟨(by omega : c49 + 1 ≤ 250), (by omega : s50 + 800 ≤ 200000)⟩ dL_load_35) (fun r ws' c52 s53 hp e1 e2 => ?_)
  obtain ⟨hr, ha, m, a, rfl, b1, b2, b3, b4⟩ := hp
  rw [hr]
  have hl54 : (((ctx 9 ++ digs (wideF xs L)) ++ ctx 10)).length ≤ 8 := app_le (a := 7) (b := 1) hl51 ctx_le.2.1
  refine x_iload_n C 0 dL_load_38 rfl ?_
  refine y_tR C hA (t_V (rm := rmv 5 167 1 800) (As := [iV (highF xs L)]) (rest := []) C hA hR0 hY.sub (rcYb C) (ct_appI g.l g.G b3 b4 (r100 high_rng (by decide) (by decide)) b1 ⟨b2, by omega⟩) tm_J4_append_bf812 tl_SlabCutterLaw_59 ⟨rfl, rfl⟩ ⟨Nat.le_of_ble_eq_true rfl, Nat.le_of_ble_eq_true rfl⟩ rfl rfl (Nat.le_of_ble_eq_true rfl) ⟨(by omega : c52 + 1 ≤ 250), (by omega : s53 + 800 ≤ 200000)⟩ dL_load_39) (fun r ws' c55 s56 hp e1 e2 => ?_)
  obtain ⟨hr, ha, m, a, rfl, b1, b2, b3, b4⟩ := hp
  rw [hr]
  have hl57 : ((((ctx 9 ++ digs (wideF xs L)) ++ ctx 10) ++ digs (highF xs L))).length ≤ 10 := app_le (a := 8) (b := 2) hl54 (digs_le _)
  refine x_ldcS (i := 1) (tx := ";") C (by decide +kernel) dL_load_42 ?_
  refine y_tR C hA (t_V (rm := rmv 5 167 1 800) (As := [.ref (g.G.aK 1)]) (rest := []) C hA hR0 hY.sub (rcYb C) (ct_appS g.l g.G b3 b4 (i := 1) (by decide) b1 ⟨b2, by rw [show slen 1 = 1 from rfl]; omega⟩) tm_J4_append_15ec4 tl_SlabCutterLaw_42 ⟨rfl, rfl⟩ ⟨Nat.le_of_ble_eq_true rfl, Nat.le_of_ble_eq_true rfl⟩ rfl rfl (Nat.le_of_ble_eq_true rfl) ⟨(by omega : c55 + 1 ≤ 250), (by omega : s56 + 800 ≤ 200000)⟩ dL_load_44) (fun r ws' c58 s59 hp e1 e2 => ?_)
  obtain ⟨hr, ha, m, a, rfl, b1, b2, b3, b4⟩ := hp
  rw [hr]
  have hl60 : (((((ctx 9 ++ digs (wideF xs L)) ++ ctx 10) ++ digs (highF xs L)) ++ ctx 1)).length ≤ 11 := app_le (a := 10) (b := 1) hl57 ctx_le.2.2.1
  refine x_astore (lv' := [(4, .ref q), (3, iV (highF xs L)), (2, iV (wideF xs L)), (0, .ref (ad 1)), (1, .ref b)]) C dL_load_47 (by decide) rfl ?_
  refine x_aload_n C 4 dL_load_49 rfl ?_
  refine x_iconst C dL_load_50 ?_
  refine x_bipush (v := 9) C dL_load_51 (by decide +kernel) ?_
  refine q_draw C hA hR0 hX hbs hbA (k := 2) (n := 9) (by omega) hL9 (by decide +kernel) tl_SlabCutterLaw_50 ⟨Nat.le_of_ble_eq_true rfl, Nat.le_of_ble_eq_true rfl⟩ (Nat.le_of_ble_eq_true rfl) ⟨(by omega : c58 ≤ 250), (by omega : s59 ≤ 200000)⟩ dL_load_53 ?_
  rw [show iV (drw xs L 2 9) = iV ((drw xs L 2 9).toNat : Nat) from congrArg iV h9.2.symm]
  refine x_istore (lv' := [(5, iV ((drw xs L 2 9).toNat : Nat)), (4, .ref q), (3, iV (highF xs L)), (2, iV (wideF xs L)), (0, .ref (ad 1)), (1, .ref b)]) C dL_load_56 (by decide) rfl ?_
  refine x_iconst C dL_load_58 ?_
  refine x_istore (lv' := [(6, iV 0), (5, iV ((drw xs L 2 9).toNat : Nat)), (4, .ref q), (3, iV (highF xs L)), (2, iV (wideF xs L)), (0, .ref (ad 1)), (1, .ref b)]) C dL_load_59 (by decide) rfl ?_
  refine x_iconst C dL_load_61 ?_
  refine x_istore (lv' := [(7, iV 0), (6, iV 0), (5, iV ((drw xs L 2 9).toNat : Nat)), (4, .ref q), (3, iV (highF xs L)), (2, iV (wideF xs L)), (0, .ref (ad 1)), (1, .ref b)]) C dL_load_62 (by decide) rfl ?_
  refine XG.sub [6, 7, 5, 4, 3, 2, 1, 0] rfl ?_
  exact L_flaws C hS (T := hdT (wideF xs L) (highF xs L)) (mn := (drw xs L 2 9).toNat) whF_rng wide_rng h9.1 (hdT_le _ _) (L_l178 C hS hfl hR hfd hld) (drw xs L 2 9).toNat 0 _ c58 s59 (by omega) (by rw [flwT, List.append_nil]; exact ⟨ha, m, a, rfl, b1, b2, b3, b4⟩) (by omega)

