/-! ===== the law's texts: four bytes of one, a word, what is fed ===== -/
theorem rmq {a b : Int} (h : 0 ≤ a ∧ a < 2147483648) (hb : 0 < b ∧ b < 2147483648) : rm32 a b = a % b := by
  unfold rm32 dv32
  rw [w32_id (x := a) (by omega) (by omega), w32_id (x := b) (by omega) (by omega), Int.tdiv_eq_ediv_of_nonneg h.1, Int.emod_def, Int.mul_comm]
theorem dvq {a b : Int} (h : 0 ≤ a ∧ a < 2147483648) (hb : 0 < b ∧ b < 2147483648) : dv32 a b = a / b := by
  unfold dv32
  rw [w32_id (x := a) (by omega) (by omega), w32_id (x := b) (by omega) (by omega), Int.tdiv_eq_ediv_of_nonneg h.1]
theorem eqf {a b : Int} (h : -2147483648 ≤ a ∧ a < 2147483648 ∧ -2147483648 ≤ b ∧ b < 2147483648) (hne : a ≠ b) : eq32 a b = false := by
  cases c : eq32 a b with
  | false => rfl
  | true => exact absurd ((eqq h).mp c) hne
theorem ch16q {c : Int} (h : 0 ≤ c ∧ c < 128) : ch16 c = c := by
  obtain ⟨n, rfl⟩ : ∃ n : Nat, c = (n : Int) := ⟨c.toNat, by omega⟩
  exact (by decide +kernel : ∀ n : Nat, n < 128 → ch16 (n : Int) = (n : Int)) n (by omega)
def fr (t : List Int) (x : Int) : Nat → Int → Int → Int
  | 0, _, v => v
  | n + 1, k, v => fr t x n (k + 1) (or32 (sl32 v 8) (if x + k < (t.length : Nat) then t.getD (x + k).toNat 0 else 0))
def fourF (t : List Int) (x : Int) : Int := fr t x 4 0 0
def wordL (n k : Int) : Int := if n % 5 = 0 then 48 + (n / 7 + 3 * k) % 10 else 97 + (n / 7 + 5 * k) % 26
def manyF (n wide : Int) : Int := 1 + n % min 7 wide
def wlist (n : Int) (k : Nat) : List Int := (List.range k).map fun (j : Nat) => wordL n j
def wordF (n wide : Int) : List Int := 32 :: wlist n (manyF n wide).toNat
theorem wlist_len (n : Int) (k : Nat) : (wlist n k).length = k := by unfold wlist; rw [List.length_map, List.length_range]
theorem wlist_s (n : Int) (k : Nat) : wlist n (k + 1) = wlist n k ++ [wordL n k] := by unfold wlist; rw [List.range_succ, List.map_append]; rfl
theorem wordL_rng (n k : Int) : 48 ≤ wordL n k ∧ wordL n k < 123 := by unfold wordL; split <;> omega
theorem manyF_rng {n wide : Int} (h : 0 ≤ n) (hw : 1 ≤ wide) : 1 ≤ manyF n wide ∧ manyF n wide ≤ 7 ∧ manyF n wide ≤ wide := by
  unfold manyF
  have h1 := Int.emod_nonneg n (b := min 7 wide) (by omega)
  have h2 := Int.emod_lt_of_pos n (b := min 7 wide) (by omega)
  omega
theorem XG.dn {g : Cx} {d d' : Dl} {hp : Heap → Prop} {lv : List (Nat × Value)} {st : List Value} {pc : Nat} (k : XG g d hp lv st pc) (h1 : d.ce = d'.ce) (h2 : d.so = d'.so) : XG g d' hp lv st pc := by
  intro H locs ls a b c
  have := k H locs ls a b c
  rw [h1, h2] at this
  exact this
theorem rcYk {g : Cx} {cc : ByteArray} {nL : Nat} {ret : Option FieldType} {own : String} (C : CX g cc nL ret own) {d : Dl} {w : Wd} {hs hv k : Nat} {es : va_W} (hq : es[k]? = some (stc hs hv)) : ∀ (H : Heap) (locs : List Loc), hY g d w es H → va_S g.A g.s.heap H locs → ∃ cell : Cell, H[hs]? = some cell ∧ cell.vm.isStatics = false ∧ g.s.vm.findClass "java/lang/String" = some cell.cls :=
  fun H locs h1 h2 => va_recv (q0 := k) (ci := 10) (q := (RJ0, TJ0, 4)) C.K h1.e.1 rfl hq
theorem hY.sub2 {g : Cx} {d : Dl} {w : Wd} {es : va_W} : hsub g (hY g d w es) (hw g.G 0 d.na d.ad w ++ es) := fun _ h => ⟨h.1, h.2.1⟩
theorem hY.back2 {g : Cx} {d : Dl} {w w' : Wd} {es ws' : va_W} (h1 : ws' = hw g.G 0 d.na d.ad w' ++ es) (h2 : okW d.na w') : hback g (hY g d w es) (hw g.G 0 d.na d.ad w ++ es) ws' (hY g d w' es) := by
  intro H H1 h hF hP hD hz hk
  subst h1
  exact ⟨hP, hD.weaken fun _ q _ hq => hF q.1 hq, h2⟩
theorem XG.ok {g : Cx} {d : Dl} {w : Wd} {es : va_W} {lv : List (Nat × Value)} {st : List Value} {pc : Nat} (k : okW d.na w → XG g d (hY g d w es) lv st pc) : XG g d (hY g d w es) lv st pc := fun H locs ls h1 h2 h3 => k h1.2.2 H locs ls h1 h2 h3
def fedF (t : List Int) : Nat → Int → Int → Wd → Option Wd
  | 0, _, _, _ => none
  | n + 1, k, last, w => if k < (t.length : Nat) ∨ k = 0 then (p_Y8_append (fourF t k) (fourF t (k + 4)) (fourF t (k + 8)) (fourF t (k + 12)) (fourF t (k + 16)) w).bind fun z => fedF t n (k + 20) z.1 z.2 else p_Y8_truncate (mn32 last (t.length : Nat)) w
theorem nx_ce {d : Dl} {a b : Nat} : (nx d a b).ce = d.ce + a := rfl
theorem nx_so {d : Dl} {a b : Nat} : (nx d a b).so = d.so + b := rfl
theorem dz_ce {a b : Nat} : (dz a b).ce = a := rfl
theorem dz_so {a b : Nat} : (dz a b).so = b := rfl
theorem tl_SlabCutterLaw_8 : Cond.methodLink "SlabCutterLaw" 8 yJ0_length_8abf5 ∈ lw_tg := in_tg 765 (by decide +kernel) rfl
theorem tl_SlabCutterLaw_14 : Cond.methodLink "SlabCutterLaw" 14 yJ0_charAt_5068e ∈ lw_tg := in_tg 769 (by decide +kernel) rfl
theorem tm_J0_charAt_5068e : mfV yJ0_charAt_5068e cJ0_charAt_5068e 2 (some .char) 1 := ⟨in_tg 770 (by decide +kernel) rfl, in_tg 771 (by decide +kernel) rfl, in_tg 45 (by decide +kernel) rfl, in_tg 772 (by decide +kernel) rfl, by decide +kernel, by decide +kernel, by decide +kernel⟩
theorem tl_SlabCutterLaw_47 : Cond.methodLink "SlabCutterLaw" 47 yJ4_append_cf468 ∈ lw_tg := in_tg 680 (by decide +kernel) rfl
theorem tm_J4_append_cf468 : mfV yJ4_append_cf468 cJ4_append_cf468 2 (some (.object "java/lang/StringBuilder")) 1 := ⟨in_tg 681 (by decide +kernel) rfl, in_tg 682 (by decide +kernel) rfl, in_tg 44 (by decide +kernel) rfl, in_tg 683 (by decide +kernel) rfl, by decide +kernel, by decide +kernel, by decide +kernel⟩
theorem tl_min30 : Cond.methodLink RL 30 Lib.Math.min.name ∈ lw_tg := in_tg 679 (by decide +kernel) rfl
theorem tl_SlabCutterLaw_42 : Cond.methodLink "SlabCutterLaw" 42 yJ4_append_15ec4 ∈ lw_tg := in_tg 668 (by decide +kernel) rfl
theorem L_four {g : Cx} (C : CX g cL_four 4 (some .int) RL) (hA : ∀ q : Nat, g.s.heap.size ≤ q → g.A q) (hR0 : g.R = rmv 4 100 0 0) {hs hv k0 k1 : Nat} {ws : va_W} {a : Nat → Int32} {t : List Int} (hq : ws[k0]? = some (stc hs hv)) (hq1 : ws[k1]? = some (bya g.G hv t.length a)) (ht : t.length ≤ 800) (hc : bcon a t) (h7 : ∀ j, j < t.length → 0 ≤ t.getD j 0 ∧ t.getD j 0 < 128) {x : Int} (hx : 0 ≤ x ∧ x ≤ 2000) (hR : rtTI g cL_four .int 0 0 (fun r ws' => r = fourF t x ∧ ws' = ws)) :
    ∀ (n : Nat) (k v : Int) (d : Dl), d.ce ≤ 0 ∧ d.so ≤ 0 → 0 ≤ k → k + n = 4 → fr t x n k v = fourF t x → XG g d (hL g ws) [(0, .ref hs), (1, iV x), (2, iV v), (3, iV k)] [] 4 := by
  intro n
  induction n with
  | zero =>
    intro k v d hd hk hn hv
    replace hv : v = fourF t x := hv
    refine x_iload_n C 3 dL_four_4 rfl ?_
    refine x_iconst C dL_four_5 ?_
    refine x_icmp_ge (tgt := 42) (P1 := none) (P2 := some ()) (z := ()) C dL_four_6 (by decide) (if_neg (by rw [ltq (by omega)] <;> omega)) (fun _ => ?_) (fun h => nomatch h)
    refine x_iload_n C 2 dL_four_42 rfl ?_
    rw [hv]
    exact hR _ _ _ _ _ ⟨rfl, rfl⟩ rfl hd.1 hd.2 dL_four_43
  | succ n ih =>
    intro k v d hd hk hn hv
    have tail : ∀ (ch : Int) (d : Dl), d.ce ≤ 0 ∧ d.so ≤ 0 → ch = (if x + k < (t.length : Nat) then t.getD (x + k).toNat 0 else 0) → XG g d (hL g ws) [(0, .ref hs), (1, iV x), (2, iV v), (3, iV k)] [iV ch, iV (sl32 v 8)] 34 := by
      intro ch d hd hch
      refine x_ior C dL_four_34 ?_
      refine x_istore_n (lv' := [(2, iV (or32 (sl32 v 8) ch)), (0, .ref hs), (1, iV x), (3, iV k)]) C dL_four_35 (by decide) rfl ?_
      refine x_iinc (lv' := [(3, iV (k + 1)), (2, iV (or32 (sl32 v 8) ch)), (0, .ref hs), (1, iV x)]) C 3 dL_four_36 rfl (by decide) rfl ?_
      refine x_goto (tgt := 4) C dL_four_39 (by decide) ?_
      refine XG.sub [2, 3, 1, 0] rfl ?_
      exact ih _ _ _ (by constructor <;> (try dsimp only [nx_ce, nx_so, dz_ce, dz_so]) <;> omega) (by omega) (by omega) (by rw [← hv]; show _ = fr t x n (k + 1) _; rw [← hch])
    refine x_iload_n C 3 dL_four_4 rfl ?_
    refine x_iconst C dL_four_5 ?_
    refine x_icmp_ge (tgt := 42) (P1 := some ()) (P2 := none) (z := ()) C dL_four_6 (by decide) (if_pos (by rw [ltq (by omega)] <;> omega)) (fun h => nomatch h) (fun _ => ?_)
    refine x_iload_n C 2 dL_four_9 rfl ?_
    refine x_bipush (v := 8) C dL_four_10 (by decide +kernel) ?_
    refine x_ishl C dL_four_12 ?_
    refine x_iload_n C 1 dL_four_13 rfl ?_
    refine x_iload_n C 3 dL_four_14 rfl ?_
    refine x_iadd C dL_four_15 ?_
    refine x_aload_n C 0 dL_four_16 rfl ?_
    refine x_tI (hp' := fun ws' => hL g ws') C hA hsub.rf (t_V (rm := rmv 1 20 0 0) (As := []) (rest := [iV (x + k), iV (sl32 v 8)]) C hA hR0 hsub.rf (rcSk C hq) (cs_len g.l g.G hq hq1 ht) tm_J0_length_8abf5 tl_SlabCutterLaw_8 ⟨rfl, rfl⟩ ⟨Nat.le_of_ble_eq_true rfl, Nat.le_of_ble_eq_true rfl⟩ rfl rfl (Nat.le_of_ble_eq_true rfl) (by constructor <;> (try dsimp only [nx_ce, nx_so, dz_ce, dz_so, rmv]) <;> omega) dL_four_17) (fun _ _ _ => hback.rf) (fun r ws' hp => ?_)
    obtain ⟨rfl, rfl⟩ := hp
    by_cases c : x + k < (t.length : Nat)
    · refine x_icmp_ge (tgt := 33) (P1 := some ()) (P2 := none) (z := ()) C dL_four_20 (by decide) (if_pos (by rw [ltq (by omega)] <;> omega)) (fun h => nomatch h) (fun _ => ?_)
      refine x_aload_n C 0 dL_four_23 rfl ?_
      refine x_iload_n C 1 dL_four_24 rfl ?_
      refine x_iload_n C 3 dL_four_25 rfl ?_
      refine x_iadd C dL_four_26 ?_
      refine x_tI (hp' := fun ws' => hL g ws') C hA hsub.rf (t_V (rm := rmv 3 64 0 0) (As := [iV (x + k)]) (rest := [iV (sl32 v 8)]) C hA hR0 hsub.rf (rcSk C hq) (cs_charAt g.l g.G hq hq1 ht hc h7 (x := x + k) ⟨by omega, c⟩) tm_J0_charAt_5068e tl_SlabCutterLaw_14 ⟨rfl, rfl⟩ ⟨Nat.le_of_ble_eq_true rfl, Nat.le_of_ble_eq_true rfl⟩ rfl rfl (Nat.le_of_ble_eq_true rfl) (by constructor <;> (try dsimp only [nx_ce, nx_so, dz_ce, dz_so, rmv]) <;> omega) dL_four_27) (fun _ _ _ => hback.rf) (fun r ws1 hp => ?_)
      obtain ⟨rfl, hw⟩ := hp
      subst hw
      refine x_goto (tgt := 34) C dL_four_30 (by decide) ?_
      refine XG.sub [0, 1, 2, 3] rfl ?_
      exact tail _ _ (by constructor <;> (try dsimp only [nx_ce, nx_so, dz_ce, dz_so]) <;> omega) (by rw [if_pos c])
    · refine x_icmp_ge (tgt := 33) (P1 := none) (P2 := some ()) (z := ()) C dL_four_20 (by decide) (if_neg (by rw [ltq (by omega)] <;> omega)) (fun _ => ?_) (fun h => nomatch h)
      refine x_iconst C dL_four_33 ?_
      refine XG.sub [0, 1, 2, 3] rfl ?_
      exact tail _ _ (by constructor <;> (try dsimp only [nx_ce, nx_so, dz_ce, dz_so]) <;> omega) (by rw [if_neg c])

theorem cL_four_ (l : Launch) (G : Gd) {hs hv k0 k1 : Nat} {ws : va_W} {a : Nat → Int32} {t : List Int} {x : Int} (hq : ws[k0]? = some (stc hs hv)) (hq1 : ws[k1]? = some (bya G hv t.length a)) (ht : t.length ≤ 800) (hc : bcon a t) (h7 : ∀ j, j < t.length → 0 ≤ t.getD j 0 ∧ t.getD j 0 < 128) (hx : 0 ≤ x ∧ x ≤ 2000) : mTI l yL_four cL_four 4 (some .int) (rmv 4 100 0 0) G [.ref hs, iV x] ws (fun r ws' => r = fourF t x ∧ ws' = ws) 0 0 := by
  refine met_TI [(0, .ref hs), (1, iV x)] (by decide) (Nat.le_of_ble_eq_true rfl) rfl .int rfl (fun g C S hR => ?_)
  obtain ⟨rfl, hR0, rfl, hA, hin⟩ := S
  refine x_iconst C dL_four_0 ?_
  refine x_istore_n (lv' := [(2, iV 0), (0, .ref hs), (1, iV x)]) C dL_four_1 (by decide) rfl ?_
  refine x_iconst C dL_four_2 ?_
  refine x_istore_n (lv' := [(3, iV 0), (2, iV 0), (0, .ref hs), (1, iV x)]) C dL_four_3 (by decide) rfl ?_
  refine XG.sub [2, 3, 1, 0] rfl ?_
  exact L_four C hA hR0 hq hq1 ht hc h7 hx hR 4 0 0 (dz 0 0) (by constructor <;> (try dsimp only [nx_ce, nx_so, dz_ce, dz_so]) <;> omega) (by omega) (by omega) rfl

theorem L_word {g : Cx} {G : Gd} (hG : G = g.G) (C : CX g cL_word 5 none RL) (hA : ∀ q : Nat, g.s.heap.size ≤ q → g.A q) (hR0 : g.R = rmv 6 200 8 6400) {hb : Nat} {t : List Int} {X : va_W} {n many : Int} (hn : 0 ≤ n ∧ n ≤ 200000) (hm : 1 ≤ many ∧ many ≤ 7) (ht : t.length + 8 ≤ 400) (hR : rtTV g cL_word 8 6400 (fun ws' => TXb G hb (t ++ 32 :: wlist n many.toNat) X ws')) :
    ∀ (j k : Nat) (ws' : va_W) (d : Dl), (k : Int) + j = many → TXb G hb (t ++ 32 :: wlist n k) X ws' → (d.ce + j ≤ 8 ∧ d.so + 800 * j ≤ 6400) → XG g d (hL g ws') [(0, .ref hb), (1, iV n), (3, iV many), (4, iV (k : Nat))] [] 21 := by
  subst hG
  intro j
  induction j with
  | zero =>
    intro k ws' d hk hT hd
    refine x_iload C 3 dL_word_21 rfl ?_
    refine x_iload_n C 2 dL_word_23 rfl ?_
    refine x_icmp_ge (tgt := 78) (P1 := none) (P2 := some ()) (z := ()) C dL_word_24 (by decide) (if_neg (by rw [ltq (by omega)] <;> omega)) (fun _ => ?_) (fun h => nomatch h)
    exact hR _ _ _ _ (by rw [show k = many.toNat by omega] at hT; exact hT) (by omega) (by omega) dL_word_78
  | succ j ih =>
    intro k ws' d hk hT hd
    obtain ⟨ha, m, a, rfl, b1, b2, b3, b4⟩ := hT
    have hlen : (t ++ 32 :: wlist n k).length + 1 ≤ 400 := by rw [List.length_append, List.length_cons, wlist_len]; omega
    have tail : XG g d (hL g (sbc hb ha ((t ++ 32 :: wlist n k).length : Nat) :: bya g.G ha m a :: X)) [(0, .ref hb), (1, iV n), (3, iV many), (4, iV (k : Nat))] [iV (wordL n (k : Nat)), .ref hb] 67 := by
      have hl := wordL_rng n (k : Nat)
      refine x_i2c C dL_word_67 ?_
      rw [ch16q (by omega)]
      refine x_tR (hp' := fun ws' => hL g ws') C hA hsub.rf (t_V (rm := rmv 5 165 1 800) (As := [iV (wordL n (k : Nat))]) (rest := []) C hA hR0 hsub.rf (rcB C) (ct_appC g.l g.G b3 b4 (by omega) b1 ⟨b2, hlen⟩) tm_J4_append_cf468 tl_SlabCutterLaw_47 ⟨rfl, rfl⟩ ⟨Nat.le_of_ble_eq_true rfl, Nat.le_of_ble_eq_true rfl⟩ rfl rfl (Nat.le_of_ble_eq_true rfl) (by constructor <;> (try dsimp only [nx_ce, nx_so, dz_ce, dz_so, rmv]) <;> omega) dL_word_68) (fun _ _ _ => hback.rf) (fun r ws' hp => ?_)
      obtain ⟨rfl, hT2⟩ := hp
      refine x_pop C rfl dL_word_71 ?_
      refine x_iinc (lv' := [(4, iV ((k : Nat) + 1)), (0, .ref r), (1, iV n), (3, iV many)]) C 3 dL_word_72 rfl (by decide) rfl ?_
      refine x_goto (tgt := 21) C dL_word_75 (by decide) ?_
      refine XG.sub [1, 2, 3, 0] rfl ?_
      refine ih (k + 1) ws' _ (by omega) (by rw [show t ++ 32 :: wlist n (k + 1) = (t ++ 32 :: wlist n k) ++ [wordL n k] by rw [wlist_s]; simp]; exact hT2) (by constructor <;> (try dsimp only [nx_ce, nx_so, dz_ce, dz_so, rmv]) <;> omega)
    refine x_iload C 3 dL_word_21 rfl ?_
    refine x_iload_n C 2 dL_word_23 rfl ?_
    refine x_icmp_ge (tgt := 78) (P1 := some ()) (P2 := none) (z := ()) C dL_word_24 (by decide) (if_pos (by rw [ltq (by omega)] <;> omega)) (fun h => nomatch h) (fun _ => ?_)
    by_cases c : n % 5 = 0
    · refine x_aload_n C 0 dL_word_27 rfl ?_
      refine x_iload_n C 1 dL_word_28 rfl ?_
      refine x_iconst C dL_word_29 ?_
      refine x_irem C (by decide +kernel) dL_word_30 ?_
      rw [rmq (by omega) (by omega)]
      refine x_if_ne (tgt := 52) (P1 := some ()) (P2 := none) (z := ()) C dL_word_31 (by decide) (if_pos (by rw [eqq (by omega)] <;> omega)) (fun h => nomatch h) (fun _ => ?_)
      refine x_bipush (v := 48) C dL_word_34 (by decide +kernel) ?_
      refine x_iload_n C 1 dL_word_36 rfl ?_
      refine x_bipush (v := 7) C dL_word_37 (by decide +kernel) ?_
      refine x_idiv C (by decide +kernel) dL_word_39 ?_
      rw [dvq (by omega) (by omega)]
      refine x_iconst C dL_word_40 ?_
      refine x_iload C 3 dL_word_41 rfl ?_
      refine x_imul C dL_word_43 ?_
      refine x_iadd C dL_word_44 ?_
      refine x_bipush (v := 10) C dL_word_45 (by decide +kernel) ?_
      refine x_irem C (by decide +kernel) dL_word_47 ?_
      rw [rmq (by omega) (by omega)]
      refine x_iadd C dL_word_48 ?_
      refine x_goto (tgt := 67) C dL_word_49 (by decide) ?_
      rw [show 48 + (n / 7 + 3 * ((k : Nat) : Int)) % 10 = wordL n (k : Nat) by unfold wordL; rw [if_pos c]]
      exact tail
    · refine x_aload_n C 0 dL_word_27 rfl ?_
      refine x_iload_n C 1 dL_word_28 rfl ?_
      refine x_iconst C dL_word_29 ?_
      refine x_irem C (by decide +kernel) dL_word_30 ?_
      rw [rmq (by omega) (by omega)]
      refine x_if_ne (tgt := 52) (P1 := none) (P2 := some ()) (z := ()) C dL_word_31 (by decide) (if_neg (by rw [eqq (by omega)] <;> omega)) (fun _ => ?_) (fun h => nomatch h)
      refine x_bipush (v := 97) C dL_word_52 (by decide +kernel) ?_
      refine x_iload_n C 1 dL_word_54 rfl ?_
      refine x_bipush (v := 7) C dL_word_55 (by decide +kernel) ?_
      refine x_idiv C (by decide +kernel) dL_word_57 ?_
      rw [dvq (by omega) (by omega)]
      refine x_iconst C dL_word_58 ?_
      refine x_iload C 3 dL_word_59 rfl ?_
      refine x_imul C dL_word_61 ?_
      refine x_iadd C dL_word_62 ?_
      refine x_bipush (v := 26) C dL_word_63 (by decide +kernel) ?_
      refine x_irem C (by decide +kernel) dL_word_65 ?_
      rw [rmq (by omega) (by omega)]
      refine x_iadd C dL_word_66 ?_
      rw [show 97 + (n / 7 + 5 * ((k : Nat) : Int)) % 26 = wordL n (k : Nat) by unfold wordL; rw [if_neg c]]
      exact tail

theorem cL_word_ (l : Launch) (G : Gd) {hb ha m : Nat} {a : Nat → Int32} {t : List Int} {X : va_W} {n wide : Int} (hc : bcon a t) (hf : fitB a) (h0 : t.length ≤ m) (h : m ≤ 800 ∧ t.length + 8 ≤ 400) (hn : 0 ≤ n ∧ n ≤ 200000) (hw : 1 ≤ wide ∧ wide ≤ 100) : mTV l yL_word cL_word 5 (rmv 6 200 8 6400) G [.ref hb, iV n, iV wide] (sbc hb ha (t.length : Nat) :: bya G ha m a :: X) (fun ws' => TXb G hb (t ++ wordF n wide) X ws') 8 6400 := by
  refine met_TV [(0, .ref hb), (1, iV n), (2, iV wide)] (by decide) (Nat.le_of_ble_eq_true rfl) rfl (fun g C S hR => ?_)
  obtain ⟨rfl, hR0, rfl, hA, hin⟩ := S
  refine x_iconst C dL_word_0 ?_
  refine x_iload_n C 1 dL_word_1 rfl ?_
  refine x_bipush (v := 7) C dL_word_2 (by decide +kernel) ?_
  refine x_iload_n C 2 dL_word_4 rfl ?_
  refine x_min C hR0 tl_min30 jm_min_s jm_i jm_min_c ⟨Nat.le_of_ble_eq_true rfl, Nat.le_of_ble_eq_true rfl⟩ (by rw [hR0]; exact (by constructor <;> (dsimp only [nx, dz, Dl.ce, Dl.so, rmv]; omega))) dL_word_5 ?_
  rw [mnq (by omega)]
  refine x_irem C (eqf (by omega) (by omega)) dL_word_8 ?_
  rw [rmq (by omega) (by omega)]
  refine x_iadd C dL_word_9 ?_
  have hm := manyF_rng (n := n) (wide := wide) (by omega) (by omega)
  rw [show 1 + n % min 7 wide = manyF n wide from rfl]
  refine x_istore_n (lv' := [(3, iV (manyF n wide)), (0, .ref hb), (1, iV n), (2, iV wide)]) C dL_word_10 (by decide) rfl ?_
  refine x_aload_n C 1 dL_word_11 rfl ?_
  refine x_ldcS (i := 10) (tx := " ") C (by decide +kernel) dL_word_12 ?_
  refine x_tR (hp' := fun ws' => hL g ws') C hA hsub.rf (t_V (rm := rmv 5 167 1 800) (As := [.ref (g.G.aK 10)]) (rest := []) C hA hR0 hsub.rf (rcB C) (ct_appS g.l g.G hc hf (i := 10) (by decide) h0 ⟨by omega, by show t.length + 1 ≤ 400; omega⟩) tm_J4_append_15ec4 tl_SlabCutterLaw_42 ⟨rfl, rfl⟩ ⟨Nat.le_of_ble_eq_true rfl, Nat.le_of_ble_eq_true rfl⟩ rfl rfl (Nat.le_of_ble_eq_true rfl) (by constructor <;> (try dsimp only [nx_ce, nx_so, dz_ce, dz_so, rmv]) <;> omega) dL_word_14) (fun _ _ _ => hback.rf) (fun r ws' hp => ?_)
  obtain ⟨rfl, hT⟩ := hp
  refine x_pop C rfl dL_word_17 ?_
  refine x_iconst C dL_word_18 ?_
  refine x_istore (lv' := [(4, iV 0), (3, iV (manyF n wide)), (0, .ref r), (1, iV n), (2, iV wide)]) C dL_word_19 (by decide) rfl ?_
  refine XG.sub [2, 3, 1, 0] rfl ?_
  exact L_word rfl C hA hR0 hn ⟨hm.1, hm.2.1⟩ (by omega) hR (manyF n wide).toNat 0 ws' _ (by omega) hT (by constructor <;> (try dsimp only [nx_ce, nx_so, dz_ce, dz_so, rmv]) <;> omega)

