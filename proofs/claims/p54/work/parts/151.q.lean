/-! ===== the law's load and act: rows over the class's world with a text beside it ===== -/
section Y7
variable {g : Cx} {na : Nat} {ad : Nat → Nat} {ce so : Nat} {cc : ByteArray} {nL : Nat} {ret : Option FieldType} {own : String} {w : Wd} {es : va_W} {lv : List (Nat × Value)} {st : List Value} {pc : Nat}
theorem y_tV (C : CX g cc nL ret own) (hA : ∀ q : Nat, g.s.heap.size ≤ q → g.A q) {rest stk : List Value} {post : va_W → Prop} {a : Array Value} {mc ms : Nat} (run : RunT g (na, ad, ce, so) (hY g (na, ad, ce, so) w es) es nL pc stk rest (QTV g.G es post) a mc ms)
    (k' : ∀ (ws' : va_W) (c1 s1 : Nat), post ws' → c1 = ce + mc → s1 = so + ms → XG g (na, ad, c1, s1) (hY g (na, ad, c1, s1) w ws') lv rest (pc + 3)) : XG g (na, ad, ce, so) (hY g (na, ad, ce, so) w es) lv stk pc :=
  x_tV C hA hY.sub (hp' := fun ws' => hY g (na, ad, ce, so) w ws') run (fun _ _ => hY.back) (fun ws' hp => k' ws' (ce + mc) (so + ms) hp rfl rfl)
theorem y_tI (C : CX g cc nL ret own) (hA : ∀ q : Nat, g.s.heap.size ≤ q → g.A q) {rest stk : List Value} {post : Int → va_W → Prop} {a : Array Value} {mc ms : Nat} (run : RunT g (na, ad, ce, so) (hY g (na, ad, ce, so) w es) es nL pc stk rest (QTI g.G es post) a mc ms)
    (k' : ∀ (r : Int) (ws' : va_W) (c1 s1 : Nat), post r ws' → c1 = ce + mc → s1 = so + ms → XG g (na, ad, c1, s1) (hY g (na, ad, c1, s1) w ws') lv (iV r :: rest) (pc + 3)) : XG g (na, ad, ce, so) (hY g (na, ad, ce, so) w es) lv stk pc :=
  x_tI C hA hY.sub (hp' := fun ws' => hY g (na, ad, ce, so) w ws') run (fun _ _ _ => hY.back) (fun r ws' hp => k' r ws' (ce + mc) (so + ms) hp rfl rfl)
theorem y_tR (C : CX g cc nL ret own) (hA : ∀ q : Nat, g.s.heap.size ≤ q → g.A q) {rest stk : List Value} {post : Nat → va_W → Prop} {a : Array Value} {mc ms : Nat} (run : RunT g (na, ad, ce, so) (hY g (na, ad, ce, so) w es) es nL pc stk rest (QTR g.G es post) a mc ms)
    (k' : ∀ (r : Nat) (ws' : va_W) (c1 s1 : Nat), post r ws' → c1 = ce + mc → s1 = so + ms → XG g (na, ad, c1, s1) (hY g (na, ad, c1, s1) w ws') lv (.ref r :: rest) (pc + 3)) : XG g (na, ad, ce, so) (hY g (na, ad, ce, so) w es) lv stk pc :=
  x_tR C hA hY.sub (hp' := fun ws' => hY g (na, ad, ce, so) w ws') run (fun _ _ _ => hY.back) (fun r ws' hp => k' r ws' (ce + mc) (so + ms) hp rfl rfl)
theorem y_sub {es' : va_W} {d : Dl} (he : ∃ zs, (es' ++ zs).Perm es) (k : XG g d (hY g d w es') lv st pc) : XG g d (hY g d w es) lv st pc := x_hL (fun _ h => hY.sub' h he) k
theorem y_new (C : CX g cc nL ret own) {rmO : Room} (hA : ∀ q : Nat, g.s.heap.size ≤ q → g.A q) (hR0 : g.R = rmO) {ci index : Nat} {Cn : String} {T : u_T} {ty : Nat → FieldType} {fs : List Value} (hc : clsW ci Cn T ty) (hwd : Cond.classLink own index Cn ∈ lw_tg ∧ Cond.instantiable Cn (nf ci) ∈ lw_tg ∧ Cond.initialized Cn ∈ lw_tg) (hfs : ∀ j, j < nf ci → defaultValue (ty j) = vp_V fs j) {k : Nat} (hk : nf ci = k) (hce : ce + 1 ≤ rmO.cells ∧ so + k ≤ rmO.slots) (dg : decode cc pc = .ok (.new index, 3))
    (k' : ∀ (q c1 s1 : Nat), c1 = ce + 1 → s1 = so + k → XG g (na, ad, c1, s1) (hY g (na, ad, c1, s1) w (es ++ [(q, .inr (ci, fs))])) lv (.ref q :: st) (pc + 3)) : XG g (na, ad, ce, so) (hY g (na, ad, ce, so) w es) lv st pc := by
  subst hk
  refine XG.ok (fun hok => ?_)
  refine x_hL (hp' := hL g (hw g.G 0 na ad w ++ es)) (fun H h => ⟨h.1, h.2.1⟩) ?_
  refine x_nnew (d1 := (na, ad, ce + 1, so + nf ci)) C hA hR0 hc hwd hfs hce rfl dg (fun q => ?_)
  refine x_hL (fun H h => ?_) (k' q (ce + 1) (so + nf ci) rfl rfl)
  rw [List.append_assoc] at h
  exact ⟨h.1, h.2, hok⟩
theorem rcYb (C : CX g cc nL ret own) {d : Dl} {hb : Nat} {fs : List Value} {X : va_W} : ∀ (H : Heap) (locs : List Loc), hY g d w ((hb, .inr (11, fs)) :: X) H → va_S g.A g.s.heap H locs → ∃ cell : Cell, H[hb]? = some cell ∧ cell.vm.isStatics = false ∧ g.s.vm.findClass "java/lang/StringBuilder" = some cell.cls :=
  fun H locs h1 h2 => va_recv (q0 := 0) (ci := 11) (q := (RJ4, TJ4, 4)) C.K h1.e.1 rfl rfl
end Y7
theorem app_le {t s : List Int} {a b : Nat} (h : t.length ≤ a) (h2 : s.length ≤ b) : (t ++ s).length ≤ a + b := by rw [List.length_append]; omega
theorem digs_le (v : Int) : (digs v).length ≤ 2 := by rw [digs_len]; split <;> omega
theorem ctx_le : (ctx 9).length ≤ 5 ∧ (ctx 10).length ≤ 1 ∧ (ctx 1).length ≤ 1 ∧ (ctx 11).length ≤ 5 ∧ (ctx 12).length ≤ 4 ∧ (ctx 13).length ≤ 7 ∧ (ctx 6).length ≤ 5 ∧ (ctx 7).length ≤ 5 ∧ (ctx 8).length ≤ 5 := by decide +kernel
theorem wordF_le (n wide : Int) (h : 0 ≤ n) (hw : 1 ≤ wide) : (wordF n wide).length ≤ 8 := by
  have := manyF_rng h hw
  unfold wordF
  rw [List.length_cons, wlist_len]
  omega
theorem drw_rng {xs : Nat → Int32} {L : Nat} {k n : Int} (hn : 0 < n ∧ n < 2147483648) : 0 ≤ drw xs L k n ∧ drw xs L k n < n := by
  unfold drw
  have h0 : ∀ v : Int, 0 ≤ an32 v 2147483647 ∧ an32 v 2147483647 < 2147483648 := by
    intro v
    unfold an32
    have h1 : (Int32.ofInt v &&& Int32.ofInt 2147483647).toInt = (((Int32.ofInt v &&& Int32.ofInt 2147483647).toBitVec.toNat : Nat) : Int) := by
      have hm : (Int32.ofInt v &&& Int32.ofInt 2147483647).toBitVec.toNat < 2147483648 := by
        rw [Int32.toBitVec_and, BitVec.toNat_and]
        refine Nat.lt_of_le_of_lt Nat.and_le_right ?_
        decide +kernel
      show (Int32.ofInt v &&& Int32.ofInt 2147483647).toBitVec.toInt = _
      rw [BitVec.toInt_eq_toNat_of_lt (by omega)]
    have hm : (Int32.ofInt v &&& Int32.ofInt 2147483647).toBitVec.toNat < 2147483648 := by
      rw [Int32.toBitVec_and, BitVec.toNat_and]
      refine Nat.lt_of_le_of_lt Nat.and_le_right ?_
      decide +kernel
    omega
  rw [rmq (h0 _) hn]
  exact ⟨Int.emod_nonneg _ (by omega), Int.emod_lt_of_pos _ hn.1⟩
theorem tm_L_four : mfS yL_four cL_four 4 (some .int) 2 := ⟨in_tg 767 (by decide +kernel) rfl, in_tg 33 (by decide +kernel) rfl, in_tg 768 (by decide +kernel) rfl, by decide +kernel, by decide +kernel, by decide +kernel⟩
theorem tl_SlabCutterLaw_18 : Cond.methodLink "SlabCutterLaw" 18 yL_four ∈ lw_tg := in_tg 766 (by decide +kernel) rfl
theorem tl_SlabCutterLaw_24 : Cond.methodLink "SlabCutterLaw" 24 yX8_append ∈ lw_tg := in_tg 784 (by decide +kernel) rfl
theorem tl_SlabCutterLaw_36 : Cond.methodLink "SlabCutterLaw" 36 yX8_truncate ∈ lw_tg := in_tg 815 (by decide +kernel) rfl
theorem mf_X8_append : mfV yX8_append cX8_append 6 (some .int) 5 := ⟨in_tg 785 (by decide +kernel) rfl, in_tg 786 (by decide +kernel) rfl, in_tg 34 (by decide +kernel) rfl, in_tg 787 (by decide +kernel) rfl, by decide +kernel, by decide +kernel, by decide +kernel⟩
theorem mf_X8_truncate : mfV yX8_truncate cX8_truncate 2 none 1 := ⟨in_tg 816 (by decide +kernel) rfl, in_tg 817 (by decide +kernel) rfl, in_tg 34 (by decide +kernel) rfl, in_tg 818 (by decide +kernel) rfl, by decide +kernel, by decide +kernel, by decide +kernel⟩
theorem L_feed {g : Cx} (C : CX g cL_feed 4 none RL) (hA : ∀ q : Nat, g.s.heap.size ≤ q → g.A q) (hR0 : g.R = rmv 7 250 0 0) {na : Nat} {ad : Nat → Nat} {hs hv k0 k1 : Nat} {es : va_W} {a : Nat → Int32} {t : List Int} {w' : Wd} (hq : es[k0]? = some (stc hs hv)) (hq1 : es[k1]? = some (bya g.G hv t.length a)) (ht : t.length ≤ 400) (hc : bcon a t) (h7 : ∀ j, j < t.length → 0 ≤ t.getD j 0 ∧ t.getD j 0 < 128) :
    ∀ (n : Nat) (k last : Int) (w : Wd), (0 ≤ k ∧ k ≤ 420) → fedF t n k last w = some w' → rtTV g cL_feed 0 0 (fun ws' => ws' = hw g.G 0 na ad w' ++ es ∧ okW na w') → XG g (na, ad, 0, 0) (hY g (na, ad, 0, 0) w es) [(0, .ref (ad 1)), (1, .ref hs), (2, iV last), (3, iV k)] [] 4 := by
  have ht8 : t.length ≤ 800 := by omega
  intro n
  induction n with
  | zero => intro k last w hk hf hR; exact nomatch (show none = some _ from hf)
  | succ n ih =>
    intro k last w hk hf hR
    have go : (k < (t.length : Nat) ∨ k = 0) → XG g (na, ad, 0, 0) (hY g (na, ad, 0, 0) w es) [(0, .ref (ad 1)), (1, .ref hs), (2, iV last), (3, iV k)] [] 16 := by
      intro c
      replace hf : (p_Y8_append (fourF t k) (fourF t (k + 4)) (fourF t (k + 8)) (fourF t (k + 12)) (fourF t (k + 16)) w).bind (fun z => fedF t n (k + 20) z.1 z.2) = some w' := by
        have h := hf
        unfold fedF at h
        rw [if_pos c] at h
        exact h
      refine x_aload_n C 0 dL_feed_16 rfl ?_
      refine x_aload_n C 1 dL_feed_17 rfl ?_
      refine x_iload_n C 3 dL_feed_18 rfl ?_
      refine y_tI C hA (t_S (rm := rmv 4 100 0 0) (As := [.ref hs, iV (k)]) (rest := [.ref (ad 1)]) C hA hR0 hY.sub (cL_four_ g.l g.G hq hq1 ht8 hc h7 (x := k) (by omega)) tm_L_four tl_SlabCutterLaw_18 ⟨rfl, rfl⟩ ⟨Nat.le_of_ble_eq_true rfl, Nat.le_of_ble_eq_true rfl⟩ rfl rfl (Nat.le_of_ble_eq_true rfl) ⟨Nat.zero_le _, Nat.zero_le _⟩ dL_feed_19) (fun r ws' c1 s1 hp e1 e2 => ?_)
      obtain ⟨rfl, rfl⟩ := hp
      cases e1; cases e2
      refine x_aload_n C 1 dL_feed_22 rfl ?_
      refine x_iload_n C 3 dL_feed_23 rfl ?_
      refine x_iconst C dL_feed_24 ?_
      refine x_iadd C dL_feed_25 ?_
      refine y_tI C hA (t_S (rm := rmv 4 100 0 0) (As := [.ref hs, iV (k + 4)]) (rest := [iV (fourF t (k)), .ref (ad 1)]) C hA hR0 hY.sub (cL_four_ g.l g.G hq hq1 ht8 hc h7 (x := k + 4) (by omega)) tm_L_four tl_SlabCutterLaw_18 ⟨rfl, rfl⟩ ⟨Nat.le_of_ble_eq_true rfl, Nat.le_of_ble_eq_true rfl⟩ rfl rfl (Nat.le_of_ble_eq_true rfl) ⟨Nat.zero_le _, Nat.zero_le _⟩ dL_feed_26) (fun r ws' c1 s1 hp e1 e2 => ?_)
      obtain ⟨rfl, rfl⟩ := hp
      cases e1; cases e2
      refine x_aload_n C 1 dL_feed_29 rfl ?_
      refine x_iload_n C 3 dL_feed_30 rfl ?_
      refine x_bipush (v := 8) C dL_feed_31 (by decide +kernel) ?_
      refine x_iadd C dL_feed_33 ?_
      refine y_tI C hA (t_S (rm := rmv 4 100 0 0) (As := [.ref hs, iV (k + 8)]) (rest := [iV (fourF t (k + 4)), iV (fourF t (k)), .ref (ad 1)]) C hA hR0 hY.sub (cL_four_ g.l g.G hq hq1 ht8 hc h7 (x := k + 8) (by omega)) tm_L_four tl_SlabCutterLaw_18 ⟨rfl, rfl⟩ ⟨Nat.le_of_ble_eq_true rfl, Nat.le_of_ble_eq_true rfl⟩ rfl rfl (Nat.le_of_ble_eq_true rfl) ⟨Nat.zero_le _, Nat.zero_le _⟩ dL_feed_34) (fun r ws' c1 s1 hp e1 e2 => ?_)
      obtain ⟨rfl, rfl⟩ := hp
      cases e1; cases e2
      refine x_aload_n C 1 dL_feed_37 rfl ?_
      refine x_iload_n C 3 dL_feed_38 rfl ?_
      refine x_bipush (v := 12) C dL_feed_39 (by decide +kernel) ?_
      refine x_iadd C dL_feed_41 ?_
      refine y_tI C hA (t_S (rm := rmv 4 100 0 0) (As := [.ref hs, iV (k + 12)]) (rest := [iV (fourF t (k + 8)), iV (fourF t (k + 4)), iV (fourF t (k)), .ref (ad 1)]) C hA hR0 hY.sub (cL_four_ g.l g.G hq hq1 ht8 hc h7 (x := k + 12) (by omega)) tm_L_four tl_SlabCutterLaw_18 ⟨rfl, rfl⟩ ⟨Nat.le_of_ble_eq_true rfl, Nat.le_of_ble_eq_true rfl⟩ rfl rfl (Nat.le_of_ble_eq_true rfl) ⟨Nat.zero_le _, Nat.zero_le _⟩ dL_feed_42) (fun r ws' c1 s1 hp e1 e2 => ?_)
      obtain ⟨rfl, rfl⟩ := hp
      cases e1; cases e2
      refine x_aload_n C 1 dL_feed_45 rfl ?_
      refine x_iload_n C 3 dL_feed_46 rfl ?_
      refine x_bipush (v := 16) C dL_feed_47 (by decide +kernel) ?_
      refine x_iadd C dL_feed_49 ?_
      refine y_tI C hA (t_S (rm := rmv 4 100 0 0) (As := [.ref hs, iV (k + 16)]) (rest := [iV (fourF t (k + 12)), iV (fourF t (k + 8)), iV (fourF t (k + 4)), iV (fourF t (k)), .ref (ad 1)]) C hA hR0 hY.sub (cL_four_ g.l g.G hq hq1 ht8 hc h7 (x := k + 16) (by omega)) tm_L_four tl_SlabCutterLaw_18 ⟨rfl, rfl⟩ ⟨Nat.le_of_ble_eq_true rfl, Nat.le_of_ble_eq_true rfl⟩ rfl rfl (Nat.le_of_ble_eq_true rfl) ⟨Nat.zero_le _, Nat.zero_le _⟩ dL_feed_50) (fun r ws' c1 s1 hp e1 e2 => ?_)
      obtain ⟨rfl, rfl⟩ := hp
      cases e1; cases e2
      refine q_cI (K := 9) (o := 1) (d := (na, ad, 0, 0)) (rm := rmv 6 89 0 0) (As := [iV (fourF t k), iV (fourF t (k + 4)), iV (fourF t (k + 8)), iV (fourF t (k + 12)), iV (fourF t (k + 16))]) (rest := []) (pv := p_Y8_append (fourF t k) (fourF t (k + 4)) (fourF t (k + 8)) (fourF t (k + 12)) (fourF t (k + 16)) w) (Kt := fun z => fedF t n (k + 20) z.1 z.2) C hA hR0 mf_X8_append tl_SlabCutterLaw_24 rfl ⟨rfl, rfl⟩ (by decide) ⟨rfl, rfl⟩ ⟨Nat.le_of_ble_eq_true rfl, Nat.le_of_ble_eq_true rfl⟩ rfl rfl (Nat.le_of_ble_eq_true rfl) ⟨Nat.zero_le _, Nat.zero_le _⟩ dL_feed_53 hf (fun _ _ h => c_Y8_append g.l g.G rfl h) (fun r w1 _ hf => ?_)
      refine x_istore_n (lv' := [(2, iV r), (0, .ref (ad 1)), (1, .ref hs), (3, iV k)]) C dL_feed_56 (by decide) rfl ?_
      refine x_iinc (lv' := [(3, iV (k + 20)), (2, iV r), (0, .ref (ad 1)), (1, .ref hs)]) C 3 dL_feed_57 rfl (by decide) rfl ?_
      refine x_goto (tgt := 4) C dL_feed_60 (by decide) ?_
      refine XG.sub [2, 3, 1, 0] rfl ?_
      exact ih _ _ _ (by omega) hf hR
    refine x_iload_n C 3 dL_feed_4 rfl ?_
    refine x_aload_n C 1 dL_feed_5 rfl ?_
    refine y_tI C hA (t_V (rm := rmv 1 20 0 0) (As := []) (rest := [iV k]) C hA hR0 hY.sub (rcYk C hq) (cs_len g.l g.G hq hq1 ht8) tm_J0_length_8abf5 tl_SlabCutterLaw_8 ⟨rfl, rfl⟩ ⟨Nat.le_of_ble_eq_true rfl, Nat.le_of_ble_eq_true rfl⟩ rfl rfl (Nat.le_of_ble_eq_true rfl) ⟨Nat.zero_le _, Nat.zero_le _⟩ dL_feed_6) (fun r ws' c1 s1 hp e1 e2 => ?_)
    obtain ⟨rfl, rfl⟩ := hp
    cases e1; cases e2
    by_cases c : k < (t.length : Nat)
    · refine x_icmp_lt (tgt := 16) (P1 := some ()) (P2 := none) (z := ()) C dL_feed_9 (by decide) (if_pos (by rw [ltq (by omega)] <;> omega)) (fun _ => ?_) (fun h => nomatch h)
      exact go (Or.inl c)
    · refine x_icmp_lt (tgt := 16) (P1 := none) (P2 := some ()) (z := ()) C dL_feed_9 (by decide) (if_neg (by rw [ltq (by omega)] <;> omega)) (fun h => nomatch h) (fun _ => ?_)
      refine x_iload_n C 3 dL_feed_12 rfl ?_
      by_cases c2 : k = 0
      · refine x_if_ne (tgt := 63) (P1 := some ()) (P2 := none) (z := ()) C dL_feed_13 (by decide) (if_pos (by rw [eqq (by omega)] <;> omega)) (fun h => nomatch h) (fun _ => ?_)
        exact go (Or.inr c2)
      · refine x_if_ne (tgt := 63) (P1 := none) (P2 := some ()) (z := ()) C dL_feed_13 (by decide) (if_neg (by rw [eqq (by omega)] <;> omega)) (fun _ => ?_) (fun h => nomatch h)
        replace hf : p_Y8_truncate (mn32 last (t.length : Nat)) w = some w' := by
          have h := hf
          unfold fedF at h
          rw [if_neg (by omega)] at h
          exact h
        refine x_aload_n C 0 dL_feed_63 rfl ?_
        refine x_iload_n C 2 dL_feed_64 rfl ?_
        refine x_aload_n C 1 dL_feed_65 rfl ?_
        refine y_tI C hA (t_V (rm := rmv 1 20 0 0) (As := []) (rest := [iV last, .ref (ad 1)]) C hA hR0 hY.sub (rcYk C hq) (cs_len g.l g.G hq hq1 ht8) tm_J0_length_8abf5 tl_SlabCutterLaw_8 ⟨rfl, rfl⟩ ⟨Nat.le_of_ble_eq_true rfl, Nat.le_of_ble_eq_true rfl⟩ rfl rfl (Nat.le_of_ble_eq_true rfl) ⟨Nat.zero_le _, Nat.zero_le _⟩ dL_feed_66) (fun r ws' c1 s1 hp e1 e2 => ?_)
        obtain ⟨rfl, rfl⟩ := hp
        cases e1; cases e2
        refine x_min C hR0 tl_min30 jm_min_s jm_i jm_min_c ⟨Nat.le_of_ble_eq_true rfl, Nat.le_of_ble_eq_true rfl⟩ ⟨Nat.zero_le _, Nat.zero_le _⟩ dL_feed_69 ?_
        refine q_cV (K := 9) (o := 1) (d := (na, ad, 0, 0)) (rm := rmv 6 89 0 0) (As := [iV (mn32 last (t.length : Nat))]) (rest := []) (pv := p_Y8_truncate (mn32 last (t.length : Nat)) w) (Kt := some) (res := w') C hA hR0 mf_X8_truncate tl_SlabCutterLaw_36 rfl ⟨rfl, rfl⟩ (by decide) ⟨rfl, rfl⟩ ⟨Nat.le_of_ble_eq_true rfl, Nat.le_of_ble_eq_true rfl⟩ rfl rfl (Nat.le_of_ble_eq_true rfl) ⟨Nat.zero_le _, Nat.zero_le _⟩ dL_feed_72 (by rw [hf]; rfl) (fun _ h => c_Y8_truncate g.l g.G rfl h) (fun w1 _ e => ?_)
        cases e
        refine XG.ok (fun hok => ?_)
        exact x_hL (hY.sub2) (hR (na, ad, 0, 0) _ _ _ ⟨rfl, hok⟩ (Nat.le_refl 0) (Nat.le_refl 0) dL_feed_75)

theorem cL_feed_ (l : Launch) (G : Gd) {na : Nat} {ad : Nat → Nat} {hs hv k0 k1 : Nat} {es : va_W} {a : Nat → Int32} {t : List Int} {w w' : Wd} (hok : okW na w) (hq : es[k0]? = some (stc hs hv)) (hq1 : es[k1]? = some (bya G hv t.length a)) (ht : t.length ≤ 400) (hc : bcon a t) (h7 : ∀ j, j < t.length → 0 ≤ t.getD j 0 ∧ t.getD j 0 < 128) {n : Nat} (hf : fedF t n 0 0 w = some w') : mTV l yL_feed cL_feed 4 (rmv 7 250 0 0) G [.ref (ad 1), .ref hs] (hw G 0 na ad w ++ es) (fun ws' => ws' = hw G 0 na ad w' ++ es ∧ okW na w') 0 0 := by
  refine met_TV [(0, .ref (ad 1)), (1, .ref hs)] (by decide) (Nat.le_of_ble_eq_true rfl) rfl (fun g C S hR => ?_)
  obtain ⟨rfl, hR0, rfl, hA, hin⟩ := S
  refine XG.dn (d := (na, ad, 0, 0)) ?_ rfl rfl
  refine x_hL (hp' := hY g (na, ad, 0, 0) w es) (fun H h => ⟨h.1, h.2, hok⟩) ?_
  refine x_iconst C dL_feed_0 ?_
  refine x_istore_n (lv' := [(2, iV 0), (0, .ref (ad 1)), (1, .ref hs)]) C dL_feed_1 (by decide) rfl ?_
  refine x_iconst C dL_feed_2 ?_
  refine x_istore_n (lv' := [(3, iV 0), (2, iV 0), (0, .ref (ad 1)), (1, .ref hs)]) C dL_feed_3 (by decide) rfl ?_
  refine XG.sub [2, 3, 1, 0] rfl ?_
  exact L_feed C hA hR0 hq hq1 ht hc h7 n 0 0 w (by omega) hf hR

