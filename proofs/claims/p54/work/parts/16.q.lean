/-! ===== the law's load: the text that it builds, and its walk ===== -/
def wideF (xs : Nat → Int32) (L : Nat) : Int := 4 + drw xs L 0 21
def highF (xs : Nat → Int32) (L : Nat) : Int := 2 + drw xs L 1 11
def tol (xs : Nat → Int32) (L : Nat) (wh cell : Int) : Nat → Bool
  | 0 => false
  | i + 1 => tol xs L wh cell i || decide (drw xs L (3 + (i : Nat)) wh = cell)
def flwC (wide cell : Int) : List Int := ctx 11 ++ digs (cell % wide) ++ ctx 10 ++ digs (cell / wide) ++ ctx 1
def flwT (xs : Nat → Int32) (L : Nat) (wide wh : Int) : Nat → List Int
  | 0 => []
  | k + 1 => if tol xs L wh (drw xs L (3 + (k : Nat)) wh) k = true then flwT xs L wide wh k else flwT xs L wide wh k ++ flwC wide (drw xs L (3 + (k : Nat)) wh)
def flwN (xs : Nat → Int32) (L : Nat) (wh : Int) : Nat → Int
  | 0 => 0
  | k + 1 => if tol xs L wh (drw xs L (3 + (k : Nat)) wh) k = true then flwN xs L wh k else flwN xs L wh k + 1
def wrdT (xs : Nat → Int32) (L : Nat) (wide p : Int) : Nat → List Int
  | 0 => []
  | i + 1 => wrdT xs L wide p i ++ wordF (drw xs L (26 + 5 * p + (i : Nat)) 10000) wide
def kndI (k : Int) : Nat := if k = 0 then 6 else if k = 1 then 7 else 8
def itsN (xs : Nat → Int32) (L : Nat) (p : Int) : Int := 1 + drw xs L (18 + p) 5
def prtT (xs : Nat → Int32) (L : Nat) (wide : Int) : Nat → List Int
  | 0 => []
  | p + 1 => prtT xs L wide p ++ (ctx (kndI (drw xs L (22 + (p : Nat)) 3)) ++ wrdT xs L wide (p : Nat) (itsN xs L (p : Nat)).toNat ++ ctx 1)
def prtN (xs : Nat → Int32) (L : Nat) : Nat → Int
  | 0 => 0
  | p + 1 => prtN xs L p + itsN xs L (p : Nat)
def hdT (wide high : Int) : List Int := ctx 9 ++ digs wide ++ ctx 10 ++ digs high ++ ctx 1
def gapT (xs : Nat → Int32) (L : Nat) : List Int := if drw xs L 13 2 = 0 then ctx 12 ++ digs (drw xs L 12 4) ++ ctx 1 else []
def chiT (xs : Nat → Int32) (L : Nat) : List Int := if drw xs L 16 2 = 0 then ctx 13 ++ digs (1 + drw xs L 14 40) ++ ctx 10 ++ digs (drw xs L 15 100) ++ ctx 1 else []
def loadT (xs : Nat → Int32) (L : Nat) : List Int := hdT (wideF xs L) (highF xs L) ++ flwT xs L (wideF xs L) (wideF xs L * highF xs L) (drw xs L 2 9).toNat ++ gapT xs L ++ chiT xs L ++ prtT xs L (wideF xs L) (drw xs L 17 4).toNat
theorem flwT_le (xs : Nat → Int32) (L : Nat) (wide wh : Int) : ∀ k, (flwT xs L wide wh k).length ≤ 11 * k := by
  intro k
  induction k with
  | zero => exact Nat.le_refl _
  | succ k ih =>
    unfold flwT
    split
    · omega
    · refine Nat.le_trans (app_le ih (b := 11) ?_) (by omega)
      unfold flwC
      exact app_le (a := 10) (b := 1) (app_le (a := 8) (b := 2) (app_le (a := 7) (b := 1) (app_le (a := 5) (b := 2) ctx_le.2.2.2.1 (digs_le _)) ctx_le.2.1) (digs_le _)) ctx_le.2.2.1
theorem wrdT_le (xs : Nat → Int32) (L : Nat) {wide p : Int} (hw : 1 ≤ wide) : ∀ k, (wrdT xs L wide p k).length ≤ 8 * k := by
  intro k
  induction k with
  | zero => exact Nat.le_refl _
  | succ k ih =>
    unfold wrdT
    exact Nat.le_trans (app_le ih (wordF_le _ _ (drw_rng (by decide)).1 hw)) (by omega)
theorem kndI_le (k : Int) : (ctx (kndI k)).length ≤ 5 ∧ kndI k < 14 ∧ slen (kndI k) ≤ 5 := by
  unfold kndI
  split
  · decide +kernel
  · split <;> decide +kernel
theorem wh_rng {a b : Int} (h : 0 ≤ a ∧ a < 21) (h2 : 0 ≤ b ∧ b < 11) : 8 ≤ (4 + a) * (2 + b) ∧ (4 + a) * (2 + b) ≤ 288 := by
  obtain ⟨n, rfl⟩ : ∃ n : Nat, a = (n : Int) := ⟨a.toNat, by omega⟩
  obtain ⟨m, rfl⟩ : ∃ m : Nat, b = (m : Int) := ⟨b.toNat, by omega⟩
  exact (by decide +kernel : ∀ n : Nat, n < 21 → ∀ m : Nat, m < 11 → 8 ≤ (4 + (n : Int)) * (2 + (m : Int)) ∧ (4 + (n : Int)) * (2 + (m : Int)) ≤ 288) n (by omega) m (by omega)
theorem or_b (a b : Bool) : or32 (if a = true then 1 else 0) (if b = true then 1 else 0) = (if (a || b) = true then 1 else 0) := by cases a <;> cases b <;> decide +kernel
theorem eqt {a b : Int} (h : -2147483648 ≤ a ∧ a < 2147483648 ∧ -2147483648 ≤ b ∧ b < 2147483648) (c : a = b) : eq32 a b = true := (eqq h).mpr c
theorem eqn {a b : Int} (h : -2147483648 ≤ a ∧ a < 2147483648 ∧ -2147483648 ≤ b ∧ b < 2147483648) (c : a ≠ b) : ¬ eq32 a b = true := fun e => c ((eqq h).mp e)
theorem tol_t {xs : Nat → Int32} {L : Nat} {wh cell : Int} {i : Nat} (c : drw xs L (3 + (i : Nat)) wh = cell) : or32 (if tol xs L wh cell i = true then 1 else 0) 1 = (if tol xs L wh cell (i + 1) = true then 1 else 0) := by
  have e : tol xs L wh cell (i + 1) = true := by
    show (tol xs L wh cell i || decide (_)) = true
    rw [decide_eq_true c, Bool.or_true]
  rw [if_pos e]; cases tol xs L wh cell i <;> decide +kernel
theorem tol_f {xs : Nat → Int32} {L : Nat} {wh cell : Int} {i : Nat} (c : ¬ drw xs L (3 + (i : Nat)) wh = cell) : or32 (if tol xs L wh cell i = true then 1 else 0) 0 = (if tol xs L wh cell (i + 1) = true then 1 else 0) := by
  have e : tol xs L wh cell (i + 1) = tol xs L wh cell i := by
    show (tol xs L wh cell i || decide (_)) = _
    rw [decide_eq_false c, Bool.or_false]
  rw [e]; cases tol xs L wh cell i <;> decide +kernel
theorem rg1 {a n : Int} (h : 0 ≤ a ∧ a < n) (hn : n ≤ 100000) : 0 ≤ a ∧ a < 100000 := by omega
theorem rgi {a n : Int} (h : 0 ≤ a ∧ a < n) (hn : n ≤ 100000) : 0 ≤ a ∧ a < 2147483648 := by omega
theorem rg2 {a b n : Int} (h : 0 ≤ a ∧ a < n) (hn : n ≤ 100000) (hb : 0 ≤ b ∧ b < 100000) : -2147483648 ≤ a ∧ a < 2147483648 ∧ -2147483648 ≤ b ∧ b < 2147483648 := by omega
theorem mdR {a w : Int} (hw : 4 ≤ w ∧ w ≤ 24) : 0 ≤ a % w ∧ a % w < 100 := ⟨Int.emod_nonneg _ (by omega), by have := Int.emod_lt_of_pos a (b := w) (by omega); omega⟩
theorem dvR {a w n : Int} (h : 0 ≤ a ∧ a < n) (hn : n ≤ 288) (hw : 4 ≤ w ∧ w ≤ 24) : 0 ≤ a / w ∧ a / w < 100 := ⟨Int.ediv_nonneg h.1 (by omega), Int.ediv_lt_of_lt_mul (by omega) (by omega)⟩
theorem itsR {a : Int} (h : 0 ≤ a ∧ a < 5) : 1 ≤ 1 + a ∧ 1 + a ≤ 5 := by omega
def EqI (a b : Int) : Prop := a = b
theorem natR {a : Int} (h : 1 ≤ a ∧ a ≤ 5) : ∃ mi : Nat, EqI a (mi : Int) ∧ 1 ≤ mi ∧ mi ≤ 5 := ⟨a.toNat, (by omega : a = _), by omega, by omega⟩
theorem rg3 {a n : Int} (h : 0 ≤ a ∧ a < n) (hn : n ≤ 100000) : 0 ≤ a ∧ a ≤ 200000 := by omega
/-- what stands fixed throughout a walk of the law's own methods -/
def SX (g : Cx) (na : Nat) (ad : Nat → Nat) (b L : Nat) (xs : Nat → Int32) (rm : Room) : Prop :=
  (∀ q : Nat, g.s.heap.size ≤ q → g.A q) ∧ g.R = rm ∧ va_X b L xs g.s g.s.heap ∧ b < g.s.heap.size ∧ ¬ g.A b ∧ L ≤ 260
theorem tl_SlabCutterLaw_50 : Cond.methodLink "SlabCutterLaw" 50 yL_draw ∈ lw_tg := in_tg 483 (by decide +kernel) rfl
theorem tm_J4_append_bf812 : mfV yJ4_append_bf812 cJ4_append_bf812 2 (some (.object "java/lang/StringBuilder")) 1 := ⟨in_tg 643 (by decide +kernel) rfl, in_tg 644 (by decide +kernel) rfl, in_tg 44 (by decide +kernel) rfl, in_tg 645 (by decide +kernel) rfl, by decide +kernel, by decide +kernel, by decide +kernel⟩
theorem tl_SlabCutterLaw_59 : Cond.methodLink "SlabCutterLaw" 59 yJ4_append_bf812 ∈ lw_tg := in_tg 642 (by decide +kernel) rfl
theorem tm_L_word : mfS yL_word cL_word 5 none 3 := ⟨in_tg 677 (by decide +kernel) rfl, in_tg 33 (by decide +kernel) rfl, in_tg 678 (by decide +kernel) rfl, by decide +kernel, by decide +kernel, by decide +kernel⟩
theorem tl_SlabCutterLaw_76 : Cond.methodLink "SlabCutterLaw" 76 yL_word ∈ lw_tg := in_tg 676 (by decide +kernel) rfl
theorem L_told {g : Cx} (C : CX g cL_load 16 (some .boolean) RL) {na : Nat} {ad : Nat → Nat} {b L : Nat} {xs : Nat → Int32} (hS : SX g na ad b L xs (rmv 12 420 250 200000)) {w : Wd} {ce so : Nat} {es : va_W} {hb k : Nat} {wide high many fl cell : Int} (hwh : 8 ≤ wide * high ∧ wide * high ≤ 288) (hk : k ≤ 8) (hcl : 0 ≤ cell ∧ cell < 100000) (hb1 : ce ≤ 250 ∧ so ≤ 200000)
    (K : XG g (na, ad, ce, so) (hY g (na, ad, ce, so) w es) [(0, .ref (ad 1)), (1, .ref b), (2, iV wide), (3, iV high), (4, .ref hb), (5, iV many), (6, iV fl), (7, iV (k : Nat)), (8, iV cell), (9, iV (if tol xs L (wide * high) cell k = true then 1 else 0))] [] 129) :
    ∀ (j i : Nat), i + j = k → XG g (na, ad, ce, so) (hY g (na, ad, ce, so) w es) [(0, .ref (ad 1)), (1, .ref b), (2, iV wide), (3, iV high), (4, .ref hb), (5, iV many), (6, iV fl), (7, iV (k : Nat)), (8, iV cell), (9, iV (if tol xs L (wide * high) cell i = true then 1 else 0)), (10, iV (i : Nat))] [] 90 := by
  obtain ⟨hA, hR0, hX, hbs, hbA, hL9⟩ := hS
  intro j
  induction j with
  | zero =>
    intro i hi
    refine x_iload C 10 dL_load_90 rfl ?_
    refine x_iload C 7 dL_load_92 rfl ?_
    refine x_icmp_ge (tgt := 129) (P1 := none) (P2 := some ()) (z := ()) C dL_load_94 (by decide) (if_neg (by rw [ltq (by omega)] <;> omega)) (fun _ => ?_) (fun h => nomatch h)
    refine XG.sub [0, 1, 2, 3, 4, 5, 6, 7, 8, 9] rfl ?_
    rw [show i = k by omega]
    exact K
  | succ j ih =>
    intro i hi
    have hdr := drw_rng (xs := xs) (L := L) (k := 3 + (i : Nat)) (n := wide * high) (by omega)
    refine x_iload C 10 dL_load_90 rfl ?_
    refine x_iload C 7 dL_load_92 rfl ?_
    refine x_icmp_ge (tgt := 129) (P1 := some ()) (P2 := none) (z := ()) C dL_load_94 (by decide) (if_pos (by rw [ltq (by omega)] <;> omega)) (fun h => nomatch h) (fun _ => ?_)
    refine x_iload C 9 dL_load_97 rfl ?_
    refine x_aload_n C 1 dL_load_99 rfl ?_
    refine x_iconst C dL_load_100 ?_
    refine x_iload C 10 dL_load_101 rfl ?_
    refine x_iadd C dL_load_103 ?_
    refine x_iload_n C 2 dL_load_104 rfl ?_
    refine x_iload_n C 3 dL_load_105 rfl ?_
    refine x_imul C dL_load_106 ?_
    refine q_draw C hA hR0 hX hbs hbA (k := (3 + (i : Nat))) (n := (wide * high)) (by omega) hL9 (eqf (by omega) (by omega)) tl_SlabCutterLaw_50 ⟨Nat.le_of_ble_eq_true rfl, Nat.le_of_ble_eq_true rfl⟩ (Nat.le_of_ble_eq_true rfl) ⟨(by omega : ce ≤ 250), (by omega : so ≤ 200000)⟩ dL_load_107 ?_
    refine x_iload C 8 dL_load_110 rfl ?_
    by_cases c : drw xs L (3 + (i : Nat)) (wide * high) = cell
    · refine x_icmp_ne (tgt := 119) (P1 := some ()) (P2 := none) (z := ()) C dL_load_112 (by decide) (if_pos (eqt (rg2 hdr (by omega) hcl) c)) (fun h => nomatch h) (fun _ => ?_)
      refine x_iconst C dL_load_115 ?_
      refine x_goto (tgt := 120) C dL_load_116 (by decide) ?_
      refine x_ior C dL_load_120 ?_
      rw [tol_t c]
      refine x_istore (lv' := [(9, iV (if tol xs L (wide * high) cell (i + 1) = true then 1 else 0)), (0, .ref (ad 1)), (1, .ref b), (2, iV wide), (3, iV high), (4, .ref hb), (5, iV many), (6, iV fl), (7, iV (k : Nat)), (8, iV cell), (10, iV (i : Nat))]) C dL_load_121 (by decide) rfl ?_
      refine x_iinc (lv' := [(10, iV ((i : Nat) + 1)), (9, iV (if tol xs L (wide * high) cell (i + 1) = true then 1 else 0)), (0, .ref (ad 1)), (1, .ref b), (2, iV wide), (3, iV high), (4, .ref hb), (5, iV many), (6, iV fl), (7, iV (k : Nat)), (8, iV cell)]) C 10 dL_load_123 rfl (by decide) rfl ?_
      refine x_goto (tgt := 90) C dL_load_126 (by decide) ?_
      refine XG.sub [2, 3, 4, 5, 6, 7, 8, 9, 10, 1, 0] rfl ?_
      exact ih (i + 1) (by omega)
    · refine x_icmp_ne (tgt := 119) (P1 := none) (P2 := some ()) (z := ()) C dL_load_112 (by decide) (if_neg (eqn (rg2 hdr (by omega) hcl) c)) (fun _ => ?_) (fun h => nomatch h)
      refine x_iconst C dL_load_119 ?_
      refine x_ior C dL_load_120 ?_
      rw [tol_f c]
      refine x_istore (lv' := [(9, iV (if tol xs L (wide * high) cell (i + 1) = true then 1 else 0)), (0, .ref (ad 1)), (1, .ref b), (2, iV wide), (3, iV high), (4, .ref hb), (5, iV many), (6, iV fl), (7, iV (k : Nat)), (8, iV cell), (10, iV (i : Nat))]) C dL_load_121 (by decide) rfl ?_
      refine x_iinc (lv' := [(10, iV ((i : Nat) + 1)), (9, iV (if tol xs L (wide * high) cell (i + 1) = true then 1 else 0)), (0, .ref (ad 1)), (1, .ref b), (2, iV wide), (3, iV high), (4, .ref hb), (5, iV many), (6, iV fl), (7, iV (k : Nat)), (8, iV cell)]) C 10 dL_load_123 rfl (by decide) rfl ?_
      refine x_goto (tgt := 90) C dL_load_126 (by decide) ?_
      refine XG.sub [2, 3, 4, 5, 6, 7, 8, 9, 10, 1, 0] rfl ?_
      exact ih (i + 1) (by omega)

theorem L_flaws {g : Cx} (C : CX g cL_load 16 (some .boolean) RL) {na : Nat} {ad : Nat → Nat} {b L : Nat} {xs : Nat → Int32} (hS : SX g na ad b L xs (rmv 12 420 250 200000)) {w : Wd} {hb mn : Nat} {T : List Int} {wide high : Int} (hwh : 8 ≤ wide * high ∧ wide * high ≤ 288) (hwd : 4 ≤ wide ∧ wide ≤ 24) (hmn : mn ≤ 8) (hTl : T.length ≤ 11)
    (K : ∀ (es : va_W) (c s : Nat), TXb g.G hb (T ++ flwT xs L wide (wide * high) mn) [] es → (c ≤ 50 ∧ s ≤ 37000) → XG g (na, ad, c, s) (hY g (na, ad, c, s) w es) [(0, .ref (ad 1)), (1, .ref b), (2, iV wide), (3, iV high), (4, .ref hb), (6, iV (flwN xs L (wide * high) mn))] [] 178) :
    ∀ (j k : Nat) (es : va_W) (ce so : Nat), k + j = mn → TXb g.G hb (T ++ flwT xs L wide (wide * high) k) [] es → (ce + 5 * j ≤ 50 ∧ so + 4000 * j ≤ 37000) → XG g (na, ad, ce, so) (hY g (na, ad, ce, so) w es) [(0, .ref (ad 1)), (1, .ref b), (2, iV wide), (3, iV high), (4, .ref hb), (5, iV (mn : Nat)), (6, iV (flwN xs L (wide * high) k)), (7, iV (k : Nat))] [] 64 := by
  have hS0 := hS
  obtain ⟨hA, hR0, hX, hbs, hbA, hL9⟩ := hS0
  intro j
  induction j with
  | zero =>
    intro k es ce so hk hT hd
    refine x_iload C 7 dL_load_64 rfl ?_
    refine x_iload C 5 dL_load_66 rfl ?_
    refine x_icmp_ge (tgt := 178) (P1 := none) (P2 := some ()) (z := ()) C dL_load_68 (by decide) (if_neg (by rw [ltq (by omega)] <;> omega)) (fun _ => ?_) (fun h => nomatch h)
    refine XG.sub [0, 1, 2, 3, 4, 6] rfl ?_
    rw [show k = mn by omega] at hT ⊢
    exact K es ce so hT (by omega)
  | succ j ih =>
    intro k es ce so hk hT hd
    refine x_iload C 7 dL_load_64 rfl ?_
    refine x_iload C 5 dL_load_66 rfl ?_
    refine x_icmp_ge (tgt := 178) (P1 := some ()) (P2 := none) (z := ()) C dL_load_68 (by decide) (if_pos (by rw [ltq (by omega)] <;> omega)) (fun h => nomatch h) (fun _ => ?_)
    refine x_aload_n C 1 dL_load_71 rfl ?_
    refine x_iconst C dL_load_72 ?_
    refine x_iload C 7 dL_load_73 rfl ?_
    refine x_iadd C dL_load_75 ?_
    refine x_iload_n C 2 dL_load_76 rfl ?_
    refine x_iload_n C 3 dL_load_77 rfl ?_
    refine x_imul C dL_load_78 ?_
    have hdr := drw_rng (xs := xs) (L := L) (k := 3 + (k : Nat)) (n := wide * high) (by omega)
    refine q_draw C hA hR0 hX hbs hbA (k := (3 + (k : Nat))) (n := (wide * high)) (by omega) hL9 (eqf (by omega) (by omega)) tl_SlabCutterLaw_50 ⟨Nat.le_of_ble_eq_true rfl, Nat.le_of_ble_eq_true rfl⟩ (Nat.le_of_ble_eq_true rfl) ⟨(by omega : ce ≤ 250), (by omega : so ≤ 200000)⟩ dL_load_79 ?_
    refine x_istore (lv' := [(8, iV (drw xs L (3 + (k : Nat)) (wide * high))), (0, .ref (ad 1)), (1, .ref b), (2, iV wide), (3, iV high), (4, .ref hb), (5, iV (mn : Nat)), (6, iV (flwN xs L (wide * high) k)), (7, iV (k : Nat))]) C dL_load_82 (by decide) rfl ?_
    refine x_iconst C dL_load_84 ?_
    refine x_istore (lv' := [(9, iV 0), (8, iV (drw xs L (3 + (k : Nat)) (wide * high))), (0, .ref (ad 1)), (1, .ref b), (2, iV wide), (3, iV high), (4, .ref hb), (5, iV (mn : Nat)), (6, iV (flwN xs L (wide * high) k)), (7, iV (k : Nat))]) C dL_load_85 (by decide) rfl ?_
    refine x_iconst C dL_load_87 ?_
    refine x_istore (lv' := [(10, iV 0), (9, iV 0), (8, iV (drw xs L (3 + (k : Nat)) (wide * high))), (0, .ref (ad 1)), (1, .ref b), (2, iV wide), (3, iV high), (4, .ref hb), (5, iV (mn : Nat)), (6, iV (flwN xs L (wide * high) k)), (7, iV (k : Nat))]) C dL_load_88 (by decide) rfl ?_
    refine XG.sub [3, 4, 5, 6, 7, 8, 9, 10, 2, 1, 0] rfl ?_
    refine L_told C hS hwh (by omega) (rg1 hdr (by omega)) (by omega) ?_ k 0 (by omega)
    by_cases c : tol xs L (wide * high) (drw xs L (3 + (k : Nat)) (wide * high)) k = true
    · rw [if_pos c]
      refine x_iload C 9 dL_load_129 rfl ?_
      refine x_if_eq (tgt := 137) (P1 := none) (P2 := some ()) (z := ()) C dL_load_131 (by decide) (if_neg (by rw [eqq (by omega)] <;> omega)) (fun h => nomatch h) (fun _ => ?_)
      refine x_goto (tgt := 172) C dL_load_134 (by decide) ?_
      refine x_iinc (lv' := [(7, iV ((k : Nat) + 1)), (0, .ref (ad 1)), (1, .ref b), (2, iV wide), (3, iV high), (4, .ref hb), (5, iV (mn : Nat)), (6, iV (flwN xs L (wide * high) k)), (8, iV (drw xs L (3 + (k : Nat)) (wide * high))), (9, iV 1)]) C 7 dL_load_172 rfl (by decide) rfl ?_
      refine x_goto (tgt := 64) C dL_load_175 (by decide) ?_
      refine XG.sub [1, 2, 3, 4, 5, 6, 7, 0] rfl ?_
      have e1 : flwT xs L wide (wide * high) (k + 1) = flwT xs L wide (wide * high) k := by rw [flwT, if_pos c]
      have e2 : flwN xs L (wide * high) (k + 1) = flwN xs L (wide * high) k := by rw [flwN, if_pos c]
      rw [← e2]
      exact ih (k + 1) es ce so (by omega) (by rw [e1]; exact hT) (by omega)
    · rw [if_neg c]
      refine x_iload C 9 dL_load_129 rfl ?_
      refine x_if_eq (tgt := 137) (P1 := some ()) (P2 := none) (z := ()) C dL_load_131 (by decide) (if_pos (by rw [eqq (by omega)])) (fun _ => ?_) (fun h => nomatch h)
      refine x_aload C 4 dL_load_137 rfl ?_
      obtain ⟨ha, m, a, rfl, b1, b2, b3, b4⟩ := hT
      have hl : (T ++ flwT xs L wide (wide * high) k).length ≤ 99 := Nat.le_trans (app_le hTl (flwT_le _ _ _ _ k)) (by omega)
      have hq1 : 0 ≤ (drw xs L (3 + (k : Nat)) (wide * high)) % wide ∧ (drw xs L (3 + (k : Nat)) (wide * high)) % wide < 100 := mdR hwd
      have hq2 : 0 ≤ (drw xs L (3 + (k : Nat)) (wide * high)) / wide ∧ (drw xs L (3 + (k : Nat)) (wide * high)) / wide < 100 := dvR hdr (by omega) hwd
      refine x_ldcS (i := 11) (tx := "flaw ") C (by decide +kernel) dL_load_139 ?_
      refine y_tR C hA (t_V (rm := rmv 5 167 1 800) (As := [.ref (g.G.aK 11)]) (rest := []) C hA hR0 hY.sub (rcYb C) (ct_appS g.l g.G b3 b4 (i := 11) (by decide) b1 ⟨b2, by rw [show slen 11 = 5 from rfl]; omega⟩) tm_J4_append_15ec4 tl_SlabCutterLaw_42 ⟨rfl, rfl⟩ ⟨Nat.le_of_ble_eq_true rfl, Nat.le_of_ble_eq_true rfl⟩ rfl rfl (Nat.le_of_ble_eq_true rfl) ⟨(by omega : ce + 1 ≤ 250), (by omega : so + 800 ≤ 200000)⟩ dL_load_141) (fun r ws' c1 s2 hp e1 e2 => ?_)
      obtain ⟨hr, ha, m, a, rfl, b1, b2, b3, b4⟩ := hp
      rw [hr]
      have hl3 : (((T ++ flwT xs L wide (wide * high) k) ++ ctx 11)).length ≤ 104 := app_le (a := 99) (b := 5) hl ctx_le.2.2.2.1
      refine x_iload C 8 dL_load_144 rfl ?_
      refine x_iload_n C 2 dL_load_146 rfl ?_
      refine x_irem C (eqf (by omega) (by omega)) dL_load_147 ?_
      rw [rmq (rgi hdr (by omega)) (by omega)]
      refine y_tR C hA (t_V (rm := rmv 5 167 1 800) (As := [iV ((drw xs L (3 + (k : Nat)) (wide * high)) % wide)]) (rest := []) C hA hR0 hY.sub (rcYb C) (ct_appI g.l g.G b3 b4 hq1 b1 ⟨b2, by omega⟩) tm_J4_append_bf812 tl_SlabCutterLaw_59 ⟨rfl, rfl⟩ ⟨Nat.le_of_ble_eq_true rfl, Nat.le_of_ble_eq_true rfl⟩ rfl rfl (Nat.le_of_ble_eq_true rfl) ⟨(by omega : c1 + 1 ≤ 250), (by omega : s2 + 800 ≤ 200000)⟩ dL_load_148) (fun r ws' c4 s5 hp e1 e2 => ?_)
      obtain ⟨hr, ha, m, a, rfl, b1, b2, b3, b4⟩ := hp
      rw [hr]
      have hl6 : ((((T ++ flwT xs L wide (wide * high) k) ++ ctx 11) ++ digs ((drw xs L (3 + (k : Nat)) (wide * high)) % wide))).length ≤ 106 := app_le (a := 104) (b := 2) hl3 (digs_le _)
      refine x_ldcS (i := 10) (tx := " ") C (by decide +kernel) dL_load_151 ?_
      refine y_tR C hA (t_V (rm := rmv 5 167 1 800) (As := [.ref (g.G.aK 10)]) (rest := []) C hA hR0 hY.sub (rcYb C) (ct_appS g.l g.G b3 b4 (i := 10) (by decide) b1 ⟨b2, by rw [show slen 10 = 1 from rfl]; omega⟩) tm_J4_append_15ec4 tl_SlabCutterLaw_42 ⟨rfl, rfl⟩ ⟨Nat.le_of_ble_eq_true rfl, Nat.le_of_ble_eq_true rfl⟩ rfl rfl (Nat.le_of_ble_eq_true rfl) ⟨(by omega : c4 + 1 ≤ 250), (by omega : s5 + 800 ≤ 200000)⟩ dL_load_153) (fun r ws' c7 s8 hp e1 e2 => ?_)
      obtain ⟨hr, ha, m, a, rfl, b1, b2, b3, b4⟩ := hp
      rw [hr]
      have hl9 : (((((T ++ flwT xs L wide (wide * high) k) ++ ctx 11) ++ digs ((drw xs L (3 + (k : Nat)) (wide * high)) % wide)) ++ ctx 10)).length ≤ 107 := app_le (a := 106) (b := 1) hl6 ctx_le.2.1
      refine x_iload C 8 dL_load_156 rfl ?_
      refine x_iload_n C 2 dL_load_158 rfl ?_
      refine x_idiv C (eqf (by omega) (by omega)) dL_load_159 ?_
      rw [dvq (rgi hdr (by omega)) (by omega)]
      refine y_tR C hA (t_V (rm := rmv 5 167 1 800) (As := [iV ((drw xs L (3 + (k : Nat)) (wide * high)) / wide)]) (rest := []) C hA hR0 hY.sub (rcYb C) (ct_appI g.l g.G b3 b4 hq2 b1 ⟨b2, by omega⟩) tm_J4_append_bf812 tl_SlabCutterLaw_59 ⟨rfl, rfl⟩ ⟨Nat.le_of_ble_eq_true rfl, Nat.le_of_ble_eq_true rfl⟩ rfl rfl (Nat.le_of_ble_eq_true rfl) ⟨(by omega : c7 + 1 ≤ 250), (by omega : s8 + 800 ≤ 200000)⟩ dL_load_160) (fun r ws' c10 s11 hp e1 e2 => ?_)
      obtain ⟨hr, ha, m, a, rfl, b1, b2, b3, b4⟩ := hp
      rw [hr]
      have hl12 : ((((((T ++ flwT xs L wide (wide * high) k) ++ ctx 11) ++ digs ((drw xs L (3 + (k : Nat)) (wide * high)) % wide)) ++ ctx 10) ++ digs ((drw xs L (3 + (k : Nat)) (wide * high)) / wide))).length ≤ 109 := app_le (a := 107) (b := 2) hl9 (digs_le _)
      refine x_ldcS (i := 1) (tx := ";") C (by decide +kernel) dL_load_163 ?_
      refine y_tR C hA (t_V (rm := rmv 5 167 1 800) (As := [.ref (g.G.aK 1)]) (rest := []) C hA hR0 hY.sub (rcYb C) (ct_appS g.l g.G b3 b4 (i := 1) (by decide) b1 ⟨b2, by rw [show slen 1 = 1 from rfl]; omega⟩) tm_J4_append_15ec4 tl_SlabCutterLaw_42 ⟨rfl, rfl⟩ ⟨Nat.le_of_ble_eq_true rfl, Nat.le_of_ble_eq_true rfl⟩ rfl rfl (Nat.le_of_ble_eq_true rfl) ⟨(by omega : c10 + 1 ≤ 250), (by omega : s11 + 800 ≤ 200000)⟩ dL_load_165) (fun r ws' c13 s14 hp e1 e2 => ?_)
      obtain ⟨hr, ha, m, a, rfl, b1, b2, b3, b4⟩ := hp
      rw [hr]
      have hl15 : (((((((T ++ flwT xs L wide (wide * high) k) ++ ctx 11) ++ digs ((drw xs L (3 + (k : Nat)) (wide * high)) % wide)) ++ ctx 10) ++ digs ((drw xs L (3 + (k : Nat)) (wide * high)) / wide)) ++ ctx 1)).length ≤ 110 := app_le (a := 109) (b := 1) hl12 ctx_le.2.2.1
      refine x_pop C rfl dL_load_168 ?_
      refine x_iinc (lv' := [(6, iV ((flwN xs L (wide * high) k) + 1)), (0, .ref (ad 1)), (1, .ref b), (2, iV wide), (3, iV high), (4, .ref hb), (5, iV (mn : Nat)), (7, iV (k : Nat)), (8, iV (drw xs L (3 + (k : Nat)) (wide * high))), (9, iV 0)]) C 6 dL_load_169 rfl (by decide) rfl ?_
      refine x_iinc (lv' := [(7, iV ((k : Nat) + 1)), (6, iV ((flwN xs L (wide * high) k) + 1)), (0, .ref (ad 1)), (1, .ref b), (2, iV wide), (3, iV high), (4, .ref hb), (5, iV (mn : Nat)), (8, iV (drw xs L (3 + (k : Nat)) (wide * high))), (9, iV 0)]) C 7 dL_load_172 rfl (by decide) rfl ?_
      refine x_goto (tgt := 64) C dL_load_175 (by decide) ?_
      refine XG.sub [2, 3, 4, 5, 6, 7, 1, 0] rfl ?_
      have e1 : T ++ flwT xs L wide (wide * high) (k + 1) = ((((((T ++ flwT xs L wide (wide * high) k) ++ ctx 11) ++ digs ((drw xs L (3 + (k : Nat)) (wide * high)) % wide)) ++ ctx 10) ++ digs ((drw xs L (3 + (k : Nat)) (wide * high)) / wide)) ++ ctx 1) := by rw [flwT, if_neg c, flwC]; simp only [List.append_assoc]
      have e2 : flwN xs L (wide * high) (k + 1) = flwN xs L (wide * high) k + 1 := by rw [flwN, if_neg c]
      rw [← e2]
      exact ih (k + 1) _ c13 s14 (by omega) (by rw [e1]; exact ⟨ha, m, a, rfl, b1, b2, b3, b4⟩) (by omega)

theorem L_words {g : Cx} (C : CX g cL_load 16 (some .boolean) RL) {na : Nat} {ad : Nat → Nat} {b L : Nat} {xs : Nat → Int32} (hS : SX g na ad b L xs (rmv 12 420 250 200000)) {w : Wd} {hb mn p : Nat} {T : List Int} {wide high fl gp sh ti pn wn : Int} (hwd : 4 ≤ wide ∧ wide ≤ 24) (hmn : mn ≤ 5) (hp3 : p ≤ 2) (hTl : T.length ≤ 300) {B1 B2 : Nat} (hB : B1 ≤ 240 ∧ B2 ≤ 190000)
    (K : ∀ (es : va_W) (c s : Nat), TXb g.G hb (T ++ wrdT xs L wide (p : Nat) mn) [] es → (c ≤ B1 ∧ s ≤ B2) → XG g (na, ad, c, s) (hY g (na, ad, c, s) w es) [(0, .ref (ad 1)), (1, .ref b), (2, iV wide), (3, iV high), (4, .ref hb), (6, iV fl), (7, iV gp), (8, iV sh), (9, iV ti), (10, iV pn), (11, iV wn), (12, iV (p : Nat)), (13, iV (mn : Nat))] [] 391) :
    ∀ (j i : Nat) (es : va_W) (ce so : Nat), i + j = mn → TXb g.G hb (T ++ wrdT xs L wide (p : Nat) i) [] es → (ce + 8 * j ≤ B1 ∧ so + 6400 * j ≤ B2) → XG g (na, ad, ce, so) (hY g (na, ad, ce, so) w es) [(0, .ref (ad 1)), (1, .ref b), (2, iV wide), (3, iV high), (4, .ref hb), (6, iV fl), (7, iV gp), (8, iV sh), (9, iV ti), (10, iV pn), (11, iV wn), (12, iV (p : Nat)), (13, iV (mn : Nat)), (15, iV (i : Nat))] [] 355 := by
  obtain ⟨hA, hR0, hX, hbs, hbA, hL9⟩ := hS
  intro j
  induction j with
  | zero =>
    intro i es ce so hk hT hd
    refine x_iload C 13 dL_load_355 rfl ?_
    refine x_iload C 12 dL_load_357 rfl ?_
    refine x_icmp_ge (tgt := 391) (P1 := none) (P2 := some ()) (z := ()) C dL_load_359 (by decide) (if_neg (by rw [ltq (by omega)] <;> omega)) (fun _ => ?_) (fun h => nomatch h)
    refine XG.sub [0, 1, 2, 3, 4, 5, 6, 7, 8, 9, 10, 11, 12] rfl ?_
    rw [show i = mn by omega] at hT
    exact K es ce so hT (by omega)
  | succ j ih =>
    intro i es ce so hk hT hd
    have hdr := drw_rng (xs := xs) (L := L) (k := 26 + 5 * (p : Nat) + (i : Nat)) (n := 10000) (by decide)
    refine x_iload C 13 dL_load_355 rfl ?_
    refine x_iload C 12 dL_load_357 rfl ?_
    refine x_icmp_ge (tgt := 391) (P1 := some ()) (P2 := none) (z := ()) C dL_load_359 (by decide) (if_pos (by rw [ltq (by omega)] <;> omega)) (fun h => nomatch h) (fun _ => ?_)
    refine x_aload C 4 dL_load_362 rfl ?_
    refine x_aload_n C 1 dL_load_364 rfl ?_
    refine x_bipush (v := 26) C dL_load_365 (by decide +kernel) ?_
    refine x_iconst C dL_load_367 ?_
    refine x_iload C 11 dL_load_368 rfl ?_
    refine x_imul C dL_load_370 ?_
    refine x_iadd C dL_load_371 ?_
    refine x_iload C 13 dL_load_372 rfl ?_
    refine x_iadd C dL_load_374 ?_
    refine x_sipush (v := 10000) C dL_load_375 (by decide +kernel) ?_
    refine q_draw C hA hR0 hX hbs hbA (k := ((26 + (5 * (p : Nat))) + (i : Nat))) (n := 10000) (by omega) hL9 (by decide +kernel) tl_SlabCutterLaw_50 ⟨Nat.le_of_ble_eq_true rfl, Nat.le_of_ble_eq_true rfl⟩ (Nat.le_of_ble_eq_true rfl) ⟨(by omega : ce ≤ 250), (by omega : so ≤ 200000)⟩ dL_load_378 ?_
    refine x_iload_n C 2 dL_load_381 rfl ?_
    obtain ⟨ha, m, a, rfl, b1, b2, b3, b4⟩ := hT
    have hl : (T ++ wrdT xs L wide (p : Nat) i).length ≤ 380 := Nat.le_trans (app_le hTl (wrdT_le _ _ (by omega) i)) (by omega)
    refine y_tV C hA (t_S (rm := rmv 6 200 8 6400) (As := [.ref hb, iV (drw xs L (26 + 5 * (p : Nat) + (i : Nat)) 10000), iV wide]) (rest := []) C hA hR0 hY.sub (cL_word_ g.l g.G b3 b4 b1 ⟨b2, by omega⟩ (rg3 hdr (by decide)) (by omega)) tm_L_word tl_SlabCutterLaw_76 ⟨rfl, rfl⟩ ⟨Nat.le_of_ble_eq_true rfl, Nat.le_of_ble_eq_true rfl⟩ rfl rfl (Nat.le_of_ble_eq_true rfl) ⟨(by omega : ce + 8 ≤ 250), (by omega : so + 6400 ≤ 200000)⟩ dL_load_382) (fun ws' c16 s17 hp e1 e2 => ?_)
    refine x_iinc (lv' := [(15, iV ((i : Nat) + 1)), (0, .ref (ad 1)), (1, .ref b), (2, iV wide), (3, iV high), (4, .ref hb), (6, iV fl), (7, iV gp), (8, iV sh), (9, iV ti), (10, iV pn), (11, iV wn), (12, iV (p : Nat)), (13, iV (mn : Nat))]) C 13 dL_load_385 rfl (by decide) rfl ?_
    refine x_goto (tgt := 355) C dL_load_388 (by decide) ?_
    refine XG.sub [1, 2, 3, 4, 5, 6, 7, 8, 9, 10, 11, 12, 13, 0] rfl ?_
    exact ih (i + 1) ws' c16 s17 (by omega) (by rw [wrdT, ← List.append_assoc]; exact hp) (by omega)

theorem L_parts {g : Cx} (C : CX g cL_load 16 (some .boolean) RL) {na : Nat} {ad : Nat → Nat} {b L : Nat} {xs : Nat → Int32} (hS : SX g na ad b L xs (rmv 12 420 250 200000)) {w : Wd} {hb pn : Nat} {T : List Int} {wide high fl gp sh ti : Int} (hwd : 4 ≤ wide ∧ wide ≤ 24) (hmn : pn ≤ 3) (hTl : T.length ≤ 119) (hPl : ∀ k, k ≤ 2 → (prtT xs L wide k).length ≤ 46 * k)
    (K : ∀ (es : va_W) (c s : Nat), TXb g.G hb (T ++ prtT xs L wide pn) [] es → (c ≤ 190 ∧ s ≤ 150000) → XG g (na, ad, c, s) (hY g (na, ad, c, s) w es) [(0, .ref (ad 1)), (1, .ref b), (2, iV wide), (3, iV high), (4, .ref hb), (6, iV fl), (7, iV gp), (8, iV sh), (9, iV ti), (10, iV (pn : Nat)), (11, iV (prtN xs L pn))] [] 412) :
    ∀ (j p : Nat) (es : va_W) (ce so : Nat), p + j = pn → TXb g.G hb (T ++ prtT xs L wide p) [] es → (ce + 42 * j ≤ 190 ∧ so + 33600 * j ≤ 150000) → XG g (na, ad, ce, so) (hY g (na, ad, ce, so) w es) [(0, .ref (ad 1)), (1, .ref b), (2, iV wide), (3, iV high), (4, .ref hb), (6, iV fl), (7, iV gp), (8, iV sh), (9, iV ti), (10, iV (pn : Nat)), (11, iV (prtN xs L p)), (12, iV (p : Nat))] [] 290 := by
  have hS0 := hS
  obtain ⟨hA, hR0, hX, hbs, hbA, hL9⟩ := hS0
  intro j
  induction j with
  | zero =>
    intro p es ce so hk hT hd
    refine x_iload C 11 dL_load_290 rfl ?_
    refine x_iload C 9 dL_load_292 rfl ?_
    refine x_icmp_ge (tgt := 412) (P1 := none) (P2 := some ()) (z := ()) C dL_load_294 (by decide) (if_neg (by rw [ltq (by omega)] <;> omega)) (fun _ => ?_) (fun h => nomatch h)
    refine XG.sub [0, 1, 2, 3, 4, 5, 6, 7, 8, 9, 10] rfl ?_
    rw [show p = pn by omega] at hT ⊢
    exact K es ce so hT (by omega)
  | succ j ih =>
    intro p es ce so hk hT hd
    have hd1 := drw_rng (xs := xs) (L := L) (k := 18 + (p : Nat)) (n := 5) (by decide)
    have hd2 := drw_rng (xs := xs) (L := L) (k := 22 + (p : Nat)) (n := 3) (by decide)
    have hit : 1 ≤ itsN xs L (p : Nat) ∧ itsN xs L (p : Nat) ≤ 5 := itsR hd1
    have hl : (T ++ prtT xs L wide p).length ≤ 211 := Nat.le_trans (app_le hTl (hPl p (by omega))) (by omega)
    have tail : ∀ i : Nat, kndI (drw xs L (22 + (p : Nat)) 3) = i → XG g (na, ad, ce, so) (hY g (na, ad, ce, so) w es) [(14, iV (drw xs L (22 + (p : Nat)) 3)), (13, iV (itsN xs L (p : Nat))), (0, .ref (ad 1)), (1, .ref b), (2, iV wide), (3, iV high), (4, .ref hb), (6, iV fl), (7, iV gp), (8, iV sh), (9, iV ti), (10, iV (pn : Nat)), (11, iV (prtN xs L p)), (12, iV (p : Nat))] [.ref (g.G.aK i), .ref hb] 348 := by
      intro i hi
      subst hi
      obtain ⟨ha, m, a, rfl, b1, b2, b3, b4⟩ := hT
      have hk5 := kndI_le (drw xs L (22 + (p : Nat)) 3)
      refine y_tR C hA (t_V (rm := rmv 5 167 1 800) (As := [.ref (g.G.aK (kndI (drw xs L (22 + (p : Nat)) 3)))]) (rest := []) C hA hR0 hY.sub (rcYb C) (ct_appS g.l g.G b3 b4 (i := kndI (drw xs L (22 + (p : Nat)) 3)) hk5.2.1 b1 ⟨b2, by omega⟩) tm_J4_append_15ec4 tl_SlabCutterLaw_42 ⟨rfl, rfl⟩ ⟨Nat.le_of_ble_eq_true rfl, Nat.le_of_ble_eq_true rfl⟩ rfl rfl (Nat.le_of_ble_eq_true rfl) ⟨(by omega : ce + 1 ≤ 250), (by omega : so + 800 ≤ 200000)⟩ dL_load_348) (fun r ws' c18 s19 hp e1 e2 => ?_)
      obtain ⟨hr, ha, m, a, rfl, b1, b2, b3, b4⟩ := hp
      rw [hr]
      have hl20 : (((T ++ prtT xs L wide p) ++ ctx (kndI (drw xs L (22 + (p : Nat)) 3)))).length ≤ 216 := app_le (a := 211) (b := 5) hl hk5.1
      refine x_pop C rfl dL_load_351 ?_
      refine x_iconst C dL_load_352 ?_
      refine x_istore (lv' := [(15, iV 0), (14, iV (drw xs L (22 + (p : Nat)) 3)), (13, iV (itsN xs L (p : Nat))), (0, .ref (ad 1)), (1, .ref b), (2, iV wide), (3, iV high), (4, .ref hb), (6, iV fl), (7, iV gp), (8, iV sh), (9, iV ti), (10, iV (pn : Nat)), (11, iV (prtN xs L p)), (12, iV (p : Nat))]) C dL_load_353 (by decide) rfl ?_
      obtain ⟨mi, hmi, hm1, hm5⟩ := natR hit
      replace hit := hd2
      rw [show itsN xs L (p : Nat) = (mi : Int) from hmi]
      refine XG.sub [3, 4, 5, 6, 7, 8, 9, 10, 11, 12, 13, 14, 2, 0] rfl ?_
      refine L_words C hS (p := p) (mn := mi) (T := ((T ++ prtT xs L wide p) ++ ctx (kndI (drw xs L (22 + (p : Nat)) 3)))) hwd hm5 (by omega) (Nat.le_trans hl20 (by omega)) (B1 := c18 + 40) (B2 := s19 + 32000) (by omega) (fun es2 c2 s2 hT2 hd2 => ?_) mi 0 _ c18 s19 (by omega) (by rw [wrdT, List.append_nil]; exact ⟨ha, m, a, rfl, b1, b2, b3, b4⟩) (by omega)
      obtain ⟨ha, m, a, rfl, b1, b2, b3, b4⟩ := hT2
      have hl21 : ((((T ++ prtT xs L wide p) ++ ctx (kndI (drw xs L (22 + (p : Nat)) 3))) ++ wrdT xs L wide (p : Nat) mi)).length ≤ 256 := Nat.le_trans (app_le hl20 (wrdT_le _ _ (by omega) mi)) (by omega)
      refine x_aload C 4 dL_load_391 rfl ?_
      refine x_ldcS (i := 1) (tx := ";") C (by decide +kernel) dL_load_393 ?_
      refine y_tR C hA (t_V (rm := rmv 5 167 1 800) (As := [.ref (g.G.aK 1)]) (rest := []) C hA hR0 hY.sub (rcYb C) (ct_appS g.l g.G b3 b4 (i := 1) (by decide) b1 ⟨b2, by rw [show slen 1 = 1 from rfl]; omega⟩) tm_J4_append_15ec4 tl_SlabCutterLaw_42 ⟨rfl, rfl⟩ ⟨Nat.le_of_ble_eq_true rfl, Nat.le_of_ble_eq_true rfl⟩ rfl rfl (Nat.le_of_ble_eq_true rfl) ⟨(by omega : c2 + 1 ≤ 250), (by omega : s2 + 800 ≤ 200000)⟩ dL_load_395) (fun r ws' c22 s23 hp e1 e2 => ?_)
      obtain ⟨hr, ha, m, a, rfl, b1, b2, b3, b4⟩ := hp
      rw [hr]
      have hl24 : (((((T ++ prtT xs L wide p) ++ ctx (kndI (drw xs L (22 + (p : Nat)) 3))) ++ wrdT xs L wide (p : Nat) mi) ++ ctx 1)).length ≤ 257 := app_le (a := 256) (b := 1) hl21 ctx_le.2.2.1
      refine x_pop C rfl dL_load_398 ?_
      refine x_iload C 10 dL_load_399 rfl ?_
      refine x_iload C 12 dL_load_401 rfl ?_
      refine x_iadd C dL_load_403 ?_
      refine x_istore (lv' := [(11, iV ((prtN xs L p) + (mi : Nat))), (0, .ref (ad 1)), (1, .ref b), (2, iV wide), (3, iV high), (4, .ref hb), (6, iV fl), (7, iV gp), (8, iV sh), (9, iV ti), (10, iV (pn : Nat)), (12, iV (p : Nat)), (13, iV (mi : Nat))]) C dL_load_404 (by decide) rfl ?_
      refine x_iinc (lv' := [(12, iV ((p : Nat) + 1)), (11, iV ((prtN xs L p) + (mi : Nat))), (0, .ref (ad 1)), (1, .ref b), (2, iV wide), (3, iV high), (4, .ref hb), (6, iV fl), (7, iV gp), (8, iV sh), (9, iV ti), (10, iV (pn : Nat)), (13, iV (mi : Nat))]) C 11 dL_load_406 rfl (by decide) rfl ?_
      refine x_goto (tgt := 290) C dL_load_409 (by decide) ?_
      refine XG.sub [2, 3, 4, 5, 6, 7, 8, 9, 10, 11, 1, 0] rfl ?_
      have e1 : T ++ prtT xs L wide (p + 1) = ((((T ++ prtT xs L wide p) ++ ctx (kndI (drw xs L (22 + (p : Nat)) 3))) ++ wrdT xs L wide (p : Nat) mi) ++ ctx 1) := by rw [prtT, show itsN xs L (p : Nat) = (mi : Int) from hmi]; simp only [List.append_assoc]; rfl
      have e2 : prtN xs L (p + 1) = prtN xs L p + (mi : Nat) := by rw [prtN, show itsN xs L (p : Nat) = (mi : Int) from hmi]
      rw [← e2]
      exact ih (p + 1) _ c22 s23 (by omega) (by rw [e1]; exact ⟨ha, m, a, rfl, b1, b2, b3, b4⟩) (by omega)
    refine x_iload C 11 dL_load_290 rfl ?_
    refine x_iload C 9 dL_load_292 rfl ?_
    refine x_icmp_ge (tgt := 412) (P1 := some ()) (P2 := none) (z := ()) C dL_load_294 (by decide) (if_pos (by rw [ltq (by omega)] <;> omega)) (fun h => nomatch h) (fun _ => ?_)
    refine x_iconst C dL_load_297 ?_
    refine x_aload_n C 1 dL_load_298 rfl ?_
    refine x_bipush (v := 18) C dL_load_299 (by decide +kernel) ?_
    refine x_iload C 11 dL_load_301 rfl ?_
    refine x_iadd C dL_load_303 ?_
    refine x_iconst C dL_load_304 ?_
    refine q_draw C hA hR0 hX hbs hbA (k := (18 + (p : Nat))) (n := 5) (by omega) hL9 (by decide +kernel) tl_SlabCutterLaw_50 ⟨Nat.le_of_ble_eq_true rfl, Nat.le_of_ble_eq_true rfl⟩ (Nat.le_of_ble_eq_true rfl) ⟨(by omega : ce ≤ 250), (by omega : so ≤ 200000)⟩ dL_load_305 ?_
    refine x_iadd C dL_load_308 ?_
    rw [show 1 + drw xs L (18 + ((p : Nat) : Int)) 5 = itsN xs L (p : Nat) from rfl]
    refine x_istore (lv' := [(13, iV (itsN xs L (p : Nat))), (0, .ref (ad 1)), (1, .ref b), (2, iV wide), (3, iV high), (4, .ref hb), (6, iV fl), (7, iV gp), (8, iV sh), (9, iV ti), (10, iV (pn : Nat)), (11, iV (prtN xs L p)), (12, iV (p : Nat))]) C dL_load_309 (by decide) rfl ?_
    refine x_aload_n C 2 dL_load_311 rfl ?_
    refine x_bipush (v := 22) C dL_load_312 (by decide +kernel) ?_
    refine x_iload C 12 dL_load_314 rfl ?_
    refine x_iadd C dL_load_316 ?_
    refine x_iconst C dL_load_317 ?_
    refine q_draw C hA hR0 hX hbs hbA (k := (22 + (p : Nat))) (n := 3) (by omega) hL9 (by decide +kernel) tl_SlabCutterLaw_50 ⟨Nat.le_of_ble_eq_true rfl, Nat.le_of_ble_eq_true rfl⟩ (Nat.le_of_ble_eq_true rfl) ⟨(by omega : ce ≤ 250), (by omega : so ≤ 200000)⟩ dL_load_318 ?_
    refine x_istore (lv' := [(14, iV (drw xs L (22 + (p : Nat)) 3)), (13, iV (itsN xs L (p : Nat))), (0, .ref (ad 1)), (1, .ref b), (2, iV wide), (3, iV high), (4, .ref hb), (6, iV fl), (7, iV gp), (8, iV sh), (9, iV ti), (10, iV (pn : Nat)), (11, iV (prtN xs L p)), (12, iV (p : Nat))]) C dL_load_321 (by decide) rfl ?_
    refine x_aload C 6 dL_load_323 rfl ?_
    refine x_iload C 0 dL_load_325 rfl ?_
    by_cases c0 : (drw xs L (22 + (p : Nat)) 3) = 0
    · refine x_if_ne (tgt := 335) (P1 := some ()) (P2 := none) (z := ()) C dL_load_327 (by decide) (if_pos (eqt (rg2 hd2 (by decide) (by decide)) c0)) (fun h => nomatch h) (fun _ => ?_)
      refine x_ldcS (i := 6) (tx := "name") C (by decide +kernel) dL_load_330 ?_
      refine x_goto (tgt := 348) C dL_load_332 (by decide) ?_
      exact tail 6 (by unfold kndI; rw [if_pos c0])
    · by_cases c1 : (drw xs L (22 + (p : Nat)) 3) = 1
      · refine x_if_ne (tgt := 335) (P1 := none) (P2 := some ()) (z := ()) C dL_load_327 (by decide) (if_neg (eqn (rg2 hd2 (by decide) (by decide)) c0)) (fun _ => ?_) (fun h => nomatch h)
        refine x_iload C 0 dL_load_335 rfl ?_
        refine x_iconst C dL_load_337 ?_
        refine x_icmp_ne (tgt := 346) (P1 := some ()) (P2 := none) (z := ()) C dL_load_338 (by decide) (if_pos (eqt (rg2 hd2 (by decide) (by decide)) c1)) (fun h => nomatch h) (fun _ => ?_)
        refine x_ldcS (i := 7) (tx := "date") C (by decide +kernel) dL_load_341 ?_
        refine x_goto (tgt := 348) C dL_load_343 (by decide) ?_
        exact tail 7 (by unfold kndI; rw [if_neg c0, if_pos c1])
      · refine x_if_ne (tgt := 335) (P1 := none) (P2 := some ()) (z := ()) C dL_load_327 (by decide) (if_neg (eqn (rg2 hd2 (by decide) (by decide)) c0)) (fun _ => ?_) (fun h => nomatch h)
        refine x_iload C 0 dL_load_335 rfl ?_
        refine x_iconst C dL_load_337 ?_
        refine x_icmp_ne (tgt := 346) (P1 := none) (P2 := some ()) (z := ()) C dL_load_338 (by decide) (if_neg (eqn (rg2 hd2 (by decide) (by decide)) c1)) (fun _ => ?_) (fun h => nomatch h)
        refine x_ldcS (i := 8) (tx := "verse") C (by decide +kernel) dL_load_346 ?_
        exact tail 8 (by unfold kndI; rw [if_neg c0, if_neg c1])

