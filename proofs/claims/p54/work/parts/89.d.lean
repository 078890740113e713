/-! ===== the statement of the flaws ===== -/
theorem sm_upd {g : Int → Int} {j v : Int} (hj : 0 ≤ j) : ∀ n : Nat, sm (fun k => if k = j then v else g k) n = sm g n + (if j < n then v - g j else 0) := by
  intro n
  induction n with
  | zero => rw [if_neg (by omega)]; rfl
  | succ n ih =>
    show sm (fun k => if k = j then v else g k) n + (if (n : Int) = j then v else g n) = sm g n + g n + _
    rw [ih]
    by_cases c : (n : Int) = j
    · rw [if_pos c, if_neg (show ¬ j < (n : Int) by omega), if_pos (show j < ((n + 1 : Nat) : Int) by omega), c]; omega
    · rw [if_neg c]
      by_cases d : j < (n : Int)
      · rw [if_pos d, if_pos (show j < ((n + 1 : Nat) : Int) by omega)]; omega
      · rw [if_neg d, if_neg (show ¬ j < ((n + 1 : Nat) : Int) by omega)]; omega
theorem mk_nf {f : Rw} {x y v : Int} (hx : 0 ≤ x ∧ x < 24) (hy : 0 ≤ y ∧ y < 12) : nfF (mkF f x y v) = nfF f + (v - fcF f x y) := by
  have h := sm_upd (g := fun k => f (11 + k)) (j := 24 * y + x) (v := v) (by omega) 288
  rw [if_pos (show 24 * y + x < ((288 : Nat) : Int) by omega)] at h
  have e : nfF (mkF f x y v) = sm (fun k => if k = 24 * y + x then v else f (11 + k)) 288 := sm_congr _ fun i i0 i1 => by
    unfold mkF upd1
    by_cases c : i = 24 * y + x
    · rw [if_pos c, if_pos (by omega)]
    · rw [if_neg c, if_neg (by omega)]
  rw [e, h]
  unfold nfF fcF
  rw [show 11 + (24 * y + x) = 11 + 24 * y + x by omega]
theorem fx_n {f : Rw} {i : Int} (h : i ≠ 5) : fx f i = f i := upd1_n f _ h
theorem fx_SAM {f : Rw} : SAM f (fx f) := upd1_SAM (fun _ _ => rfl) (by decide)
theorem fx_fl {f : Rw} (x y : Int) : flF (fx f) x y = flF f x y := (fx_SAM.ext.2.1 x y).symm
theorem fx_mk {f : Rw} {x y v : Int} (hx : 0 ≤ x ∧ x < 24) (hy : 0 ≤ y ∧ y < 12) : fx (mkF f x y v) = mkF (fx f) x y v := funext fun i => by
  have h3 : mkF f x y v 3 = f 3 := mkF_n hx hy (by omega)
  unfold fx
  rw [h3]
  unfold mkF upd1
  by_cases c : i = 5
  · rw [if_pos c, if_neg (by omega), if_pos c]
  · rw [if_neg c, if_neg c]
theorem fl_fc {f : Rw} {x y : Int} (hV : VB f) (hx : 0 ≤ x ∧ x < f 0) (hy : 0 ≤ y ∧ y < f 1) (h : flF f x y = false) : fcF f x y = 0 := by
  have h0 := hV.c
  have h1 := hV.r
  rcases hV.fc (c := x) (r := y) hx.1 (by omega) hy.1 (by omega) with q | q
  · exact q
  · exfalso
    unfold flF isCF at h
    rw [decide_eq_true (show 0 ≤ x ∧ x < f 0 ∧ 0 ≤ y ∧ y < f 1 by omega), decide_eq_true q] at h
    exact absurd h (by decide)
section FL
variable {w m : Wd} {B : Int → Int} {N : Int} {f : Rw}
theorem kk_rng {s e K : Int} (h : TKat w m B N s e K) : 0 ≤ K ∧ K ≤ 3 := by
  rcases h.2.2.2.1 with q | q <;> omega
theorem isSign_g (h : PT w m B N) {b : Int} (hb : 0 ≤ b ∧ b ≤ 255) {s e K : Int} (hk : TKat w m B N s e K) : p_X9_isSign b m = some (b2 (decide (K = 3 ∧ B s = b)), m) := by
  obtain ⟨a1, a2, a3, _⟩ := h
  have hKr := kk_rng hk
  unfold p_X9_isSign
  rw [good_o a3, Option.bind_some]
  dsimp only
  rw [if_neg e10', hk.2.2.1.2.2]
  by_cases d : K = 3
  · have e23 := hk.2.2.2.2.2 d
    have hbb : 0 ≤ B s ∧ B s ≤ 255 := by
      rcases hk.2.2.2.1 with q | q
      · omega
      · exact (a1.2.2 s (by have := hk.1; omega) (by have := hk.1; have := q.2.2.1; omega)).2
    rw [if_pos (show eq32 K 3 = true by rw [eq32_o (by omega)]; exact d), e23]
    by_cases g : B s = b
    · rw [if_pos (show eq32 (B s) b = true by rw [eq32_o (by omega)]; exact g), decide_eq_true ⟨d, g⟩]; rfl
    · rw [if_neg (show ¬ eq32 (B s) b = true by rw [eq32_o (by omega)]; exact g), decide_eq_false (fun q => g q.2)]; rfl
  · rw [if_neg (show ¬ eq32 K 3 = true by rw [eq32_o (by omega)]; exact d), decide_eq_false (fun q => d q.1)]; rfl
theorem comma_o (h : PT w m B N) : ∃ c : Bool, p_X7_says 3 w = some (b2 c, w) ∧ p_X9_isSign 44 m = some (b2 c, m) := by
  have h0 := h
  obtain ⟨a1, a2, a3, s, e, K, a4⟩ := h
  exact ⟨_, says_o a1 a4.1 a4.2.1.1 a4.2.1.2.1 (show 3 < 9 by decide), by rw [isSign_g h0 (by decide) a4, comma_iff a4]⟩
theorem semi_o (h : PT w m B N) : ∃ c : Bool, p_X7_says 1 w = some (b2 c, w) ∧ p_X9_isSign 59 m = some (b2 c, m) := by
  have h0 := h
  obtain ⟨a1, a2, a3, s, e, K, a4⟩ := h
  exact ⟨_, says_o a1 a4.1 a4.2.1.1 a4.2.1.2.1 (show 1 < 9 by decide), by rw [isSign_g h0 (by decide) a4, semi_iff a4]⟩
theorem p97_x (h : IDL m) {k2 : Int → Wd → Option Wd} : p_X9_parseFlaws_97 k2 m = k2 0 m := by
  unfold p_X9_parseFlaws_97
  rw [goOn_x h, Option.bind_some, isSign_x h, Option.bind_some]
theorem p79_x {m1 : Wd} {k2 : Int → Wd → Option Wd} {x y s : Int} (h1 : p_X9_errsIf s 3 m = some m1) (h : IDL m1) : p_X9_parseFlaws_79 k2 x y s m = k2 0 m1 := by
  unfold p_X9_parseFlaws_79
  rw [h1, Option.bind_some, good_x h, Option.bind_some]
  dsimp only
  rw [if_pos e00, p97_x h]
theorem p37_x {m1 : Wd} {k2 : Int → Wd → Option Wd} {x s : Int} (h1 : p_X9_errsIf s 5 m = some m1) (h : IDL m1) : p_X9_parseFlaws_37 k2 x s m = k2 0 m1 := by
  unfold p_X9_parseFlaws_37 p_X9_parseFlaws_78
  rw [h1, Option.bind_some, goOn_x h, Option.bind_some, high_o (f := cR m1) rfl, Option.bind_some]
  dsimp only
  rw [numberHere_x h, Option.bind_some]
  dsimp only
  rw [good_x h, Option.bind_some]
  dsimp only
  rw [if_pos e00, p79_x (errsIf_x h) h]
theorem mu_tok {w' : Wd} (h : frm Tc T0 w w') : mu w' = mu w := by
  unfold mu
  rw [h.1 9 4 (by unfold Tc; omega), h.1 9 5 (by unfold Tc; omega), h.1 9 6 (by unfold Tc; omega), h.1 116 4 (by unfold Tc; omega)]
theorem PG.rc (h : PG w m B N f) : cR m = f := by
  unfold cR; rw [h.2.1.1]; exact h.2.1.2
theorem flaw_it (h : PG w m B N f) : ∃ (r c : Bool) (w1 w' m' : Wd), p_X7_step w = some w1 ∧ p_X3_readFlaw 116 w1 = some (b2 r, w') ∧ (∀ n, p_X9_parseFlaws_2 (n + 1) 1 m = p_X9_parseFlaws_2 n (b2 c) m') ∧ frm SPc TPc w w' ∧ frm SPm TPm m m' ∧
    ((r = true ∧ (∃ f', PG w' m' B N f') ∧ (gF w' 9 4 = gF w 9 4 + 1 ∧ mu w' = mu w + 1) ∧ p_X7_says 3 w' = some (b2 c, w')) ∨ (r = false ∧ c = false ∧ BAD w' m')) := by
  have iT : ¬ eq32 (b2 true) 0 = true := by decide +kernel
  have iF : eq32 (b2 false) 0 = true := by decide +kernel
  obtain ⟨w1, m1, d1, d2, d3, d4, d5⟩ := step2 h.1
  have h1 : PG w1 m1 B N f := h.tok d5 (ft8 d3) d4
  have hV := h.2.2.2.1.1
  have hc := hV.c
  have hr := hV.r
  have hVx : VB (fx f) := fx_SAM.VB hV
  have g0 : gF w1 116 0 = f 0 := h1.2.2.1.1.1
  obtain ⟨r, v, w2, m2, e1, e2, e3, e4⟩ := chk_o d5 (lo := 0) (hi := f 0 - 1) (by omega)
  have hm0 : ∀ n, p_X9_parseFlaws_2 (n + 1) 1 m = (p_X9_flaws m2).bind fun z => if eq32 z.1 40 then p_X9_parseFlaws_37 (p_X9_parseFlaws_2 n) v 1 z.2 else p_X9_parseFlaws_37 (p_X9_parseFlaws_2 n) v 0 z.2 := fun n => by
    simp only [p_X9_parseFlaws_2]
    rw [if_neg e10', d2, Option.bind_some, wide_o h1.rc, Option.bind_some]
    dsimp only
    rw [e2, Option.bind_some]
  rcases e4 with ⟨rfl, i1, i2, rfl, i4⟩ | ⟨rfl, i1, i2, i3⟩
  · have h2 : PG w2 m2 B N f := h1.tok i1 (ft3 i2) (frm_refl m2)
    have e94 : gF w2 9 4 = nfF f := h2.2.2.2.2.2.1.2.2
    have hnf := h.2.2.2.1.2.2.2.2.2
    have hn0 := (nf_rng hV).1
    by_cases c40 : nfF f = 40
    · obtain ⟨w3, m3, j1, j2, j3, j4, j5⟩ := bad2 i1 (c := 5) (by decide)
      refine ⟨false, false, w1, w3, m3, d1, ?_, fun n => ?_, frm_trans (ftc (ft8 d3)) (frm_trans (ftc (ft3 i2)) (fte j4)), frm_trans (fsc d4) (fse j5), Or.inr ⟨rfl, rfl, j3⟩⟩
      · unfold p_X3_readFlaw
        rw [g0, e1, Option.bind_some]
        dsimp only
        rw [if_neg iT, e94, if_neg (show ¬ lt32 (nfF f) 40 = true by rw [lt32_o (by omega)]; omega), j1, Option.bind_some]
        exact zr_0 w3
      · rw [hm0, flaws_o h2.rc, Option.bind_some]
        dsimp only
        rw [if_pos (show eq32 (nfF f) 40 = true by rw [eq32_o (by omega)]; exact c40)]
        exact p37_x ((errsIf_1 i1.2.2.1).trans j2) j3.2.2
    · obtain ⟨w3, m3, j1, j2, j3, j4, j5⟩ := step2 i1
      have h3 : PG w3 m3 B N f := h2.tok j5 (ft8 j3) j4
      have g1 : gF w3 116 1 = f 1 := h3.2.2.1.1.2.1
      obtain ⟨r', v', w4, m4, k1, k2, k3, k4⟩ := chk_o j5 (lo := 0) (hi := f 1 - 1) (by omega)
      have hm1 : ∀ n, p_X9_parseFlaws_2 (n + 1) 1 m = (p_X9_good m4).bind fun z => if eq32 z.1 0 then p_X9_parseFlaws_78 (p_X9_parseFlaws_2 n) v v' z.2 else (p_X9_hasFlaw v v' z.2).bind fun z2 => if eq32 z2.1 0 then p_X9_parseFlaws_78 (p_X9_parseFlaws_2 n) v v' z2.2 else p_X9_parseFlaws_79 (p_X9_parseFlaws_2 n) v v' 1 z2.2 := fun n => by
        rw [hm0, flaws_o h2.rc, Option.bind_some]
        dsimp only
        rw [if_neg (show ¬ eq32 (nfF f) 40 = true by rw [eq32_o (by omega)]; exact c40)]
        unfold p_X9_parseFlaws_37
        rw [errsIf_0 i1.2.2.1, Option.bind_some, j2, Option.bind_some, high_o h3.rc, Option.bind_some]
        dsimp only
        rw [k2, Option.bind_some]
      have hc1 : p_X3_readFlaw 116 w1 = if eq32 (b2 r') 0 then some (0, w4) else (p_X6_flawed 116 v (gF w4 9 3) w4).bind fun z => if eq32 z.1 0 then (p_X6_mark 116 v (gF z.2 9 3) 1 z.2).bind fun w8 => (p_X7_step (sF w8 9 4 ((gF w8 9 4) + 1))).bind fun w9 => some (1, w9) else (p_X3_fail 3 z.2).bind fun z3 => zr z3.1 z3.2 := by
        unfold p_X3_readFlaw
        rw [g0, e1, Option.bind_some]
        dsimp only
        rw [if_neg iT, e94, if_pos (show lt32 (nfF f) 40 = true by rw [lt32_o (by omega)]; omega), j1, Option.bind_some, g1, k1, Option.bind_some, i4]
      have hfw4 : frm SPc TPc w w3 := frm_trans (ftc (ft8 d3)) (frm_trans (ftc (ft3 i2)) (ftc (ft8 j3)))
      have hfm4 : frm SPm TPm m m3 := frm_trans (fsc d4) (fsc j4)
      rcases k4 with ⟨rfl, l1, l2, rfl, l4⟩ | ⟨rfl, l1, l2, l3⟩
      · have h4 : PG w4 m4 B N f := h3.tok l1 (ft3 l2) (frm_refl m4)
        rw [if_neg iT, l4, cflaw_o SLo_1 hVx h4.2.2.1 (by unfold rng; omega) (by unfold rng; omega), Option.bind_some, fx_fl] at hc1
        simp only [good_o l1.2.2.1, Option.bind_some, if_neg e10', hasFlaw_o h4.rc hV (show rng v by unfold rng; omega) (show rng v' by unfold rng; omega), eq32_b2] at hm1
        simp only [eq32_b2] at hc1
        cases hfl : flF f v v' with
        | true =>
          obtain ⟨w5, m5, o1, o2, o3, o4, o5⟩ := bad2 l1 (c := 3) (by decide)
          rw [hfl, if_neg (show ¬ true = false by decide), o1, Option.bind_some] at hc1
          refine ⟨false, false, w1, w5, m5, d1, hc1.trans (zr_0 w5), fun n => ?_, frm_trans hfw4 (frm_trans (ftc (ft3 l2)) (fte o4)), frm_trans hfm4 (fse o5), Or.inr ⟨rfl, rfl, o3⟩⟩
          rw [hm1, hfl, if_neg (show ¬ true = false by decide)]
          exact p79_x ((errsIf_1 l1.2.2.1).trans o2) o3.2.2
        | false =>
          have hx : 0 ≤ v ∧ v < 24 := by omega
          have hy : 0 ≤ v' ∧ v' < 12 := by omega
          have hfc := fl_fc hV (x := v) (y := v') (by omega) (by omega) hfl
          have hic : isCF (fx f) v v' = true := by
            unfold isCF
            rw [fx_n (by decide), fx_n (by decide)]
            exact decide_eq_true (by omega)
          obtain ⟨w5, o1, o2, o3⟩ := mark_o SLo_1 hVx h4.2.2.1 hic true
          have o1' : p_X6_mark 116 v v' 1 w4 = some w5 := o1
          have e5 : gF w5 9 4 = nfF f := (o2.1 9 4 id).trans h4.2.2.2.2.2.1.2.2
          rw [hfl, if_pos rfl, l4, o1', Option.bind_some, e5] at hc1
          have hfA : frm S0 (fun a => a = 52) m4 (sA m4 52 ((11 + (24 * v')) + v) 1) := frm_sA (frm_refl m4) rfl
          have hfB : frm (fun o k => o = 9 ∧ k = 4) (fun a => a = 116 + 2) w4 (sF w5 9 4 (nfF f + 1)) := frm_sF (frm_mono o2 (fun _ _ q => absurd q id) (fun _ q => q)) ⟨rfl, rfl⟩
          have hP5 : PT (sF w5 9 4 (nfF f + 1)) (sA m4 52 ((11 + (24 * v')) + v) 1) B N := l1.fr hfB hfA (fun k q => absurd q.1 (by decide)) (fun q => absurd q.1 (by decide)) (by decide) (fun _ _ _ q => q) (by decide)
          have hmk : nfF (mkF f v v' 1) = nfF f + 1 := by rw [mk_nf hx hy, hfc]; omega
          have hVD := h.2.2.2.1
          have mn : ∀ i, i < 11 → mkF f v v' 1 i = f i := fun i hi => mkF_n hx hy (Or.inl hi)
          have hPG5 : PG (sF w5 9 4 (nfF f + 1)) (sA m4 52 ((11 + (24 * v')) + v) 1) B N (mkF f v v' 1) := by
            refine ⟨hP5, ⟨h4.2.1.1, by rw [gA_upd, h4.2.1.2]; rfl⟩, ?_, ⟨mkF_VB (b := true) hV hx hy, ?_, ?_, ?_, ?_, by omega⟩, ⟨(hfB.1 9 1 (by omega)).trans h4.2.2.2.2.1.1, (hfB.1 9 2 (by omega)).trans h4.2.2.2.2.1.2.1, h4.2.2.2.2.1.2.2⟩, ⟨(hfB.1 9 5 (by omega)).trans h4.2.2.2.2.2.1.1, (hfB.1 9 6 (by omega)).trans h4.2.2.2.2.2.1.2.1, by rw [hmk, gF_sF, if_pos ⟨rfl, rfl⟩]⟩, by rw [hfB.1 9 5 (by omega), hfB.1 9 6 (by omega)]; exact h4.2.2.2.2.2.2⟩
            · rw [fx_mk hx hy]
              exact (o3 : RS w5 116 (mkF (fx f) v v' 1)).fr (frm_sF (frm_refl w5) ⟨rfl, rfl⟩ : frm (fun o k => o = 9 ∧ k = 4) T0 w5 _) (fun d k _ q => by omega) (fun d _ q => q)
            · rw [mn 1 (by decide)]; exact hVD.2.1
            · rw [mn 3 (by decide)]; exact hVD.2.2.1
            · rw [mn 4 (by decide)]; exact hVD.2.2.2.1
            · rw [mn 6 (by decide), mn 7 (by decide), mn 8 (by decide)]; exact hVD.2.2.2.2.1
          obtain ⟨w6, m6, q1, q2, q3, q4, q5⟩ := step2 hP5
          have hPG6 := hPG5.tok q5 (ft8 q3) q4
          obtain ⟨c, t1, t2⟩ := comma_o q5
          have e94' : gF w6 9 4 = nfF f + 1 := hPG6.2.2.2.2.2.1.2.2.trans hmk
          have hw94 : gF w 9 4 = nfF f := h.2.2.2.2.2.1.2.2
          have wE : ∀ a k, ¬ (a = 8) → ¬ (a = 9 ∧ (k = 3 ∨ k = 4)) → gF w6 a k = gF w a k := fun a k q0 q1' => by
            rw [q3.1 a k q0, hfB.1 a k (by omega), l2.1 a k (by omega), j3.1 a k q0, i2.1 a k (by omega), d3.1 a k q0]
          rw [q1, Option.bind_some] at hc1
          refine ⟨true, c, w1, w6, m6, d1, hc1, fun n => ?_, ?_, ?_, Or.inl ⟨rfl, ⟨_, hPG6⟩, ⟨by omega, ?_⟩, t1⟩⟩
          · rw [hm1, hfl, if_pos rfl]
            unfold p_X9_parseFlaws_78 p_X9_parseFlaws_79 p_X9_parseFlaws_97 p_X9_putFlaw
            rw [errsIf_0 l1.2.2.1, Option.bind_some, good_o l1.2.2.1, Option.bind_some]
            dsimp only
            rw [if_neg e10', if_neg (show ¬ (inb ((11 + (24 * v')) + v) 1099 = false) by rw [inb_f (by omega)]; exact id), h4.2.1.1, Option.bind_some, q2, Option.bind_some, t2, Option.bind_some]
          · exact frm_trans hfw4 (frm_trans (ftc (ft3 l2)) (frm_trans (frm_mono hfB (fun o k q => by unfold SPc; omega) (fun o q => by unfold TPc; omega)) (ftc (ft8 q3))))
          · exact frm_trans hfm4 (frm_trans (frm_mono hfA (fun _ _ q => absurd q id) (fun _ q => q)) (fsc q4))
          · unfold mu
            rw [wE 9 5 (by decide) (by decide), wE 9 6 (by decide) (by decide), wE 116 4 (by decide) (by decide)]; omega
      · rw [if_pos iF] at hc1
        refine ⟨false, false, w1, w4, m4, d1, hc1, fun n => ?_, frm_trans hfw4 (fte l2), frm_trans hfm4 (fse l3), Or.inr ⟨rfl, rfl, l1⟩⟩
        rw [hm1, good_x l1.2.2, Option.bind_some]
        dsimp only
        rw [if_pos e00]
        exact p79_x (errsIf_x l1.2.2) l1.2.2
  · refine ⟨false, false, w1, w2, m2, d1, ?_, fun n => ?_, frm_trans (ftc (ft8 d3)) (fte i2), frm_trans (fsc d4) (fse i3), Or.inr ⟨rfl, rfl, i1⟩⟩
    · unfold p_X3_readFlaw
      rw [g0, e1, Option.bind_some]
      dsimp only
      rw [if_pos iF]; rfl
    · rw [hm0, flaws_o (f := cR m2) rfl, Option.bind_some]
      dsimp only
      rw [p37_x (errsIf_x i1.2.2) i1.2.2, p37_x (errsIf_x i1.2.2) i1.2.2, ite_self]
      rfl
/-- the end of a statement -/
theorem end_ST {w0 m0 : Wd} (h : PG w m B N f) (hw : frm SPc TPc w0 w) (hm : frm SPm TPm m0 m) (hmu : mu w0 + 1 ≤ mu w) : ∃ r w' m', p_X3_readEnd w = some (b2 r, w') ∧ p_X9_semicolon m = some m' ∧ ST w0 m0 B N r w' m' := by
  obtain ⟨r, w', m', a1, a2, a3⟩ := end_o h.1
  refine ⟨r, w', m', a1, a2, ?_⟩
  rcases a3 with ⟨rfl, o1, o2, o3⟩ | ⟨rfl, o1, o2, o3⟩
  · exact ⟨frm_trans hw (ftc o2), frm_trans hm (fsc o3), Or.inl ⟨rfl, ⟨f, h.tok o1 o2 o3⟩, by rw [mu_tok o2]; exact hmu⟩⟩
  · exact ⟨frm_trans hw (fte o2), frm_trans hm (fse o3), Or.inr ⟨rfl, o1⟩⟩
theorem flaws_lp {w0 m0 : Wd} : ∀ (j n n' : Nat) (x3 : Int) (w m : Wd) (f : Rw), PG w m B N f → frm SPc TPc w0 w → frm SPm TPm m0 m → mu w0 ≤ mu w → gF w 9 4 + j = 40 → 0 ≤ x3 → x3 ≤ gF w 9 4 → j + 2 < n → j + 2 < n' →
    ∃ r w' m', p_X3_readFlaws_4 116 n 1 x3 w = some (b2 r, w') ∧ p_X9_parseFlaws_2 n' 1 m = some m' ∧ ST w0 m0 B N r w' m' := by
  have iT : ¬ eq32 (b2 true) 0 = true := by decide +kernel
  have iF : eq32 (b2 false) 0 = true := by decide +kernel
  intro j
  induction j with
  | zero =>
    intro n n' x3 w m f h hw hm hmu hj x0 x1 hn hn'
    obtain ⟨n, rfl⟩ : ∃ q, n = q + 1 := ⟨n - 1, by omega⟩
    obtain ⟨n', rfl⟩ : ∃ q, n' = q + 2 := ⟨n' - 2, by omega⟩
    obtain ⟨r, c, w1, w2, m2, a1, a2, a3, a4, a5, a6⟩ := flaw_it h
    simp only [p_X3_readFlaws_4]
    rw [if_pos (show lt32 x3 500 = true by rw [lt32_o (by omega)]; omega), if_neg e10', a1, Option.bind_some, a2, Option.bind_some, a3]
    dsimp only
    rcases a6 with ⟨rfl, ⟨f', b1⟩, b2', b3⟩ | ⟨rfl, rfl, b1⟩
    · exfalso
      have := b1.2.2.2.1.2.2.2.2.2
      have := b1.2.2.2.2.2.1.2.2
      omega
    · rw [if_pos iF]
      simp only [p_X9_parseFlaws_2]
      rw [if_pos iF]
      unfold p_X9_parseFlaws_111
      rw [semicolon_x b1.2.2]
      exact ⟨false, w2, m2, rfl, rfl, frm_trans hw a4, frm_trans hm a5, Or.inr ⟨rfl, b1⟩⟩
  | succ j ih =>
    intro n n' x3 w m f h hw hm hmu hj x0 x1 hn hn'
    obtain ⟨n, rfl⟩ : ∃ q, n = q + 1 := ⟨n - 1, by omega⟩
    obtain ⟨n', rfl⟩ : ∃ q, n' = q + 1 := ⟨n' - 1, by omega⟩
    obtain ⟨r, c, w1, w2, m2, a1, a2, a3, a4, a5, a6⟩ := flaw_it h
    simp only [p_X3_readFlaws_4]
    rw [if_pos (show lt32 x3 500 = true by rw [lt32_o (by omega)]; omega), if_neg e10', a1, Option.bind_some, a2, Option.bind_some, a3]
    dsimp only
    rcases a6 with ⟨rfl, ⟨f', b1⟩, ⟨b2', b3⟩, b4⟩ | ⟨rfl, rfl, b1⟩
    · rw [if_neg iT, b4, Option.bind_some]
      dsimp only
      cases c with
      | true => exact ih n n' (x3 + 1) w2 m2 f' b1 (frm_trans hw a4) (frm_trans hm a5) (by omega) (by omega) (by omega) (by omega) (by omega) (by omega)
      | false =>
        obtain ⟨n, rfl⟩ : ∃ q, n = q + 1 := ⟨n - 1, by omega⟩
        obtain ⟨n', rfl⟩ : ∃ q, n' = q + 1 := ⟨n' - 1, by omega⟩
        obtain ⟨r, w3, m3, d1, d2, d3⟩ := end_ST b1 (frm_trans hw a4) (frm_trans hm a5) (by omega)
        simp only [p_X3_readFlaws_4, p_X9_parseFlaws_2]
        rw [if_pos iF, if_pos iF, ite_self]
        unfold p_X3_readFlaws_48 p_X9_parseFlaws_111
        rw [d1, Option.bind_some, d2, Option.bind_some]
        exact ⟨r, w3, m3, zr_b2 r w3, rfl, d3⟩
    · obtain ⟨n', rfl⟩ : ∃ q, n' = q + 1 := ⟨n' - 1, by omega⟩
      rw [if_pos iF]
      simp only [p_X9_parseFlaws_2]
      rw [if_pos iF]
      unfold p_X9_parseFlaws_111
      rw [semicolon_x b1.2.2]
      exact ⟨false, w2, m2, rfl, rfl, frm_trans hw a4, frm_trans hm a5, Or.inr ⟨rfl, b1⟩⟩
theorem flaws_ST (h : PG w m B N f) : ∃ r w' m', p_X3_readFlaws 116 w = some (b2 r, w') ∧ p_X9_parseFlaws m = some m' ∧ ST w m B N r w' m' := by
  have h40 := h.2.2.2.1.2.2.2.2.2
  have h94 := h.2.2.2.2.2.1.2.2
  have hn0 := (nf_rng h.2.2.2.1.1).1
  have hFU : FU = 1000000 := rfl
  exact flaws_lp (40 - gF w 9 4).toNat FU FU 0 w m f h (frm_refl w) (frm_refl m) (Int.le_refl _) (by omega) (Int.le_refl _) (by omega) (by omega) (by omega)
end FL
