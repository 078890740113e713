/-! ===== letters, strokes ===== -/
theorem rm_o {a b : Int} (h : 0 ≤ a ∧ a < 2147483648) (hb : 0 < b ∧ b < 2147483648) : rm32 a b = a % b := by
  unfold rm32 dv32
  rw [w32_id (by omega) h.2, w32_id (by omega) hb.2, Int.tdiv_eq_ediv_of_nonneg h.1, Int.emod_def, Int.mul_comm]
def plainF (x : Int) : Int := if x < 97 then 2 + (x - 48) % 3 else 1 + (7 * (x - 97)) % 5
theorem plain_rng {x : Int} : 1 ≤ plainF x ∧ plainF x ≤ 5 := by unfold plainF; split <;> omega
def tchF (f : Rw) (x y : Int) : Bool := flF f (x - 1) y || flF f (x + 1) y || flF f x (y - 1) || flF f x (y + 1)
def strF (f : Rw) (v k : Int) : Int := if tchF f (cLF f v + k) (rLF f v) = true then 2 * plainF (wbF f v k) else plainF (wbF f v k)
theorem str_rng {f : Rw} {v k : Int} : 1 ≤ strF f v k ∧ strF f v k ≤ 10 := by
  have h := plain_rng (x := wbF f v k)
  unfold strF; split <;> omega
/-- a letter's word, its strokes, its place -/
def wlF (f : Rw) (n : Int) : Int := fnd (fun v => decide (n < laF f (v + 1))) 60 0
def cosF (f : Rw) (n : Int) : Int := strF f (wlF f n) (n - laF f (wlF f n))
def plF (f : Rw) (n : Int) : Int := 100 * rLF f (wlF f n) + (cLF f (wlF f n) + (n - laF f (wlF f n)))
theorem cos_rng {f : Rw} {n : Int} : 1 ≤ cosF f n ∧ cosF f n ≤ 10 := str_rng
theorem wl_uniq {f : Rw} (hV : VB f) {v n : Int} (h : 0 ≤ v ∧ v < f 10) (h1 : laF f v ≤ n) (h2 : n < laF f v + wnF f v) : wlF f n = v := by
  have hw := hV.w
  unfold wlF
  rcases fnd_spec (p := fun v => decide (n < laF f (v + 1))) 60 0 with ⟨h3, h4⟩ | ⟨h3, h4, h5⟩
  · have := h4 v h.1 (by omega)
    have := of_decide_eq_false this
    rw [laF_step h.1] at this
    omega
  · generalize hu : fnd (fun v => decide (n < laF f (v + 1))) 60 0 = u at *
    have h6 := of_decide_eq_true h5
    by_cases c : u < v
    · have := laF_mono hV (show u + 1 ≤ v by omega) (by omega)
      omega
    · by_cases c2 : v < u
      · exfalso
        have h7 : ∀ (m : Nat) (x : Int), x ≤ v → v < x + m → fnd (fun v => decide (n < laF f (v + 1))) m x ≤ v := by
          intro m
          induction m with
          | zero => intro x a b; exact absurd b (by omega)
          | succ m ih =>
            intro x a b
            unfold fnd
            by_cases d : x = v
            · rw [if_pos (decide_eq_true (by rw [d, laF_step h.1]; exact h2))]; omega
            · by_cases d2 : decide (n < laF f (x + 1)) = true
              · rw [if_pos d2]; exact a
              · rw [if_neg d2]; exact ih (x + 1) (by omega) (by omega)
        have := h7 60 0 h.1 (by omega)
        omega
      · omega
theorem wl_ex {f : Rw} (hV : VB f) {N n : Int} (h : 0 ≤ N ∧ N ≤ f 10) (h1 : 0 ≤ n ∧ n < laF f N) : (0 ≤ wlF f n ∧ wlF f n < N) ∧ laF f (wlF f n) ≤ n ∧ n < laF f (wlF f n) + wnF f (wlF f n) := by
  have hw := hV.w
  have h2 : ∀ m : Nat, (m : Int) ≤ f 10 → n < laF f m → ∃ v : Int, 0 ≤ v ∧ v < m ∧ laF f v ≤ n ∧ n < laF f v + wnF f v := by
    intro m
    induction m with
    | zero => intro _ b; rw [show laF f ((0 : Nat) : Int) = 0 from rfl] at b; exact absurd b (by omega)
    | succ m ih =>
      intro a b
      by_cases c : n < laF f m
      · obtain ⟨v, v0, v1, v2⟩ := ih (by omega) c
        exact ⟨v, v0, by omega, v2⟩
      · rw [show ((m + 1 : Nat) : Int) = (m : Int) + 1 by omega, laF_step (by omega)] at b
        exact ⟨m, by omega, by omega, by omega, b⟩
  obtain ⟨v, v0, v1, v2, v3⟩ := h2 N.toNat (by omega) (by rw [Int.toNat_of_nonneg h.1]; exact h1.2)
  rw [wl_uniq hV ⟨v0, by omega⟩ v2 v3]
  exact ⟨⟨v0, by omega⟩, v2, v3⟩
section L9
variable {f : Rw} {w : Wd}
theorem plain_o {x : Int} (h : isB x) : p_X9_plainStrokes x w = some (plainF x, w) := by
  unfold isB at h
  unfold p_X9_plainStrokes plainF
  simp (disch := omega) only [lt32_o]
  by_cases c : x < 97
  · rw [if_pos c, if_pos c, rm_o (by omega) (by omega)]
  · rw [if_neg c, if_neg c, rm_o (by omega) (by omega)]
theorem isTouched_o (hf : cR w = f) (hV : VB f) {x y : Int} (hx : -100 ≤ x ∧ x ≤ 100) (hy : -100 ≤ y ∧ y ≤ 100) : p_X9_isTouched x y w = some (b2 (tchF f x y), w) := by
  unfold p_X9_isTouched p_X9_isTouched_44 tchF
  rw [hasFlaw_o hf hV ⟨by omega, by omega⟩ ⟨by omega, by omega⟩, Option.bind_some]
  simp only [eq32_b2]
  rw [hasFlaw_o hf hV ⟨by omega, by omega⟩ ⟨by omega, by omega⟩, Option.bind_some]
  simp only [eq32_b2]
  rw [hasFlaw_o hf hV ⟨by omega, by omega⟩ ⟨by omega, by omega⟩, Option.bind_some]
  simp only [eq32_b2]
  rw [hasFlaw_o hf hV ⟨by omega, by omega⟩ ⟨by omega, by omega⟩, Option.bind_some]
  simp only [eq32_b2]
  generalize flF f (x - 1) y = a
  generalize flF f (x + 1) y = b
  generalize flF f x (y - 1) = c
  generalize flF f x (y + 1) = d
  cases a <;> cases b <;> cases c <;> cases d <;> rfl
theorem nL_rng (hV : VB f) : 0 ≤ nLF f ∧ nLF f ≤ f 10 ∧ nLF f ≤ 60 := by
  have h1 := lF_ok hV
  have h2 := hV.w
  exact ⟨h1.1, h1.2.1, by omega⟩
theorem rc_rng (hV : VB f) {v : Int} (h : 0 ≤ v ∧ v < nLF f) : 0 ≤ rLF f v ∧ rLF f v < 12 ∧ rLF f v < f 1 ∧ 0 ≤ cLF f v ∧ cLF f v + wnF f v ≤ f 0 ∧ f 0 ≤ 24 ∧ 1 ≤ wnF f v ∧ wnF f v ≤ 12 := by
  have h1 := lF_ok hV
  obtain ⟨g1, g2, g3, g4⟩ := h1.2.2.1.1 v h.1 h.2
  have g5 := fitF_w g4
  have g6 := hV.wn (v := v) h.1 (by omega)
  have g7 := hV.r
  have g8 := hV.c
  omega
theorem strokesOf_o (hf : cR w = f) (hV : VB f) (hA : AR9 w (nLF f) (rLF f) (cLF f)) {v k : Int} (h : 0 ≤ v ∧ v < nLF f) (hk : 0 ≤ k ∧ k < wnF f v) : p_X9_strokesOf v k w = some (strF f v k, w) := by
  have h1 := nL_rng hV
  have h2 := rc_rng hV h
  unfold p_X9_strokesOf
  rw [byteOf_o hf (by omega) (by omega), Option.bind_some]
  dsimp only
  rw [plain_o (hV.wb h.1 (by omega) hk.1 hk.2), Option.bind_some]
  dsimp only
  rw [if_neg (by rw [inb_f (by omega)]; exact id), if_neg (by rw [inb_f (by omega)]; exact id), (hA.2 v h.1 h.2).1, (hA.2 v h.1 h.2).2, isTouched_o hf hV (by omega) (by omega), Option.bind_some]
  simp only [eq32_b2]
  unfold strF
  cases tchF f (cLF f v + k) (rLF f v) <;> rfl
theorem letters_o (hf : cR w = f) (hV : VB f) (hA : gF w 50 6 = nLF f) : p_X9_letters w = some (laF f (nLF f), w) := by
  have h1 := nL_rng hV
  unfold p_X9_letters
  rw [hA, lettersAhead_o hf (by omega), Option.bind_some]
theorem wordOfLetter_o (hf : cR w = f) (hV : VB f) {N n : Int} (h : 0 ≤ N ∧ N ≤ f 10) (h1 : 0 ≤ n ∧ n < laF f N) : p_X9_wordOfLetter n w = some (wlF f n, w) := by
  have hw := hV.w
  obtain ⟨h2, h3, h4⟩ := wl_ex hV h h1
  have hN := laF_rng hV h.1 h.2
  have hl : ∀ (m q : Nat) (x : Int), 0 ≤ x → x ≤ wlF f n → wlF f n < x + m → m < q → p_X9_wordOfLetter_2 q n x w = some (wlF f n, w) := by
    intro m
    induction m with
    | zero => intro q x a b c; exact absurd c (by omega)
    | succ m ih =>
      intro q x a b c d
      obtain ⟨q', rfl⟩ : ∃ q', q = q' + 1 := ⟨q - 1, by omega⟩
      have hx := laF_rng hV (p := x + 1) (by omega) (by omega)
      simp only [p_X9_wordOfLetter_2]
      rw [lettersAhead_o hf (by omega), Option.bind_some]
      simp (disch := omega) only [lt32_o]
      by_cases e : x = wlF f n
      · rw [← e] at h3 h4 ⊢
        rw [if_pos (by rw [laF_step a]; exact h4)]
      · have := laF_mono hV (show x + 1 ≤ wlF f n by omega) (by omega)
        rw [if_neg (by omega)]
        exact ih q' (x + 1) (by omega) (by omega) (by omega) (by omega)
  unfold p_X9_wordOfLetter
  exact hl 60 FU 0 (by omega) h2.1 (by omega) (by decide)
theorem strokesOfLetter_o (hf : cR w = f) (hV : VB f) (hA : AR9 w (nLF f) (rLF f) (cLF f)) {n : Int} (h : 0 ≤ n ∧ n < laF f (nLF f)) : p_X9_strokesOfLetter n w = some (cosF f n, w) := by
  have h1 := nL_rng hV
  obtain ⟨h2, h3, h4⟩ := wl_ex hV ⟨h1.1, h1.2.1⟩ h
  unfold p_X9_strokesOfLetter
  rw [wordOfLetter_o hf hV ⟨h1.1, h1.2.1⟩ h, Option.bind_some]
  dsimp only
  rw [lettersAhead_o hf (by omega), Option.bind_some]
  dsimp only
  rw [strokesOf_o hf hV hA h2 (by omega), Option.bind_some]
  rfl
end L9
/-! the class's letters -/
def SLL (l o k : Nat) : Prop := o = l ∧ k = 5
def TLL (l o : Nat) : Prop := o = l + 6 ∨ o = l + 8
def LT (w : Wd) (l : Nat) (f : Rw) : Prop := gF w l 5 = laF f (nLF f) ∧ ∀ n, 0 ≤ n → n < laF f (nLF f) → gA w (l + 6) n = plF f n ∧ gA w (l + 8) n = cosF f n
theorem RS.ltr {w w' : Wd} {o l : Nat} {f : Rw} (h : RS w o f) (hfr : frm (SLL l) (TLL l) w w') (ho : SLo o) (hl : LAo l) : RS w' o f := by
  have h1 := ho.ge
  have h2 := hl.le
  exact h.fr hfr (fun d k _ q => by have := q.1; omega) (fun d _ q => by rcases q with q | q <;> omega)
section LL
variable {f : Rw} {o l : Nat}
theorem strokesOn_o (ho : SLo o) (hV : VB f) {w : Wd} (hS : RS w o f) {x c r : Int} (hx : isB x) (hc : 0 ≤ c ∧ c < 24) (hr : 0 ≤ r ∧ r < 12) : p_X6_strokesOn o x c r w = some (if tchF f c r = true then 2 * plainF x else plainF x, w) := by
  unfold isB at hx
  have ht := touch_o ho hV hS hc hr
  have h46 : ∀ s : Int, p_X6_strokesOn_46 o c r s w = some (if tchF f c r = true then 2 * s else s, w) := by
    intro s
    unfold p_X6_strokesOn_46
    rw [ht, Option.bind_some]
    simp only [eq32_b2]
    show _ = some (if (flF f (c - 1) r || flF f (c + 1) r || flF f c (r - 1) || flF f c (r + 1)) = true then _ else _, w)
    cases (flF f (c - 1) r || flF f (c + 1) r || flF f c (r - 1) || flF f c (r + 1)) <;> rfl
  unfold p_X6_strokesOn p_X6_strokesOn_16 p_X6_strokesOn_17
  simp (disch := omega) only [lt32_o, h46]
  unfold plainF
  by_cases c1 : x < 97
  · rw [if_neg (by omega), if_neg (by omega), if_neg e10, if_pos c1, rm_o (by omega) (by omega)]
  · rw [if_neg (by omega), if_pos (by omega), if_pos e00, if_neg c1, rm_o (by omega) (by omega)]
theorem listC (ho : SLo o) (hl : LAo l) (hV : VB f) {w : Wd} (hS : RS w o f) (hL : ARC w l (nLF f) (rLF f) (cLF f)) : ∃ w', p_X2_listLetters l o w = some w' ∧ frm (SLL l) (TLL l) w w' ∧ LT w' l f := by
  have h1 := nL_rng hV
  have h288 := (lF_ok hV).2.2.2
  have hl20 := hl.le
  have hog := ho.ge
  let Q : Int → Wd → Prop := fun n w' => frm (SLL l) (TLL l) w w' ∧ gF w' l 5 = n ∧ ∀ i, 0 ≤ i → i < n → gA w' (l + 6) i = plF f i ∧ gA w' (l + 8) i = cosF f i
  have hin : ∀ (v : Int) (k7 : Int → Wd → Option Wd) (w1 : Wd), 0 ≤ v → v < nLF f → Q (laF f v) w1 → ∃ w2, p_X2_listLetters_27 l o k7 FU v (wnF f v) 0 w1 = k7 (v + 1) w2 ∧ Q (laF f (v + 1)) w2 := by
    intro v k7 w1 v0 v1 hQ
    have hrc := rc_rng hV ⟨v0, v1⟩
    have hle := laF_mono hV (show v + 1 ≤ nLF f by omega) h1.2.1
    have hge := laF_rng hV v0 (by omega)
    rw [laF_step v0] at hle
    obtain ⟨w2, q1, q2, q3⟩ := loop_up (lp := fun n x w => p_X2_listLetters_27 l o k7 n v (wnF f v) x w) (fin := fun w => k7 (v + 1) w) (b := wnF f v) (I := fun x w' => 0 ≤ x ∧ Q (laF f v + x) w')
      (fun n x w' hx hI => by
        obtain ⟨i0, i1, i2, i3⟩ := hI
        have hR' : RS w' o f := hS.ltr i1 ho hl
        have eR : gA w' (l + 2) v = rLF f v := (i1.2.1 (l + 2) (fun q => by rcases q with q | q <;> omega) v).trans (hL.2 v v0 v1).1
        have eC : gA w' (l + 4) v = cLF f v := (i1.2.1 (l + 4) (fun q => by rcases q with q | q <;> omega) v).trans (hL.2 v v0 v1).2
        have hwl : wlF f (laF f v + x) = v := wl_uniq hV ⟨v0, by omega⟩ (by omega) (by omega)
        simp (disch := omega) only [p_X2_listLetters_27, lt32_o, hx, if_true]
        rw [atC_o hl (by omega), Option.bind_some]
        dsimp only
        rw [atR_o hl (by omega), Option.bind_some]
        dsimp only
        rw [eC, eR, i2, put_in (o := l + 5) ⟨by omega, by rw [show ln (l + 5 + 1) = 288 from hl.l6]; omega⟩, Option.bind_some]
        have hfrA : frm (SLL l) (TLL l) w' (sA w' (l + 5 + 1) (laF f v + x) (100 * rLF f v + (cLF f v + x))) := frm_sA (frm_refl w') (Or.inl rfl)
        have hRA : RS (sA w' (l + 5 + 1) (laF f v + x) (100 * rLF f v + (cLF f v + x))) o f := hR'.ltr hfrA ho hl
        rw [byteC_o ho hV hRA (by omega) (by omega), Option.bind_some]
        dsimp only
        rw [atR_o hl (by omega), Option.bind_some]
        dsimp only
        have eR2 : gA (sA w' (l + 5 + 1) (laF f v + x) (100 * rLF f v + (cLF f v + x))) (l + 2) v = rLF f v := by rw [gA_sA, if_neg (by omega)]; exact eR
        rw [eR2, strokesOn_o ho hV hRA (hV.wb v0 (by omega) i0 hx) (by omega) (by omega), Option.bind_some]
        dsimp only
        have e5 : gF (sA w' (l + 5 + 1) (laF f v + x) (100 * rLF f v + (cLF f v + x))) l 5 = laF f v + x := i2
        rw [e5, put_in (o := l + 7) ⟨by omega, by rw [show ln (l + 7 + 1) = 288 from hl.l8]; omega⟩, Option.bind_some]
        refine ⟨_, rfl, by omega, frm_trans i1 (frm_sF (frm_sA hfrA (Or.inr rfl)) ⟨rfl, rfl⟩), ?_, fun i j0 j1 => ?_⟩
        · rw [gF_sF, if_pos ⟨rfl, rfl⟩]
          show gF w' l 5 + 1 = _
          omega
        · simp only [gA_sF, gA_sA]
          by_cases d : i = laF f v + x
          · rw [if_neg (by omega), if_pos ⟨trivial, d⟩, if_pos ⟨trivial, d⟩]
            unfold plF cosF strF
            rw [d, hwl, show laF f v + x - laF f v = x by omega]
            exact ⟨rfl, rfl⟩
          · rw [if_neg (by omega), if_neg (by omega), if_neg (by omega), if_neg (by omega)]
            exact i3 i j0 (by omega))
      (fun n w' hI => by
        simp (disch := omega) only [p_X2_listLetters_27, lt32_o, Int.lt_irrefl, if_false]; rfl)
      FU 0 w1 (by omega) ⟨by omega, by rw [Int.add_zero]; exact hQ⟩ (by have : FU = 1000000 := rfl; omega)
    rw [laF_step v0]
    exact ⟨w2, q1, q3⟩
  have hout : ∀ (m n : Nat) (v : Int) (w1 : Wd), 0 ≤ v → v + m = nLF f → Q (laF f v) w1 → m < n → ∃ w2, p_X2_listLetters_7 l o n v w1 = some w2 ∧ Q (laF f (nLF f)) w2 := by
    intro m
    induction m with
    | zero =>
      intro n v w1 v0 v1 hQ hn
      obtain ⟨n', rfl⟩ : ∃ n', n = n' + 1 := ⟨n - 1, by omega⟩
      have e4 : gF w1 l 4 = nLF f := (hQ.1.1 l 4 (fun q => by have := q.2; omega)).trans hL.1
      simp (disch := omega) only [p_X2_listLetters_7, e4, lt32_o]
      rw [if_neg (by omega)]
      exact ⟨w1, rfl, by rw [← v1, show v + ((0 : Nat) : Int) = v by omega]; exact hQ⟩
    | succ m ih =>
      intro n v w1 v0 v1 hQ hn
      obtain ⟨n', rfl⟩ : ∃ n', n = n' + 1 := ⟨n - 1, by omega⟩
      have e4 : gF w1 l 4 = nLF f := (hQ.1.1 l 4 (fun q => by have := q.2; omega)).trans hL.1
      simp (disch := omega) only [p_X2_listLetters_7, e4, lt32_o]
      rw [if_pos (by omega), lenC_o ho hV (hS.ltr hQ.1 ho hl) (by omega), Option.bind_some]
      dsimp only
      obtain ⟨w2, q1, q2⟩ := hin v (p_X2_listLetters_7 l o n') w1 v0 (by omega) hQ
      rw [q1]
      exact ih n' (v + 1) w2 (by omega) (by omega) q2 (by omega)
  unfold p_X2_listLetters
  obtain ⟨w2, q1, q2⟩ := hout (nLF f).toNat FU 0 (sF w l 5 0) (by decide) (by omega) ⟨frm_sF (frm_refl w) ⟨rfl, rfl⟩, by rw [gF_sF, if_pos ⟨rfl, rfl⟩]; rfl, fun i i0 i1 => absurd i1 (by rw [laF_0]; omega)⟩ (by have : FU = 1000000 := rfl; omega)
  exact ⟨w2, q1, q2.1, q2.2⟩
end LL
