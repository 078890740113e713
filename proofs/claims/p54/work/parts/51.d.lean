/-! ===== remembering, on both sides ===== -/
theorem initS_F {w : Wd} {q o k : Nat} (h1 : o ≠ q) (h2 : o ≠ q + 11) : gF (initS w q) o k = gF w o k := by
  unfold gF initS
  dsimp only
  rw [if_neg h1, if_neg h2]
theorem initS_A {w : Wd} {q o : Nat} {i : Int} (h : ¬ (q ≤ o ∧ o < q + 12)) : gA (initS w q) o i = gA w o i := by
  unfold gA initS
  dsimp only
  rw [if_neg h]
theorem oldest_o {w : Wd} : ∃ w', p_X4_oldestToEnd w = some w' ∧ (∀ o k, gF w' o k = gF w o k) ∧ (∀ o i, gA w' o i = gA w o i) ∧ (∀ o i, o ≠ 32 → gP w' o i = gP w o i) ∧ (∀ j, 0 ≤ j → j < 5 → gP w' 32 j = gP w 32 (j + 1)) ∧ gP w' 32 5 = gP w 32 0 := by
  unfold p_X4_oldestToEnd
  obtain ⟨w', h1, h2, h3, h4, h5, h6, h7, h8⟩ := loop_up (lp := fun n x w => p_X4_oldestToEnd_2 n x w) (fin := some) (b := 6)
    (I := fun x w' => 1 ≤ x ∧ (∀ o k, gF w' o k = gF w o k) ∧ (∀ o i, gA w' o i = gA w o i) ∧ (∀ o i, o ≠ 32 → gP w' o i = gP w o i) ∧ (∀ j, 0 ≤ j → j < x - 1 → gP w' 32 j = gP w 32 (j + 1)) ∧ gP w' 32 (x - 1) = gP w 32 0 ∧ (∀ j, x ≤ j → gP w' 32 j = gP w 32 j))
    (fun n x w' hx hI => by
      obtain ⟨i0, i1, i2, i3, i4, i5, i6⟩ := hI
      simp (disch := omega) only [p_X4_oldestToEnd_2, lt32_o, hx, if_true, inb_f, if_false, Option.bind_some]
      refine ⟨_, rfl, by omega, i1, i2, fun o i ho => ?_, fun j j0 j1 => ?_, ?_, fun j hj => ?_⟩
      · rw [gP_sP, if_neg (fun h => ho h.1), gP_sP, if_neg (fun h => ho h.1)]; exact i3 o i ho
      · rw [gP_sP, if_neg (by omega), gP_sP]
        by_cases c : j = x - 1
        · rw [if_pos ⟨rfl, c⟩, c, show x - 1 + 1 = x by omega]; exact i6 x (Int.le_refl _)
        · rw [if_neg (fun h => c h.2)]; exact i4 j j0 (by omega)
      · rw [show x + 1 - 1 = x by omega, gP_sP, if_pos ⟨rfl, rfl⟩]; exact i5
      · rw [gP_sP, if_neg (by omega), gP_sP, if_neg (by omega)]; exact i6 j (by omega))
    (fun n w' hI => by simp (disch := omega) only [p_X4_oldestToEnd_2, lt32_o, Int.lt_irrefl, if_false])
    FU 1 w (by decide) ⟨Int.le_refl _, fun _ _ => rfl, fun _ _ => rfl, fun _ _ _ => rfl, fun j j0 j1 => absurd j1 (by omega), rfl, fun _ _ => rfl⟩ (by decide)
  exact ⟨w', h1, h3, h4, h5, fun j j0 j1 => h6 j j0 (by omega), h7⟩
/-- what happens to the class's past: sh of them are gone, and the slab as it is stands behind the others -/
def PUc (na : Nat) (w : Wd) (na' : Nat) (w' : Wd) (c sh : Int) (f : Rw) : Prop :=
  gF w' 31 1 = c - sh + 1 ∧ PTr na' w' ∧ (∀ j, 0 ≤ j → j < c - sh → gP w' 32 j = gP w 32 (j + sh) ∧ ∀ g, RS w (gP w 32 (j + sh)) g → gP w 32 (j + sh) ≠ 0 → RS w' (gP w' 32 j) g) ∧
  gP w' 32 (c - sh) ≠ 0 ∧ RS w' (gP w' 32 (c - sh)) f ∧ (∀ s, 0 ≤ s → s < 2 → gP w' 33 s = gP w 33 s ∧ ∀ g, RS w (gP w 33 s) g → gP w 33 s ≠ 0 → RS w' (gP w' 33 s) g) ∧
  frm (fun o k => (o = 31 ∧ k = 1) ∨ 132 ≤ o) (fun o => 132 ≤ o) (w.1, w.2.1, w'.2.2) w'
theorem keepAt {w w' : Wd} {q r : Nat} {g : Rw} (h : RS w (sl q) g) (hne : q ≠ r) (hF : ∀ o k, ¬ (sl r ≤ o ∧ o < sl r + 12) → o ≠ 31 → gF w' o k = gF w o k) (hA : ∀ o i, ¬ (sl r ≤ o ∧ o < sl r + 12) → gA w' o i = gA w o i) : RS w' (sl q) g :=
  h.keep (fun k => hF _ k (by unfold sl; omega) (by unfold sl; omega)) (fun k => hF _ k (by unfold sl; omega) (by unfold sl; omega)) (fun d hd i => hA _ i (by unfold sl; omega))
theorem rem27 {na : Nat} {w0 w : Wd} {c sh : Int} {f : Rw} (hc : gF w 31 1 = c - sh) (h0 : 0 ≤ c - sh ∧ c - sh < 6) (hV : VB f) (hS : RS w 100 f) (hPT : PTr na w)
    (hF : ∀ o k, gF w o k = gF w0 o k ∨ (o = 31 ∧ k = 1)) (hA : ∀ o i, gA w o i = gA w0 o i) (hP : ∀ o i, o ≠ 32 → gP w o i = gP w0 o i) (hQ : ∀ j, 0 ≤ j → j < c - sh → gP w 32 j = gP w0 32 (j + sh)) :
    ∃ na' w', p_X4_remember_27 100 na w = some (.inl 0, na', w') ∧ na ≤ na' ∧ na' ≤ na + 1 ∧ PUc na w0 na' w' c sh f := by
  have hn31 : ∀ o : Nat, (o = 100 ∨ ∃ q, 2 ≤ q ∧ o = sl q) → 100 ≤ o := fun o ho => by
    rcases ho with ho | ⟨q, q1, q2⟩
    · omega
    · unfold sl at q2; omega
  have hRS0 : ∀ o g, (o = 100 ∨ ∃ q, 2 ≤ q ∧ o = sl q) → RS w0 o g → RS w o g := fun o g ho h => h.keep
    (fun k => (hF o k).resolve_right (fun e => by have := hn31 o ho; omega))
    (fun k => (hF (o + 11) k).resolve_right (fun e => by have := hn31 o ho; omega)) (fun d _ i => hA _ i)
  -- the copy into the place r
  have key : ∀ (r na' : Nat) (w1 : Wd), 2 ≤ r → na ≤ na' → na' ≤ na + 1 → (∀ o k, ¬ (sl r ≤ o ∧ o < sl r + 12) → gF w1 o k = gF w o k) → (∀ o i, ¬ (sl r ≤ o ∧ o < sl r + 12) → gA w1 o i = gA w o i) → (∀ o i, o ≠ 32 → gP w1 o i = gP w o i) → (∀ j, j ≠ c - sh → gP w1 32 j = gP w 32 j) → gP w1 32 (c - sh) = sl r → PTr na' w1 →
      ∃ w', p_X4_remember_78 100 (sl r) na' w1 = some (.inl 0, na', w') ∧ PUc na w0 na' w' c sh f := by
    intro r na' w1 r2 n1 n2 kF kA kP kQ kr kPT
    have hS1 : RS w1 100 f := hS.keep (fun k => kF _ k (by unfold sl; omega)) (fun k => kF _ k (by unfold sl; omega)) (fun d hd i => kA _ i (by unfold sl; omega))
    obtain ⟨w2, q1, q2, q3⟩ := slab_cp (i := r) (j := 0) (by omega) w1
    have q1' : p_X6_copy (sl r) 100 w1 = some w2 := q1
    unfold p_X4_remember_78
    rw [q1', Option.bind_some]
    have e31 : gF w2 31 1 = c - sh := (q2.1 31 1 (fun h => by unfold SQ sl at h; omega)).trans ((kF 31 1 (by unfold sl; omega)).trans hc)
    rw [e31]
    have gFx : ∀ o k, ¬ (sl r ≤ o ∧ o < sl r + 12) → ¬ (o = 31 ∧ k = 1) → gF (sF w2 31 1 (c - sh + 1)) o k = gF w o k := fun o k ho h31 => by
      rw [gF_sF, if_neg h31]; exact (q2.1 o k ho).trans (kF o k ho)
    have gAx : ∀ o i, ¬ (sl r ≤ o ∧ o < sl r + 12) → gA (sF w2 31 1 (c - sh + 1)) o i = gA w o i := fun o i ho => (q2.2.1 o ho i).trans (kA o i ho)
    have gPx : ∀ o i, gP (sF w2 31 1 (c - sh + 1)) o i = gP w1 o i := q2.2.2
    have hkeep : ∀ q g, q ≠ r → 2 ≤ q → RS w0 (sl q) g → RS (sF w2 31 1 (c - sh + 1)) (sl q) g := fun q g hq hq2 h =>
      (hRS0 (sl q) g (Or.inr ⟨q, hq2, rfl⟩) h).keep (fun k => gFx _ k (by unfold sl; omega) (by unfold sl; omega)) (fun k => gFx _ k (by unfold sl; omega) (by unfold sl; omega)) (fun d hd i => gAx _ i (by unfold sl; omega))
    refine ⟨_, rfl, by rw [gF_sF, if_pos ⟨rfl, rfl⟩], kPT.keep gPx, fun j j0 j1 => ⟨?_, fun g hg hn => ?_⟩, ?_, ?_, fun s s0 s1 => ⟨?_, fun g hg hn => ?_⟩, ?_, ?_, ?_⟩
    · rw [gPx, kQ j (by omega)]; exact hQ j j0 j1
    · rw [gPx, kQ j (by omega), hQ j j0 j1]
      have e1 : gP w1 32 j = gP w0 32 (j + sh) := (kQ j (by omega)).trans (hQ j j0 j1)
      obtain ⟨q, q5, q6⟩ := kPT.p (j := j) ⟨j0, by omega⟩ (by rw [e1]; exact hn)
      have hqr : q ≠ r := fun e => by
        have := kPT.2.2.1 j (c - sh) j0 (by omega) (by omega) (by omega) (by rw [e1]; exact hn) (by rw [q6, kr, e])
        omega
      rw [← e1, q6] at hg ⊢
      exact hkeep q g hqr q5 hg
    · rw [gPx, kr]; unfold sl; omega
    · rw [gPx, kr]
      exact (q3 f hV hS1).keep (fun k => by rw [gF_sF, if_neg (by unfold sl; omega)]) (fun k => by rw [gF_sF, if_neg (by unfold sl; omega)]) (fun d hd i => rfl)
    · rw [gPx, kP 33 s (by decide)]; exact hP 33 s (by decide)
    · have e1 : gP w1 33 s = gP w0 33 s := (kP 33 s (by decide)).trans (hP 33 s (by decide))
      obtain ⟨q, q5, q6⟩ := kPT.s (j := s) ⟨s0, s1⟩ (by rw [e1]; exact hn)
      have hqr : q ≠ r := fun e => by
        have := kPT.2.2.2.2 (c - sh) s (by omega) (by omega) s0 s1 (by rw [kr]; unfold sl; omega)
        exact this (by rw [kr, q6, e])
      rw [gPx]
      rw [← e1] at hg
      rw [q6] at hg ⊢
      exact hkeep q g hqr q5 hg
    · intro o k ho
      have := gFx o k (by unfold sl; omega) (by omega)
      rw [this]
      exact (hF o k).resolve_right (fun e => ho (Or.inl e))
    · intro o ho i
      exact (gAx o i (by unfold sl; omega)).trans (hA o i)
    · intro o i; rfl
  unfold p_X4_remember_27
  rw [hc, if_neg (by rw [lt32_o (by omega)]; omega), if_pos (by rw [lt32_o (by omega)]; omega), if_neg (by rw [inb_f (by omega)]; exact id)]
  by_cases z : gP w 32 (c - sh) = 0
  · rw [if_pos (decide_eq_true z)]
    have i31 : gF (initS w (sl (na + 2))) 31 1 = c - sh := by
      rw [initS_F (by unfold sl; omega) (by unfold sl; omega)]; exact hc
    rw [i31, if_neg (by rw [inb_f (by omega)]; exact id)]
    have hx := key (na + 2) (na + 1) (sP (initS w (sl (na + 2))) 32 (c - sh) (sl (na + 2))) (by omega) (by omega) (by omega)
      (fun o k ho => by
        rw [gF_sP, initS_F (by omega) (by omega)])
      (fun o i ho => by
        rw [gA_sP, initS_A ho])
      (fun o i ho => by rw [gP_sP, if_neg (fun h => ho h.1)]; rfl)
      (fun j hj => by rw [gP_sP, if_neg (fun h => hj h.2)]; rfl)
      (by rw [gP_sP, if_pos ⟨rfl, rfl⟩])
      (by
        have old : ∀ o i, gP (initS w (sl (na + 2))) o i = gP w o i := fun _ _ => rfl
        have hlt : ∀ q, q < na + 2 → sl q ≠ sl (na + 2) := fun q hq => by unfold sl; omega
        refine ⟨fun j j0 j1 => ?_, fun j j0 j1 => ?_, fun i j i0 i1 j0 j1 hn he => ?_, fun i j i0 i1 j0 j1 hn he => ?_, fun i j i0 i1 j0 j1 hn he => ?_⟩
        · rw [gP_sP]
          by_cases d : j = c - sh
          · rw [if_pos ⟨rfl, d⟩]; exact Or.inr ⟨na + 2, by omega, by omega, rfl⟩
          · rw [if_neg (fun h => d h.2), old]
            rcases hPT.1 j j0 j1 with e | ⟨q, a, b, e⟩
            · exact Or.inl e
            · exact Or.inr ⟨q, a, by omega, e⟩
        · rw [gP_sP, if_neg (by omega), old]
          rcases hPT.2.1 j j0 j1 with e | ⟨q, a, b, e⟩
          · exact Or.inl e
          · exact Or.inr ⟨q, a, by omega, e⟩
        · rw [gP_sP] at hn he
          rw [gP_sP] at he
          by_cases d : i = c - sh
          · rw [if_pos ⟨rfl, d⟩] at he
            by_cases d2 : j = c - sh
            · omega
            · rw [if_neg (fun h => d2 h.2), old] at he
              rcases hPT.1 j j0 j1 with e | ⟨q, a, b, e⟩
              · rw [e] at he; unfold sl at he; omega
              · rw [e] at he; exact absurd he.symm (hlt q b)
          · rw [if_neg (fun h => d h.2), old] at hn he
            by_cases d2 : j = c - sh
            · rw [if_pos ⟨rfl, d2⟩] at he
              rcases hPT.1 i i0 i1 with e | ⟨q, a, b, e⟩
              · exact absurd e hn
              · rw [e] at he; exact absurd he (hlt q b)
            · rw [if_neg (fun h => d2 h.2), old] at he
              exact hPT.2.2.1 i j i0 i1 j0 j1 hn he
        · rw [gP_sP, if_neg (by omega), old] at hn he
          rw [gP_sP, if_neg (by omega), old] at he
          exact hPT.2.2.2.1 i j i0 i1 j0 j1 hn he
        · have h33 : gP (sP (initS w (sl (na + 2))) 32 (c - sh) (sl (na + 2))) 33 j = gP w 33 j := by rw [gP_sP, if_neg (by omega)]; rfl
          rw [h33] at he
          rw [gP_sP] at hn he
          by_cases d : i = c - sh
          · rw [if_pos ⟨rfl, d⟩] at he
            rcases hPT.2.1 j j0 j1 with e | ⟨q, a, b, e⟩
            · rw [e] at he; unfold sl at he; omega
            · rw [e] at he; exact absurd he.symm (hlt q b)
          · rw [if_neg (fun h => d h.2), old] at hn he
            exact hPT.2.2.2.2 i j i0 i1 j0 j1 hn he)
    obtain ⟨w', x1, x2⟩ := hx
    exact ⟨na + 1, w', x1, by omega, by omega, x2⟩
  · rw [if_neg (by rw [decide_eq_true_iff]; exact z)]
    obtain ⟨q, q5, q6⟩ := hPT.p (j := c - sh) (by omega) z
    obtain ⟨w', x1, x2⟩ := key q na w q5 (Nat.le_refl _) (by omega) (fun _ _ _ => rfl) (fun _ _ _ => rfl) (fun _ _ _ => rfl) (fun _ _ => rfl) q6 hPT
    rw [q6]
    exact ⟨na, w', x1, Nat.le_refl _, by omega, x2⟩
theorem remC {na : Nat} {w : Wd} {c : Int} {f : Rw} (hc : gF w 31 1 = c) (h0 : 0 ≤ c ∧ c ≤ 6) (hV : VB f) (hS : RS w 100 f) (hPT : PTr na w) :
    ∃ na' w', p_X4_remember 100 na w = some (.inl 0, na', w') ∧ na ≤ na' ∧ na' ≤ na + 1 ∧ PUc na w na' w' c (if c < 6 then 0 else 1) f := by
  unfold p_X4_remember
  rw [hc]
  by_cases d : c < 6
  · rw [if_pos (by rw [lt32_o (by omega)]; exact d), if_pos d]
    exact rem27 (by omega) (by omega) hV hS hPT (fun _ _ => Or.inl rfl) (fun _ _ => rfl) (fun _ _ _ => rfl) (fun j _ _ => by rw [Int.add_zero])
  · rw [if_neg (by rw [lt32_o (by omega)]; exact d), if_neg d]
    obtain ⟨w1, a1, a2, a3, a4, a5, a6⟩ := oldest_o (w := w)
    rw [a1, Option.bind_some]
    have hg : ∀ j, 0 ≤ j → j < 6 → ∃ j', 0 ≤ j' ∧ j' < 6 ∧ gP w1 32 j = gP w 32 j' ∧ (j < 5 → j' = j + 1) ∧ (¬ j < 5 → j' = 0) := fun j j0 j1 => by
      by_cases e : j < 5
      · exact ⟨j + 1, by omega, by omega, a5 j j0 e, fun _ => rfl, fun h => absurd e h⟩
      · rw [show j = 5 by omega]; exact ⟨0, by omega, by omega, a6, fun h => by omega, fun _ => rfl⟩
    refine rem27 (w := sF w1 31 1 (6 - 1)) (by rw [gF_sF, if_pos ⟨rfl, rfl⟩]; omega) (by omega) hV ?_ ?_ (fun o k => ?_) a3 a4 (fun j j0 j1 => ?_)
    · exact hS.keep (fun k => by rw [gF_sF, if_neg (by omega)]; exact a2 _ _) (fun k => by rw [gF_sF, if_neg (by omega)]; exact a2 _ _) (fun d hd i => a3 _ _)
    · refine ⟨fun j j0 j1 => ?_, fun j j0 j1 => ?_, fun i j i0 i1 j0 j1 hn he => ?_, fun i j i0 i1 j0 j1 hn he => ?_, fun i j i0 i1 j0 j1 hn he => ?_⟩
      · obtain ⟨j', x0, x1, x2, _⟩ := hg j j0 j1
        show gP w1 32 j = 0 ∨ ∃ q, 2 ≤ q ∧ q < na + 2 ∧ gP w1 32 j = sl q
        rw [x2]; exact hPT.1 j' x0 x1
      · show gP w1 33 j = 0 ∨ ∃ q, 2 ≤ q ∧ q < na + 2 ∧ gP w1 33 j = sl q
        rw [a4 33 j (by decide)]; exact hPT.2.1 j j0 j1
      · obtain ⟨i', x0, x1, x2, x3, x4⟩ := hg i i0 i1
        obtain ⟨j', y0, y1, y2, y3, y4⟩ := hg j j0 j1
        replace hn : gP w1 32 i ≠ 0 := hn
        replace he : gP w1 32 i = gP w1 32 j := he
        rw [x2] at hn he
        rw [y2] at he
        have := hPT.2.2.1 i' j' x0 x1 y0 y1 hn he
        by_cases e1 : i < 5
        · by_cases e2 : j < 5
          · have := x3 e1; have := y3 e2; omega
          · have := x3 e1; have := y4 e2; omega
        · by_cases e2 : j < 5
          · have := x4 e1; have := y3 e2; omega
          · omega
      · replace hn : gP w1 33 i ≠ 0 := hn
        replace he : gP w1 33 i = gP w1 33 j := he
        rw [a4 33 i (by decide)] at hn he
        rw [a4 33 j (by decide)] at he
        exact hPT.2.2.2.1 i j i0 i1 j0 j1 hn he
      · obtain ⟨i', x0, x1, x2, x3, x4⟩ := hg i i0 i1
        replace hn : gP w1 32 i ≠ 0 := hn
        replace he : gP w1 32 i = gP w1 33 j := he
        rw [x2] at hn he
        rw [a4 33 j (by decide)] at he
        exact hPT.2.2.2.2 i' j x0 x1 j0 j1 hn he
    · rw [gF_sF]
      by_cases e : o = 31 ∧ k = 1
      · exact Or.inr e
      · rw [if_neg e]; exact Or.inl (a2 o k)
    · exact a5 j j0 (by omega)
