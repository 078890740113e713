/-! ===== the class moves names, lays all ===== -/
section LD
variable {f : Rw} {o l : Nat} {R C : Int → Int} {N : Int}
theorem atR_o (hl : LAo l) {w : Wd} {i : Int} (h : 0 ≤ i ∧ i < 60) : p_X5_at (l + 1) i w = some (gA w (l + 2) i, w) := at_in ⟨h.1, by rw [show ln (l + 1 + 1) = 60 from hl.l2]; omega⟩
theorem atC_o (hl : LAo l) {w : Wd} {i : Int} (h : 0 ≤ i ∧ i < 60) : p_X5_at (l + 3) i w = some (gA w (l + 4) i, w) := at_in ⟨h.1, by rw [show ln (l + 3 + 1) = 60 from hl.l4]; omega⟩
theorem move_bits (hV : VB f) {w : Wd} (hS : RS w o f) (hN : N ≤ f 10) (hL : VL f N R C) {a b d cov e : Int} (ha : 0 ≤ a ∧ a < b ∧ b ≤ N) (hsame : ∀ i, a ≤ i → i < b → R i = R a) (hM : MC f a b R C)
    (hcov : ∀ i : Nat, i < 32 → (bI cov i = true ↔ ∃ v, a ≤ v ∧ v < b ∧ C v ≤ i ∧ (i : Int) < C v + wnF f v)) (he : e = C (b - 1) + wnF f (b - 1)) (hd : 1 ≤ d ∧ d + e ≤ f 0) :
    (eq32 (an32 (mkC w o (R a)) (sl32 cov d)) 0 = true) ↔ mayF f R C a b d = true := by
  have h1 := hV.c
  have hge : 0 ≤ e := by
    obtain ⟨_, _, g3, _⟩ := hL.1 (b - 1) (by omega) (by omega)
    have := (hV.wn (v := b - 1) (by omega) (by omega)).1
    omega
  have hend : ∀ v, a ≤ v → v < b → C v + wnF f v ≤ e := by
    intro v v0 v1
    by_cases q : v = b - 1
    · rw [he, q]; exact Int.le_refl _
    · have h2 := hM v (b - 1) v0 (by omega) (by omega) ((hsame v v0 v1).trans (hsame (b - 1) (by omega) (by omega)).symm)
      have h3 := (hV.wn (v := b - 1) (by omega) (by omega)).1
      omega
  rw [an0_o]
  unfold mayF
  rw [allb_iff]
  constructor
  · intro h v v0 v1
    have v1' : v < b := by omega
    obtain ⟨g1, g2, g3, g4⟩ := hL.1 v (by omega) (by omega)
    have h5 := hend v v0 v1'
    show fitF f (C v + d) (R v) (wnF f v) = true
    unfold fitF
    rw [decide_eq_true (by omega), Bool.true_and, allb_iff]
    intro i i0 i1
    have hw := hV.wn (v := v) (by omega) (by omega)
    have h2 := h i.toNat (by omega)
    rw [mkC_f hV hS (by omega), bI_sl _ (by omega) (by omega), Int.toNat_of_nonneg (by omega), decide_eq_true (show d ≤ i by omega), Bool.true_and, ← hsame v v0 v1'] at h2
    have h6 : bI cov (i.toNat - d.toNat) = true := (hcov _ (by omega)).mpr ⟨v, v0, v1', by omega, by omega⟩
    rw [h6] at h2
    cases h3 : flF f i (R v) with
    | false => rfl
    | true => exact absurd ⟨h3, rfl⟩ h2
  · intro h i hi
    rw [mkC_f hV hS hi, bI_sl _ (by omega) hi]
    rintro ⟨p, q⟩
    have q2 := Bool.and_eq_true _ _ ▸ q
    have q3 := of_decide_eq_true q2.1
    obtain ⟨v, v0, v1, v2, v3⟩ := (hcov _ (by omega)).mp q2.2
    have h4 := h v v0 (by omega)
    have h4' : fitF f (C v + d) (R v) (wnF f v) = true := h4
    unfold fitF at h4'
    have h5 := (Bool.and_eq_true _ _ ▸ h4').2
    rw [allb_iff] at h5
    have hw := hV.wn (v := v) (by omega) (by omega)
    have h6 := h5 i (by omega) (by omega)
    rw [hsame v v0 v1, p] at h6
    exact absurd h6 (by decide)
theorem crow121 (hl : LAo l) {w : Wd} {a b d : Int} (ha : 0 ≤ a ∧ a ≤ b ∧ b ≤ 60) : p_X2_centreRow_118 l o a b d w = some (setR w (l + 4) (fun j => if a ≤ j ∧ j < b then gA w (l + 4) j + d else gA w (l + 4) j)) := by
  unfold p_X2_centreRow_118
  obtain ⟨w', h1, h2, rfl⟩ := loop_up (lp := fun n x w => p_X2_centreRow_121 l o n b d x w) (fin := some) (b := b) (I := fun x w' => a ≤ x ∧ w' = setR w (l + 4) (fun j => if a ≤ j ∧ j < x then gA w (l + 4) j + d else gA w (l + 4) j))
    (fun n x w' hx hI => by
      obtain ⟨h0, rfl⟩ := hI
      simp (disch := omega) only [p_X2_centreRow_121, lt32_o, hx, if_true]
      rw [atC_o hl (by omega), Option.bind_some]
      dsimp only
      rw [put_in (o := l + 3) ⟨by omega, by rw [show ln (l + 3 + 1) = 60 from hl.l4]; omega⟩, Option.bind_some]
      refine ⟨_, rfl, by omega, ?_⟩
      show sA _ (l + 4) _ _ = _
      rw [sA_setR, setR_setR]
      refine setR_ext fun j => ?_
      show (if j = x then _ else _) = _
      by_cases c : j = x
      · subst c; rw [if_pos rfl, gA_setR, if_pos rfl, if_neg (by omega), if_pos (by omega)]
      · rw [if_neg c, gA_setR, if_pos rfl]
        by_cases c2 : a ≤ j ∧ j < x
        · rw [if_pos c2, if_pos (by omega)]
        · rw [if_neg c2, if_neg (by omega)])
    (fun n w' hI => by simp (disch := omega) only [p_X2_centreRow_121, lt32_o, Int.lt_irrefl, if_false])
    FU a w ha.2.1 ⟨by omega, (setR_self fun j => if_neg (by omega)).symm⟩ (by have : FU = 1000000 := rfl; omega)
  exact h1
theorem crow_o (ho : SLo o) (hl : LAo l) (hV : VB f) {w : Wd} (hS : RS w o f) (hN : N ≤ f 10) (hL : VL f N R C) (hA : ∀ i, 0 ≤ i → i < N → gA w (l + 2) i = R i ∧ gA w (l + 4) i = C i) {a b : Int} (ha : 0 ≤ a ∧ a < b ∧ b ≤ N)
    (hsame : ∀ i, a ≤ i → i < b → R i = R a) (hM : MC f a b R C) :
    p_X2_centreRow l o a b w = some (setR w (l + 4) (fun j => if a ≤ j ∧ j < b then gA w (l + 4) j + mbF f R C a b ((f 0 - C (b - 1) - wnF f (b - 1)) / 2).toNat else gA w (l + 4) j)) := by
  have h1 := hV.c
  have h3 := hV.w
  have hrr := hV.r
  have e0 : gF w o 0 = f 0 := hS.1.1
  unfold p_X2_centreRow
  obtain ⟨⟨cov, e⟩, q1, q2, q3, q4⟩ := loop_up (lp := fun n x (s : Int × Int) => p_X2_centreRow_9 l o n a b s.1 s.2 x w) (fin := fun s => p_X2_centreRow_68 l o a b s.1 s.2 w) (b := b)
    (I := fun x s => a ≤ x ∧ (∀ i : Nat, i < 32 → (bI s.1 i = true ↔ ∃ v, a ≤ v ∧ v < x ∧ C v ≤ i ∧ (i : Int) < C v + wnF f v)) ∧ (a < x → s.2 = C (x - 1) + wnF f (x - 1)))
    (fun n x s hx hI => by
      obtain ⟨i0, i1, i2⟩ := hI
      obtain ⟨g1, g2, g3, g4⟩ := hL.1 x (by omega) (by omega)
      have g5 := fitF_w g4
      have g6 := hV.wn (v := x) (by omega) (by omega)
      have hCx := (hA x (by omega) (by omega)).2
      simp (disch := omega) only [p_X2_centreRow_9, lt32_o, hx, if_true]
      rw [atC_o hl (by omega), Option.bind_some]
      dsimp only
      rw [lenC_o ho hV hS (by omega), Option.bind_some]
      dsimp only
      unfold p_X2_cells
      rw [Option.bind_some]
      dsimp only
      rw [atC_o hl (by omega), Option.bind_some]
      dsimp only
      rw [lenC_o ho hV hS (by omega), Option.bind_some]
      dsimp only
      rw [hCx]
      refine ⟨(or32 s.1 (sl32 (sl32 1 (wnF f x) - 1) (C x)), C x + wnF f x), rfl, by omega, fun i hi => ?_, fun _ => by rw [show x + 1 - 1 = x by omega]⟩
      show bI (or32 _ _) i = true ↔ _
      rw [bI_or, bI_cells (by omega) hi, Bool.or_eq_true, i1 i hi, decide_eq_true_eq]
      constructor
      · rintro (⟨v, v0, v1, v2, v3⟩ | ⟨v2, v3⟩)
        · exact ⟨v, v0, by omega, v2, v3⟩
        · exact ⟨x, i0, by omega, v2, v3⟩
      · rintro ⟨v, v0, v1, v2, v3⟩
        by_cases d : v = x
        · subst d; exact Or.inr ⟨v2, v3⟩
        · exact Or.inl ⟨v, v0, by omega, v2, v3⟩)
    (fun n s hI => by simp (disch := omega) only [p_X2_centreRow_9, lt32_o, Int.lt_irrefl, if_false])
    FU a (0, 0) (by omega) ⟨by omega, fun i _ => ⟨fun h => absurd ((bI_0 i).symm.trans h) (by decide), fun ⟨v, v0, v1, _⟩ => absurd v1 (by omega)⟩, fun h => absurd h (by omega)⟩ (by have : FU = 1000000 := rfl; omega)
  refine q1.trans ?_
  have q4 : e = C (b - 1) + wnF f (b - 1) := q4 (by omega)
  have q3 : ∀ i : Nat, i < 32 → (bI cov i = true ↔ ∃ v, a ≤ v ∧ v < b ∧ C v ≤ i ∧ (i : Int) < C v + wnF f v) := q3
  obtain ⟨r1, r2, r3, r4⟩ := hL.1 a (by omega) (by omega)
  obtain ⟨g1, g2, g3, g4⟩ := hL.1 (b - 1) (by omega) (by omega)
  have g5 := fitF_w g4
  have g6 := hV.wn (v := b - 1) (by omega) (by omega)
  show p_X2_centreRow_68 l o a b cov e w = _
  unfold p_X2_centreRow_68
  rw [atR_o hl (by omega), Option.bind_some]
  dsimp only
  rw [(hA a (by omega) (by omega)).1, atM_o ho ⟨by omega, by omega⟩, Option.bind_some]
  dsimp only
  rw [e0, dv2_o (by omega)]
  have hlp : ∀ (d n : Nat), d ≤ 24 → d < n → (d : Int) + e ≤ f 0 → p_X2_centreRow_96 l o n a b cov (mkC w o (R a)) (d : Int) w = p_X2_centreRow_118 l o a b (mbF f R C a b d) w := by
    intro d
    induction d with
    | zero =>
      intro n h4 h5 _
      obtain ⟨n', rfl⟩ : ∃ n', n = n' + 1 := ⟨n - 1, by omega⟩
      simp only [p_X2_centreRow_96]
      rw [if_neg (by decide +kernel)]; rfl
    | succ d ih =>
      intro n h4 h5 h6
      obtain ⟨n', rfl⟩ : ∃ n', n = n' + 1 := ⟨n - 1, by omega⟩
      simp (disch := omega) only [p_X2_centreRow_96, lt32_o]
      unfold mbF
      rw [if_pos (by omega), show ((d + 1 : Nat) : Int) = (d : Int) + 1 by omega]
      have hb := move_bits hV hS hN hL ha hsame hM q3 q4 (d := (d : Int) + 1) (by omega)
      by_cases c : mayF f R C a b ((d : Int) + 1) = true
      · rw [if_pos (hb.mpr c), if_pos c]
      · rw [if_neg (fun h => c (hb.mp h)), if_neg c, show (d : Int) + 1 + -1 = d by omega]
        exact ih n' (by omega) (by omega) (by omega)
  have h8 := hlp ((f 0 - e) / 2).toNat FU (by omega) (by have : FU = 1000000 := rfl; omega) (by omega)
  rw [Int.toNat_of_nonneg (by omega)] at h8
  rw [h8, crow121 hl (by omega), q4, show f 0 - (C (b - 1) + wnF f (b - 1)) = f 0 - C (b - 1) - wnF f (b - 1) by omega]
theorem centreC (ho : SLo o) (hl : LAo l) (hV : VB f) {to : Int} (hto : to ≤ N) (hN : N ≤ f 10) : ∀ (k n : Nat) (a x : Int) (C : Int → Int) (w : Wd), RS w o f → VL f N R C → (∀ i, 0 ≤ i → i < N → gA w (l + 2) i = R i ∧ gA w (l + 4) i = C i) → 0 ≤ a → a < x → x ≤ to → (∀ i, a ≤ i → i < x → R i = R a) → MC f a to R C → to - x < k → to - x + 1 < n →
    ∃ w', p_X2_centre_8 l o n to a x w = some w' ∧ frm (SLC l) (TLC l) w w' ∧ (∀ i, gA w' (l + 2) i = gA w (l + 2) i) ∧ (∀ o k, gF w' o k = gF w o k) ∧ ∀ i, 0 ≤ i → i < N → gA w' (l + 4) i = ceF f R to k a x C i := by
  have h1 := hV.c
  have h2 := hV.r
  have h3 := hV.w
  intro k
  induction k with
  | zero => intro n a x C w _ _ _ _ _ _ _ _ h; exact absurd h (by omega)
  | succ k ih =>
    intro n a x C w hS hL hA h4 h5 h6 hsame hM h7 h9
    obtain ⟨n', rfl⟩ : ∃ n', n = n' + 1 := ⟨n - 1, by omega⟩
    have hmv := crow_o ho hl hV hS hN hL hA (a := a) (b := x) (by omega) hsame (fun i j i0 ij j1 => hM i j i0 ij (by omega))
    have hfr : frm (SLC l) (TLC l) w (setR w (l + 4) (fun j => if a ≤ j ∧ j < x then gA w (l + 4) j + mbF f R C a x ((f 0 - C (x - 1) - wnF f (x - 1)) / 2).toNat else gA w (l + 4) j)) := frm_setR (frm_refl w) (Or.inr rfl)
    have hA' : ∀ i, 0 ≤ i → i < N → gA (setR w (l + 4) (fun j => if a ≤ j ∧ j < x then gA w (l + 4) j + mbF f R C a x ((f 0 - C (x - 1) - wnF f (x - 1)) / 2).toNat else gA w (l + 4) j)) (l + 2) i = R i ∧ gA (setR w (l + 4) (fun j => if a ≤ j ∧ j < x then gA w (l + 4) j + mbF f R C a x ((f 0 - C (x - 1) - wnF f (x - 1)) / 2).toNat else gA w (l + 4) j)) (l + 4) i = mrF f R C a x i := by
      intro i i0 i1
      rw [gA_setR, if_neg (by omega), gA_setR, if_pos rfl, (hA i i0 i1).2]
      exact ⟨(hA i i0 i1).1, rfl⟩
    have hR2 : ∀ i, gA (setR w (l + 4) (fun j => if a ≤ j ∧ j < x then gA w (l + 4) j + mbF f R C a x ((f 0 - C (x - 1) - wnF f (x - 1)) / 2).toNat else gA w (l + 4) j)) (l + 2) i = gA w (l + 2) i := fun i => by rw [gA_setR, if_neg (by omega)]
    have hF2 : ∀ o k, gF (setR w (l + 4) (fun j => if a ≤ j ∧ j < x then gA w (l + 4) j + mbF f R C a x ((f 0 - C (x - 1) - wnF f (x - 1)) / 2).toNat else gA w (l + 4) j)) o k = gF w o k := fun _ _ => rfl
    generalize (setR w (l + 4) (fun j => if a ≤ j ∧ j < x then gA w (l + 4) j + mbF f R C a x ((f 0 - C (x - 1) - wnF f (x - 1)) / 2).toNat else gA w (l + 4) j)) = w1 at hmv hfr hA' hR2 hF2
    have hS1 : RS w1 o f := hS.lay hfr ho hl
    have hL1 : VL f N R (mrF f R C a x) := mrF_ok hL (by omega) (by omega)
    unfold ceF
    simp (disch := omega) only [p_X2_centre_8, lt32_o]
    rw [if_neg (by omega)]
    simp (disch := omega) only [eq32_o]
    by_cases c1 : x < to
    · obtain ⟨r1, r2, -, -⟩ := hL.1 x (by omega) (by omega)
      obtain ⟨r3, r4, -, -⟩ := hL.1 a (by omega) (by omega)
      rw [if_neg (by omega), atR_o hl (by omega), Option.bind_some]
      dsimp only
      rw [atR_o hl (by omega), Option.bind_some]
      dsimp only
      rw [(hA x (by omega) (by omega)).1, (hA a (by omega) (by omega)).1]
      simp (disch := omega) only [eq32_o]
      by_cases c2 : R x = R a
      · rw [if_pos c2, if_pos ⟨c1, c2⟩]
        exact ih n' a (x + 1) C w hS hL hA h4 (by omega) (by omega) (fun i i0 i1 => by
          by_cases d : i = x
          · rw [d]; exact c2
          · exact hsame i i0 (by omega)) hM (by omega) (by omega)
      · rw [if_neg c2, if_neg (fun h => c2 h.2), if_pos c1]
        show ∃ w', ((p_X2_centreRow l o a x w).bind fun w1 => p_X2_centre_8 l o n' to x (x + 1) w1) = _ ∧ _
        rw [hmv, Option.bind_some]
        obtain ⟨w', b1, b2', b3, b5, b4⟩ := ih n' x (x + 1) (mrF f R C a x) w1 hS1 hL1 hA' (by omega) (by omega) (by omega) (fun i i0 i1 => by rw [show i = x by omega]) (fun i j i0 ij j1 hij => by
          unfold mrF
          rw [if_neg (by omega), if_neg (by omega)]
          exact hM i j (by omega) ij j1 hij) (by omega) (by omega)
        exact ⟨w', b1, frm_trans hfr b2', fun i => (b3 i).trans (hR2 i), fun o k => (b5 o k).trans (hF2 o k), b4⟩
    · rw [if_pos (by omega), if_neg (fun h => c1 h.1), if_neg c1]
      show ∃ w', ((p_X2_centreRow l o a x w).bind fun w1 => p_X2_centre_8 l o n' to x (x + 1) w1) = _ ∧ _
      rw [hmv, Option.bind_some]
      obtain ⟨n2, rfl⟩ : ∃ n2, n' = n2 + 1 := ⟨n' - 1, by omega⟩
      simp (disch := omega) only [p_X2_centre_8, lt32_o]
      rw [if_pos (by omega)]
      exact ⟨w1, rfl, hfr, hR2, hF2, fun i i0 i1 => (hA' i i0 i1).2⟩
end LD
