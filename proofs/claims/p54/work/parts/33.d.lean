/-! ===== the class lays as told ===== -/
def SLC (l o k : Nat) : Prop := o = l ∧ (k = 4 ∨ k = 6 ∨ k = 7)
def TLC (l o : Nat) : Prop := o = l + 2 ∨ o = l + 4
def LAo (l : Nat) : Prop := l = 10 ∨ l = 20
def ARC (w : Wd) (l : Nat) (n : Int) (R C : Int → Int) : Prop := gF w l 4 = n ∧ ∀ i, 0 ≤ i → i < n → gA w (l + 2) i = R i ∧ gA w (l + 4) i = C i
def AGC (w : Wd) (l : Nat) (st : Ly) : Prop := gF w l 6 = st.2.1 ∧ gF w l 7 = st.2.2.1 ∧ ARC w l st.1 st.2.2.2.1 st.2.2.2.2
theorem SLo.ge {o : Nat} (h : SLo o) : 100 ≤ o := by obtain ⟨j, rfl⟩ := h; unfold sl; omega
theorem LAo.le {l : Nat} (h : LAo l) : l ≤ 20 := by rcases h with h | h <;> omega
theorem LAo.l2 {l : Nat} (h : LAo l) : ln (l + 2) = 60 := by rcases h with rfl | rfl <;> rfl
theorem LAo.l4 {l : Nat} (h : LAo l) : ln (l + 4) = 60 := by rcases h with rfl | rfl <;> rfl
theorem LAo.l6 {l : Nat} (h : LAo l) : ln (l + 6) = 288 := by rcases h with rfl | rfl <;> rfl
theorem LAo.l8 {l : Nat} (h : LAo l) : ln (l + 8) = 288 := by rcases h with rfl | rfl <;> rfl
theorem RS.fr {S : Nat → Nat → Prop} {T : Nat → Prop} {w w' : Wd} {o : Nat} {f : Rw} (h : RS w o f) (hfr : frm S T w w') (hS : ∀ d k, d < 12 → ¬ S (o + d) k) (hT : ∀ d, d < 12 → ¬ T (o + d)) : RS w' o f :=
  h.keep (fun k => hfr.1 o k (hS 0 k (by decide))) (fun k => hfr.1 (o + 11) k (hS 11 k (by decide))) (fun d hd i => hfr.2.1 (o + d) (hT d hd) i)
theorem RS.lay {w w' : Wd} {o l : Nat} {f : Rw} (h : RS w o f) (hfr : frm (SLC l) (TLC l) w w') (ho : SLo o) (hl : LAo l) : RS w' o f := by
  have h1 := ho.ge
  have h2 := hl.le
  exact h.fr hfr (fun d k _ q => by have := q.1; omega) (fun d _ q => by rcases q with q | q <;> omega)
section LC
variable {f : Rw} {o l : Nat}
theorem fit_bits {w : Wd} (hV : VB f) (hS : RS w o f) {c r s : Int} (hc : 0 ≤ c ∧ c + s ≤ f 0) (hs : 1 ≤ s ∧ s ≤ 12) :
    (eq32 (an32 (mkC w o r) (sl32 (sl32 1 s - 1) c)) 0 = true) ↔ fitF f c r s = true := by
  have h1 := hV.c
  rw [an0_o]
  unfold fitF
  rw [decide_eq_true hc.2, Bool.true_and, allb_iff]
  constructor
  · intro h i i0 i1
    have h2 := h i.toNat (by omega)
    rw [mkC_f hV hS (by omega), bI_cells (by omega) (by omega), Int.toNat_of_nonneg (by omega), decide_eq_true (show c ≤ i ∧ i < c + s by omega)] at h2
    cases h3 : flF f i r with
    | false => rfl
    | true => exact absurd ⟨h3, rfl⟩ h2
  · intro h i hi
    rw [mkC_f hV hS hi, bI_cells (by omega) hi]
    rintro ⟨a, b⟩
    have b2' := of_decide_eq_true b
    have := h i b2'.1 (by omega)
    rw [a] at this
    exact absurd this (by decide)
theorem findC (ho : SLo o) (hV : VB f) {w : Wd} (hS : RS w o f) {s v : Int} (hs : 1 ≤ s ∧ s ≤ 12) : ∀ (k m n : Nat) (r c : Int), 0 ≤ r → r < f 1 → 0 ≤ c → c ≤ 25 → (12 - r) * 30 + (26 - c) < k → 12 - r < m → 26 - c < n →
    p_X2_layWord_34 l o (p_X2_layWord_21 l o m) n v s r c w = if (fpF f s k r c).1 = true then p_X2_layWord_64 l o v s (fpF f s k r c).2.1 (fpF f s k r c).2.2 w else some (0, w) := by
  have hc := hV.c
  have hrr := hV.r
  have e0 : gF w o 0 = f 0 := hS.1.1
  have e1 : gF w o 1 = f 1 := hS.1.2.1
  intro k
  induction k with
  | zero => intro m n r c h0 h1 h2 h3 h4; exact absurd h4 (by omega)
  | succ k ih =>
    intro m n r c h0 h1 h2 h3 h4 h5 h6
    obtain ⟨n', rfl⟩ : ∃ n', n = n' + 1 := ⟨n - 1, by omega⟩
    obtain ⟨m', rfl⟩ : ∃ m', m = m' + 1 := ⟨m - 1, by omega⟩
    unfold fpF
    rw [if_pos h1]
    simp (disch := omega) only [p_X2_layWord_34, e0, lt32_o]
    by_cases c2 : c + s ≤ f 0
    · rw [if_neg (by omega), if_pos c2, atM_o ho ⟨by omega, by omega⟩, Option.bind_some]
      show ((p_X2_cells c s w).bind fun x => if eq32 (an32 (mkC w o r) x.1) 0 = true then p_X2_layWord_64 l o v s r c x.2 else p_X2_layWord_34 l o (p_X2_layWord_21 l o (m' + 1)) n' v s r (c + 1) x.2) = _
      unfold p_X2_cells
      rw [Option.bind_some]
      by_cases c3 : fitF f c r s = true
      · rw [if_pos ((fit_bits hV hS ⟨h2, c2⟩ hs).mpr c3), if_pos c3, if_pos rfl]
      · rw [if_neg (fun h => c3 ((fit_bits hV hS ⟨h2, c2⟩ hs).mp h)), if_neg c3]
        exact ih (m' + 1) n' r (c + 1) h0 h1 (by omega) (by omega) (by omega) (by omega) (by omega)
    · rw [if_pos (by omega), if_neg c2]
      show p_X2_layWord_21 l o (m' + 1) v s 0 (r + 1) w = _
      simp (disch := omega) only [p_X2_layWord_21, e1, lt32_o]
      by_cases c4 : r + 1 < f 1
      · rw [if_pos c4]
        exact ih m' FU (r + 1) 0 (by omega) c4 (by omega) (by omega) (by omega) (by omega) (by have : FU = 1000000 := rfl; omega)
      · rw [if_neg c4]
        have e : (fpF f s k (r + 1) 0).1 = false := by
          cases k with
          | zero => rfl
          | succ k => unfold fpF; rw [if_neg c4]
        rw [e, if_neg (by decide)]
theorem layWordC (ho : SLo o) (hV : VB f) {w : Wd} (hS : RS w o f) {v r c : Int} (hv : 0 ≤ v ∧ v < f 10) (h6 : gF w l 6 = r) (h7 : gF w l 7 = c) (hr : 0 ≤ r ∧ r ≤ 15) (hc : 0 ≤ c ∧ c ≤ 25) :
    p_X2_layWord l o v w = if (fpF f (wnF f v) FP0 r c).1 = true then p_X2_layWord_64 l o v (wnF f v) (fpF f (wnF f v) FP0 r c).2.1 (fpF f (wnF f v) FP0 r c).2.2 w else some (0, w) := by
  have hrr := hV.r
  have e1 : gF w o 1 = f 1 := hS.1.2.1
  unfold p_X2_layWord
  rw [lenC_o ho hV hS hv, Option.bind_some]
  show p_X2_layWord_21 l o FU v (wnF f v) (gF w l 7) (gF w l 6) w = _
  obtain ⟨q, hq, hq2⟩ := FU_s
  rw [h6, h7, hq]
  simp (disch := omega) only [p_X2_layWord_21, e1, lt32_o]
  by_cases c1 : r < f 1
  · rw [if_pos c1]
    exact findC ho hV hS (hV.wn hv.1 hv.2) FP0 q FU r c hr.1 c1 hc.1 hc.2 (by have : FP0 = 1000 := rfl; omega) (by omega) (by have : FU = 1000000 := rfl; omega)
  · rw [if_neg c1]
    have e : (fpF f (wnF f v) FP0 r c).1 = false := by
      rw [show FP0 = 999 + 1 from rfl]; unfold fpF; rw [if_neg c1]
    rw [e, if_neg (by decide)]
theorem lay64 (hl : LAo l) {w : Wd} {v s r c : Int} (hv : 0 ≤ v ∧ v < 60) : p_X2_layWord_64 l o v s r c w = some (1, sF (sF (sF (sA (sA w (l + 2) v r) (l + 4) v c) l 4 (v + 1)) l 6 r) l 7 (c + s + 1)) := by
  unfold p_X2_layWord_64
  rw [put_in (o := l + 1) ⟨hv.1, by rw [show ln (l + 1 + 1) = 60 from hl.l2]; omega⟩, Option.bind_some, put_in (o := l + 3) ⟨hv.1, by rw [show ln (l + 3 + 1) = 60 from hl.l4]; omega⟩, Option.bind_some, Option.bind_some]
theorem lwsC (ho : SLo o) (hl : LAo l) (hV : VB f) {to : Int} : ∀ (cnt n : Nat) (v : Int) (w : Wd) (st : Ly), RS w o f → 0 ≤ v → v + cnt = to → to ≤ f 10 → VS f v st → AGC w l st → cnt < n →
    ∃ w', frm (SLC l) (TLC l) w w' ∧ p_X2_layWords_8 l o n to 1 v w = some w' ∧ ((lwF f cnt v st).1 = true → AGC w' l (lwF f cnt v st).2) ∧ ARC w' l (lwF f cnt v st).2.1 (lwF f cnt v st).2.2.2.2.1 (lwF f cnt v st).2.2.2.2.2 := by
  have hw60 := hV.w
  have hl20 := hl.le
  intro cnt
  induction cnt with
  | zero =>
    intro n v w st hR h0 h1 h2 hS hA h5
    obtain ⟨n', rfl⟩ : ∃ n', n = n' + 1 := ⟨n - 1, by omega⟩
    refine ⟨w, frm_refl w, ?_, fun _ => hA, hA.2.2⟩
    simp (disch := omega) only [p_X2_layWords_8, lt32_o]
    rw [if_neg (by omega)]
  | succ cnt ih =>
    intro n v w st hR h0 h1 h2 hS hA h5
    obtain ⟨n', rfl⟩ : ∃ n', n = n' + 1 := ⟨n - 1, by omega⟩
    have hwn := hV.wn h0 (show v < f 10 by omega)
    obtain ⟨A6, A7, A4, AA⟩ := hA
    have e1 : st.1 = v := hS.1
    simp (disch := omega) only [p_X2_layWords_8, lt32_o]
    rw [if_pos (by omega), if_neg e10, layWordC ho hV hR (by omega) A6 A7 hS.2.2.1 hS.2.2.2.1]
    unfold lwF
    by_cases c : (fpF f (wnF f v) FP0 st.2.1 st.2.2.1).1 = true
    · have hVS := VS_word hV h0 (by omega) hS c
      rw [if_pos c, if_pos c, lay64 hl (by omega), Option.bind_some]
      generalize (fpF f (wnF f v) FP0 st.2.1 st.2.2.1).2.1 = r at *
      generalize (fpF f (wnF f v) FP0 st.2.1 st.2.2.1).2.2 = cc at *
      have hfr : frm (SLC l) (TLC l) w (sF (sF (sF (sA (sA w (l + 2) v r) (l + 4) v cc) l 4 (v + 1)) l 6 r) l 7 (cc + wnF f v + 1)) :=
        frm_sF (frm_sF (frm_sF (frm_sA (frm_sA (frm_refl w) (Or.inl rfl)) (Or.inr rfl)) ⟨rfl, Or.inl rfl⟩) ⟨rfl, Or.inr (Or.inl rfl)⟩) ⟨rfl, Or.inr (Or.inr rfl)⟩
      have hAG : AGC (sF (sF (sF (sA (sA w (l + 2) v r) (l + 4) v cc) l 4 (v + 1)) l 6 r) l 7 (cc + wnF f v + 1)) l (v + 1, r, cc + wnF f v + 1, upd1 st.2.2.2.1 v r, upd1 st.2.2.2.2 v cc) := by
        refine ⟨?_, ?_, ?_, fun i i0 i1 => ?_⟩
        · rw [gF_sF, if_neg (by omega), gF_sF, if_pos ⟨rfl, rfl⟩]
        · rw [gF_sF, if_pos ⟨rfl, rfl⟩]
        · rw [gF_sF, if_neg (by omega), gF_sF, if_neg (by omega), gF_sF, if_pos ⟨rfl, rfl⟩]
        · have i1' : i < v + 1 := i1
          simp only [gA_sF, gA_sA]
          show _ = upd1 _ v r i ∧ _ = upd1 _ v cc i
          by_cases d : i = v
          · subst d; rw [upd1_s, upd1_s]; exact ⟨by rw [if_neg (by omega)]; simp, by simp⟩
          · rw [upd1_n _ _ d, upd1_n _ _ d, if_neg (fun h => d h.2), if_neg (fun h => d h.2), if_neg (fun h => d h.2), if_neg (fun h => d h.2)]
            exact AA i i0 (by omega)
      obtain ⟨w', g1, g2, g3, g4⟩ := ih n' (v + 1) _ _ (hR.lay hfr ho hl) (by omega) (by omega) h2 hVS hAG (by omega)
      exact ⟨w', frm_trans hfr g1, g2, g3, g4⟩
    · rw [if_neg c, if_neg c, Option.bind_some]
      obtain ⟨n2, rfl⟩ : ∃ n2, n' = n2 + 1 := ⟨n' - 1, by omega⟩
      refine ⟨w, frm_refl w, ?_, fun h => absurd h (by simp), A4, AA⟩
      show p_X2_layWords_8 l o (n2 + 1) to 0 (v + 1) w = some w
      simp (disch := omega) only [p_X2_layWords_8, lt32_o, e00, if_true]
      by_cases d : v + 1 < to
      · rw [if_pos d]
      · rw [if_neg d]
end LC
/-- words of one row, from one on, stand side by side -/
def MC (f : Rw) (a b : Int) (R C : Int → Int) : Prop := ∀ i j, a ≤ i → i < j → j < b → R i = R j → C i + wnF f i ≤ C j
theorem lwF_mc {f : Rw} (hV : VB f) {a : Int} (ha : 0 ≤ a) : ∀ (n : Nat) (v : Int) (st : Ly), a ≤ v → v + n ≤ f 10 → VS f v st → MC f a v st.2.2.2.1 st.2.2.2.2 → (∀ i, a ≤ i → i < v → st.2.2.2.1 i = st.2.1 → st.2.2.2.2 i + wnF f i ≤ st.2.2.1) → (lwF f n v st).1 = true →
    MC f a (v + n) (lwF f n v st).2.2.2.2.1 (lwF f n v st).2.2.2.2.2 := by
  intro n
  induction n with
  | zero => intro v st _ _ _ h _ _; rw [show v + ((0 : Nat) : Int) = v by omega]; exact h
  | succ n ih =>
    intro v st h0 h1 hS hM hC hok
    unfold lwF at hok ⊢
    by_cases c : (fpF f (wnF f v) FP0 st.2.1 st.2.2.1).1 = true
    · have hVS := VS_word hV (by omega) (by omega) hS c
      obtain ⟨a1, a2, a3, a4, a5⟩ := fpF_ok FP0 st.2.1 st.2.2.1 hS.2.2.1.1 hS.2.2.2.1.1 c
      rw [if_pos c] at hok ⊢
      have h2 := ih (v + 1) _ (by omega) (by omega) hVS ?_ ?_ hok
      · rwa [show v + 1 + (n : Int) = v + ((n + 1 : Nat) : Int) by omega] at h2
      · intro i j i0 ij j1 hij
        replace hij : upd1 st.2.2.2.1 v (fpF f (wnF f v) FP0 st.2.1 st.2.2.1).2.1 i = upd1 st.2.2.2.1 v (fpF f (wnF f v) FP0 st.2.1 st.2.2.1).2.1 j := hij
        show upd1 _ v _ i + wnF f i ≤ upd1 _ v _ j
        rw [upd1_n _ _ (show i ≠ v by omega)] at hij ⊢
        by_cases d : j = v
        · rw [d, upd1_s] at hij ⊢
          have h3 := hS.2.2.2.2.1 i (by omega) (by omega)
          have h4 : (fpF f (wnF f v) FP0 st.2.1 st.2.2.1).2.1 = st.2.1 := by omega
          have h5 := a3 h4
          have h6 := hC i i0 (by omega) (by omega)
          omega
        · rw [upd1_n _ _ d] at hij ⊢
          exact hM i j i0 ij (by omega) hij
      · intro i i0 i1 hi
        replace hi : upd1 st.2.2.2.1 v (fpF f (wnF f v) FP0 st.2.1 st.2.2.1).2.1 i = (fpF f (wnF f v) FP0 st.2.1 st.2.2.1).2.1 := hi
        show upd1 _ v _ i + wnF f i ≤ _ + wnF f v + 1
        by_cases d : i = v
        · rw [d, upd1_s]; omega
        · rw [upd1_n _ _ d] at hi ⊢
          have h3 := hS.2.2.2.2.1 i (by omega) (by omega)
          have h4 : (fpF f (wnF f v) FP0 st.2.1 st.2.2.1).2.1 = st.2.1 := by omega
          have h5 := a3 h4
          have h6 := hC i i0 (by omega) (by omega)
          have h7 := (hV.wn (v := v) (by omega) (by omega)).1
          show _ ≤ (fpF f (wnF f v) FP0 st.2.1 st.2.2.1).2.2 + wnF f v + 1
          omega
    · rw [if_neg c] at hok; exact absurd hok (by simp)
