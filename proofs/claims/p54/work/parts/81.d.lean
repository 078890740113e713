/-! ===== words of the text, the model ===== -/
def TXM (w : Wd) (B : Int → Int) (N : Int) : Prop := gF w 50 19 = N ∧ (0 ≤ N ∧ N ≤ 500) ∧ ∀ i, 0 ≤ i → i < N → gA w 60 i = i8 (B i) ∧ 0 ≤ B i ∧ B i ≤ 255
def Ssc (o k : Nat) : Prop := o = 50 ∧ (20 ≤ k ∧ k ≤ 23)
theorem TXM.fr {w w' : Wd} {B : Int → Int} {N : Int} (h : TXM w B N) {S : Nat → Nat → Prop} {T : Nat → Prop} (hf : frm S T w w') (hS : ¬ S 50 19) (hT : ¬ T 60) : TXM w' B N := by
  refine ⟨(hf.1 50 19 hS).trans h.1, h.2.1, fun i i0 i1 => ?_⟩
  rw [hf.2.1 60 hT]; exact h.2.2 i i0 i1
theorem byteAt_o {w : Wd} {B : Int → Int} {N : Int} (h : TXM w B N) {x : Int} (hx : 0 ≤ x ∧ x ≤ 1000) : p_X9_byteAt x w = some (if x < N then B x else -1, w) := by
  have h2 := h.2.1
  unfold p_X9_byteAt
  rw [h.1]
  simp (disch := omega) only [lt32_o]
  by_cases c : x < N
  · have hb := h.2.2 x hx.1 c
    rw [if_pos c, if_neg (by rw [inb_f (by omega)]; exact id), if_pos c, hb.1, an255]
    exact congrArg (fun q => some (q, w)) (by unfold i8; simp only [Int.bmod_def]; omega)
  · rw [if_neg c, if_neg c]
theorem scan_s {B : Int → Int} {N : Int} : ∀ (m n : Nat) (x : Int) (w : Wd), TXM w B N → gF w 50 20 = x → 0 ≤ x → x ≤ N → N - x ≤ m → m < n → ∃ w', p_X9_scan_0 n w = p_X9_scan_39 w' ∧ frm Ssc T0 w w' ∧ gF w' 50 20 = skF B N m x := by
  intro m
  induction m with
  | zero =>
    intro n x w h hx x0 x1 x2 hn
    obtain ⟨n', rfl⟩ : ∃ n', n = n' + 1 := ⟨n - 1, by omega⟩
    have h2 := h.2.1
    refine ⟨w, ?_, frm_refl w, hx⟩
    simp only [p_X9_scan_0]
    rw [hx, byteAt_o h ⟨x0, by omega⟩, Option.bind_some, if_neg (show ¬ x < N by omega)]
    dsimp only
    rw [if_neg (show ¬ eq32 (-1) 32 = true by decide +kernel), hx, byteAt_o h ⟨x0, by omega⟩, Option.bind_some, if_neg (show ¬ x < N by omega)]
    dsimp only
    rw [if_neg (show ¬ eq32 (-1) 10 = true by decide +kernel)]
  | succ m ih =>
    intro n x w h hx x0 x1 x2 hn
    obtain ⟨n', rfl⟩ : ∃ n', n = n' + 1 := ⟨n - 1, by omega⟩
    have h2 := h.2.1
    have hgo : x < N → ∃ w', p_X9_scan_26 (p_X9_scan_0 n') w = p_X9_scan_39 w' ∧ frm Ssc T0 w w' ∧ gF w' 50 20 = skF B N m (x + 1) := fun c => by
      have hfr : frm Ssc T0 w (sF w 50 20 (x + 1)) := frm_sF (frm_refl w) (by unfold Ssc; omega)
      obtain ⟨w', a1, a2, a3⟩ := ih n' (x + 1) (sF w 50 20 (x + 1)) (h.fr hfr (by unfold Ssc; omega) id) (by rw [gF_sF, if_pos ⟨rfl, rfl⟩]) (by omega) (by omega) (by omega) (by omega)
      refine ⟨w', ?_, frm_trans hfr a2, a3⟩
      unfold p_X9_scan_26
      rw [hx]; exact a1
    simp only [p_X9_scan_0]
    unfold skF
    rw [hx, byteAt_o h ⟨x0, by omega⟩, Option.bind_some]
    dsimp only
    rw [hx, byteAt_o h ⟨x0, by omega⟩, Option.bind_some]
    dsimp only
    by_cases c : x < N
    · have hb := (h.2.2 x x0 c).2
      rw [if_pos c]
      by_cases d : B x = 32
      · rw [if_pos (show eq32 (B x) 32 = true by rw [eq32_o (by omega)]; exact d), if_pos ⟨c, Or.inl d⟩]; exact hgo c
      · rw [if_neg (show ¬ eq32 (B x) 32 = true by rw [eq32_o (by omega)]; exact d)]
        by_cases e : B x = 10
        · rw [if_pos (show eq32 (B x) 10 = true by rw [eq32_o (by omega)]; exact e), if_pos ⟨c, Or.inr e⟩]; exact hgo c
        · rw [if_neg (show ¬ eq32 (B x) 10 = true by rw [eq32_o (by omega)]; exact e), if_neg (by omega)]
          exact ⟨w, rfl, frm_refl w, hx⟩
    · rw [if_neg c, if_neg (show ¬ eq32 (-1) 32 = true by decide +kernel), if_neg (show ¬ eq32 (-1) 10 = true by decide +kernel), if_neg (fun q => c q.1)]
      exact ⟨w, rfl, frm_refl w, hx⟩
theorem kd_1 {b : Int} : kdB b = 1 ↔ (97 ≤ b ∧ b ≤ 122) := by
  unfold kdB
  by_cases q : 97 ≤ b ∧ b ≤ 122
  · rw [if_pos q]; exact ⟨fun _ => q, fun _ => rfl⟩
  · rw [if_neg q]
    by_cases q2 : 48 ≤ b ∧ b ≤ 57
    · rw [if_pos q2]; exact ⟨fun h => absurd h (by decide), fun h => absurd h q⟩
    · rw [if_neg q2]; exact ⟨fun h => absurd h (by decide), fun h => absurd h q⟩
theorem kd_2 {b : Int} : kdB b = 2 ↔ (48 ≤ b ∧ b ≤ 57) := by
  unfold kdB
  by_cases q : 97 ≤ b ∧ b ≤ 122
  · rw [if_pos q]; exact ⟨fun h => absurd h (by decide), fun h => by omega⟩
  · rw [if_neg q]
    by_cases q2 : 48 ≤ b ∧ b ≤ 57
    · rw [if_pos q2]; exact ⟨fun _ => q2, fun _ => rfl⟩
    · rw [if_neg q2]; exact ⟨fun h => absurd h (by decide), fun h => absurd h q2⟩
def vC (B : Int → Int) (s : Int) : Nat → Int
  | 0 => 0
  | j + 1 => min (vC B s j * 10 + B (s + j) - 48) 10000
theorem vC_rng {B : Int → Int} {s : Int} : ∀ j : Nat, (∀ i, s ≤ i → i < s + j → 48 ≤ B i) → 0 ≤ vC B s j ∧ vC B s j ≤ 10000 := by
  intro j
  induction j with
  | zero => intro _; exact ⟨Int.le_refl _, by show (0 : Int) ≤ 10000; decide⟩
  | succ j ih =>
    intro h
    have h1 := ih (fun i a b => h i a (by omega))
    have h2 := h (s + j) (by omega) (by omega)
    show 0 ≤ min (vC B s j * 10 + B (s + j) - 48) 10000 ∧ min (vC B s j * 10 + B (s + j) - 48) 10000 ≤ 10000
    omega
def Sle (o k : Nat) : Prop := o = 50 ∧ (k = 20 ∨ k = 22)
def Sdi (o k : Nat) : Prop := o = 50 ∧ (k = 20 ∨ k = 22 ∨ k = 23)
theorem scan_l {B : Int → Int} {N : Int} : ∀ (m n : Nat) (x : Int) (w : Wd), TXM w B N → gF w 50 20 = x → 0 ≤ x → x ≤ N → N - x ≤ m → m < n → ∃ w', p_X9_scan_83 n w = some w' ∧ frm Sle T0 w w' ∧ gF w' 50 20 = enF B N 1 m x ∧ gF w' 50 22 = 1 := by
  intro m
  induction m with
  | zero =>
    intro n x w h hx x0 x1 x2 hn
    obtain ⟨n', rfl⟩ : ∃ n', n = n' + 1 := ⟨n - 1, by omega⟩
    have h2 := h.2.1
    refine ⟨sF w 50 22 1, ?_, frm_sF (frm_refl w) (by unfold Sle; omega), ?_, ?_⟩
    · simp only [p_X9_scan_83]
      rw [hx, byteAt_o h ⟨x0, by omega⟩, Option.bind_some, if_neg (show ¬ x < N by omega)]
      dsimp only
      rw [w32_o (by decide), in_o (by decide), Option.bind_some]
      dsimp only
      rw [decide_eq_false (by decide), if_pos (show eq32 (b2 false) 0 = true from e00)]
      rfl
    · rw [gF_sF, if_neg (by decide)]; exact hx
    · rw [gF_sF, if_pos ⟨rfl, rfl⟩]
  | succ m ih =>
    intro n x w h hx x0 x1 x2 hn
    obtain ⟨n', rfl⟩ : ∃ n', n = n' + 1 := ⟨n - 1, by omega⟩
    have h2 := h.2.1
    simp only [p_X9_scan_83]
    unfold enF
    rw [hx, byteAt_o h ⟨x0, by omega⟩, Option.bind_some]
    dsimp only
    by_cases c : x < N
    · have hb := (h.2.2 x x0 c).2
      rw [if_pos c, w32_o (by omega), in_o (by omega), Option.bind_some]
      simp only [eq32_b2]
      by_cases d : 97 ≤ B x ∧ B x ≤ 122
      · rw [decide_eq_true d, if_neg (show ¬ true = false by decide), if_pos ⟨c, kd_1.mpr d⟩, hx]
        have hfr : frm Sle T0 w (sF w 50 20 (x + 1)) := frm_sF (frm_refl w) (by unfold Sle; omega)
        obtain ⟨w', a1, a2, a3, a4⟩ := ih n' (x + 1) (sF w 50 20 (x + 1)) (h.fr hfr (by unfold Sle; omega) id) (by rw [gF_sF, if_pos ⟨rfl, rfl⟩]) (by omega) (by omega) (by omega) (by omega)
        exact ⟨w', a1, frm_trans hfr a2, a3, a4⟩
      · rw [decide_eq_false d, if_pos rfl, if_neg (fun q => d (kd_1.mp q.2))]
        exact ⟨_, rfl, frm_sF (frm_refl w) (by unfold Sle; omega), by rw [gF_sF, if_neg (by decide)]; exact hx, by rw [gF_sF, if_pos ⟨rfl, rfl⟩]⟩
    · rw [if_neg c, w32_o (by decide), in_o (by decide), Option.bind_some]
      simp only [eq32_b2]
      rw [decide_eq_false (by decide), if_pos rfl, if_neg (fun q => c q.1)]
      exact ⟨_, rfl, frm_sF (frm_refl w) (by unfold Sle; omega), by rw [gF_sF, if_neg (by decide)]; exact hx, by rw [gF_sF, if_pos ⟨rfl, rfl⟩]⟩
theorem vC_s {B : Int → Int} {s : Int} (j : Nat) : vC B s (j + 1) = min (vC B s j * 10 + B (s + j) - 48) 10000 := rfl
theorem scan_d {B : Int → Int} {N s : Int} (hs : 0 ≤ s) : ∀ (m n : Nat) (x : Int) (w : Wd), TXM w B N → gF w 50 20 = x → s ≤ x → x ≤ N → N - x ≤ m → m < n → (∀ i, s ≤ i → i < x → 48 ≤ B i) → gF w 50 23 = min 9999 (vC B s (x - s).toNat) →
    ∃ w', p_X9_scan_144 n w = some w' ∧ frm Sdi T0 w w' ∧ gF w' 50 20 = enF B N 2 m x ∧ gF w' 50 22 = 2 ∧ gF w' 50 23 = min 9999 (vC B s (enF B N 2 m x - s).toNat) := by
  have hend : ∀ (x : Int) (w : Wd), gF w 50 20 = x → gF w 50 23 = min 9999 (vC B s (x - s).toNat) → ∃ w', p_X9_scan_207 w = some w' ∧ frm Sdi T0 w w' ∧ gF w' 50 20 = x ∧ gF w' 50 22 = 2 ∧ gF w' 50 23 = min 9999 (vC B s (x - s).toNat) := fun x w hx hv =>
    ⟨sF w 50 22 2, rfl, frm_sF (frm_refl w) (by unfold Sdi; omega), by rw [gF_sF, if_neg (by decide)]; exact hx, by rw [gF_sF, if_pos ⟨rfl, rfl⟩], by rw [gF_sF, if_neg (by decide)]; exact hv⟩
  intro m
  induction m with
  | zero =>
    intro n x w h hx x0 x1 x2 hn hd hv
    obtain ⟨n', rfl⟩ : ∃ n', n = n' + 1 := ⟨n - 1, by omega⟩
    have h2 := h.2.1
    simp only [p_X9_scan_144]
    rw [hx, byteAt_o h ⟨by omega, by omega⟩, Option.bind_some, if_neg (show ¬ x < N by omega)]
    dsimp only
    rw [w32_o (by decide), in_o (by decide), Option.bind_some]
    dsimp only
    rw [decide_eq_false (by decide), if_pos (show eq32 (b2 false) 0 = true from e00)]
    exact hend x w hx hv
  | succ m ih =>
    intro n x w h hx x0 x1 x2 hn hd hv
    obtain ⟨n', rfl⟩ : ∃ n', n = n' + 1 := ⟨n - 1, by omega⟩
    have h2 := h.2.1
    have hr := vC_rng (B := B) (s := s) (x - s).toNat (fun i a b => hd i a (by omega))
    simp only [p_X9_scan_144]
    unfold enF
    rw [hx, byteAt_o h ⟨by omega, by omega⟩, Option.bind_some]
    dsimp only
    by_cases c : x < N
    · have hb := (h.2.2 x (by omega) c).2
      rw [if_pos c, w32_o (by omega), in_o (by omega), Option.bind_some]
      simp only [eq32_b2]
      by_cases d : 48 ≤ B x ∧ B x ≤ 57
      · rw [decide_eq_true d, if_neg (show ¬ true = false by decide), if_pos (show x < N ∧ kdB (B x) = 2 from ⟨c, kd_2.mpr d⟩), hx, byteAt_o h ⟨by omega, by omega⟩, Option.bind_some, if_pos c, Option.bind_some]
        have hval : mn32 9999 (((10 * (gF w 50 23)) + B x) - 48) = min 9999 (vC B s (x + 1 - s).toNat) := by
          rw [hv, mn32_o (by omega), show (x + 1 - s).toNat = (x - s).toNat + 1 by omega, vC_s, show s + (((x - s).toNat : Nat) : Int) = x by omega]
          omega
        have hfr : frm Sdi T0 w (sF (sF w 50 23 (mn32 9999 (((10 * (gF w 50 23)) + B x) - 48))) 50 20 (x + 1)) := frm_sF (frm_sF (frm_refl w) (by unfold Sdi; omega)) (by unfold Sdi; omega)
        obtain ⟨w', a1, a2, a3, a4, a5⟩ := ih n' (x + 1) _ (h.fr hfr (by unfold Sdi; omega) id) (by rw [gF_sF, if_pos ⟨rfl, rfl⟩]) (by omega) (by omega) (by omega) (by omega) (fun i a b => by
            by_cases q : i = x
            · rw [q]; exact d.1
            · exact hd i a (by omega)) (by rw [gF_sF, if_neg (by decide), gF_sF, if_pos ⟨rfl, rfl⟩]; exact hval)
        refine ⟨w', ?_, frm_trans hfr a2, a3, a4, a5⟩
        have e : gF (sF w 50 23 (mn32 9999 (((10 * (gF w 50 23)) + B x) - 48))) 50 20 = x := by rw [gF_sF, if_neg (by decide)]; exact hx
        dsimp only
        rw [e]
        exact a1
      · rw [decide_eq_false d, if_pos rfl, if_neg (show ¬ (x < N ∧ kdB (B x) = 2) from fun q => d (kd_2.mp q.2))]
        exact hend x w hx hv
    · rw [if_neg c, w32_o (by decide), in_o (by decide), Option.bind_some]
      simp only [eq32_b2]
      rw [decide_eq_false (by decide), if_pos rfl, if_neg (show ¬ (x < N ∧ kdB (B x) = 2) from fun q => c q.1)]
      exact hend x w hx hv
