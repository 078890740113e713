/-! ===== a new slab joins the world ===== -/
def adN (ad : Nat → Nat) (na q : Nat) (qs : Nat → Nat) : Nat → Nat := fun x => if x < sl (na + 2) then ad x else if x = sl (na + 2) then q else qs (x - sl (na + 2) - 1)
theorem adN_old {ad : Nat → Nat} {na q x : Nat} {qs : Nat → Nat} (h : x < sl (na + 2)) : adN ad na q qs x = ad x := if_pos h
theorem adN_0 {ad : Nat → Nat} {na q : Nat} {qs : Nat → Nat} : adN ad na q qs (sl (na + 2)) = q := by unfold adN; rw [if_neg (Nat.lt_irrefl _), if_pos rfl]
theorem adN_r {ad : Nat → Nat} {na q r : Nat} {qs : Nat → Nat} : adN ad na q qs (sl (na + 2) + (r + 1)) = qs r := by
  unfold adN; rw [if_neg (by omega), if_neg (by omega)]; congr 1; omega
theorem kd_lt {na o : Nat} (h : kd na o ≠ 0) : o < sl (na + 2) := by
  unfold kd at h
  unfold sl
  by_cases c : o < 100
  · omega
  · rw [if_neg c] at h
    by_cases c2 : (o - 100) / 16 < na + 2
    · omega
    · rw [if_neg c2] at h; exact absurd rfl h
theorem kd_sl {na r : Nat} (hr : r < 16) : kd (na + 1) (sl (na + 2) + r) = kslab.getD r 0 := by
  unfold kd sl
  rw [if_neg (by omega), show (100 + 16 * (na + 2) + r - 100) / 16 = na + 2 by omega, if_pos (by omega), show (100 + 16 * (na + 2) + r - 100) % 16 = r by omega]
theorem ln_sl {na r : Nat} (hr : r < 16) : ln (sl (na + 2) + r) = lslab.getD r 0 := by
  unfold ln sl
  rw [if_neg (by omega), show (100 + 16 * (na + 2) + r - 100) % 16 = r by omega]
def chp (ci k : Nat) : Bool × Nat := (chtab.getD ci []).getD k (true, 0)
theorem ch_eq (o ci k : Nat) : ch o ci k = if (chp ci k).1 = true then o + (chp ci k).2 else (chp ci k).2 := by
  unfold ch chp
  rcases (chtab.getD ci []).getD k (true, 0) with ⟨_ | _, n⟩ <;> rfl
theorem ch_t1 : ∀ x, x < 100 → ∀ k, k < 34 → kmain.getD x 0 ≤ 10 → ch x (kmain.getD x 0 - 1) k < 132 := by decide +kernel
theorem ch_t2 : ∀ r, r < 12 → ∀ k, k < 34 → kslab.getD r 0 ≤ 10 → ((chp (kslab.getD r 0 - 1) k).1 = true → r + (chp (kslab.getD r 0 - 1) k).2 < 16) ∧ ((chp (kslab.getD r 0 - 1) k).1 = false → (chp (kslab.getD r 0 - 1) k).2 < 132) := by decide +kernel
theorem nf34 : ∀ ci, ci < 10 → nf ci ≤ 34 := by decide +kernel
theorem ch_old {na x k : Nat} (hk : kd na x ≠ 0) (hK : kd na x ≤ 10) (hkn : k < nf (kd na x - 1)) : ch x (kd na x - 1) k < sl (na + 2) := by
  have hk34 : k < 34 := Nat.lt_of_lt_of_le hkn (nf34 _ (by omega))
  rcases kd_cases hk rfl with ⟨a, b⟩ | ⟨r, a, b, c, e, f⟩
  · have h1 := ch_t1 x a k hk34 (by rw [b]; exact hK)
    rw [b] at h1
    unfold sl; omega
  · have h1 := ch_t2 r a k hk34 (by rw [f]; exact hK)
    rw [f] at h1
    rw [ch_eq]
    unfold sl
    cases hb : (chp (kd na x - 1) k).1 with
    | true => rw [if_pos rfl]; have := h1.1 hb; omega
    | false => rw [if_neg (by decide)]; have := h1.2 hb; omega
theorem ft2_t : ∀ ci, ci < 10 → ∀ k, k < 34 → ft ci k = 2 → ci = 9 ∧ k = 3 := by decide +kernel
theorem kd10 {na x : Nat} (h : kd na x = 10) : x = 50 := by
  rcases kd_cases (by decide) h with ⟨a, b⟩ | ⟨r, a, b, c, e, f⟩
  · exact (by decide +kernel : ∀ x, x < 100 → kmain.getD x 0 = 10 → x = 50) x a b
  · exact absurd f ((by decide +kernel : ∀ r, r < 12 → kslab.getD r 0 ≠ 10) r a)
theorem ft_le : ∀ ci, ci < 10 → ∀ k, k < 34 → ft ci k ≤ 2 := by decide +kernel
/-- an old cell stays as it is -/
theorem cell_new {cy : Nat → ClassId} {ad ad' : Nat → Nat} {na x : Nat} {w w' : Wd} (hok : okW na w) (hk : kd na x ≠ 0) (had : ∀ z, z < sl (na + 2) → ad' z = ad z) (hF : ∀ z k, z < sl (na + 2) → gF w' z k = gF w z k) (hA : ∀ z i, z < sl (na + 2) → gA w' z i = gA w z i) (hP : ∀ z i, z < sl (na + 2) → gP w' z i = gP w z i) :
    cellOf cy ad' w' (kd na x) x = cellOf cy ad w (kd na x) x := by
  have hx := kd_lt hk
  have hov : ∀ i, okP na x (gP w x i) → (x = 50 ∨ x = 32 ∨ x = 33) → ov ad' (gP w x i) = ov ad (gP w x i) := by
    intro i ho hx
    unfold ov
    by_cases c : gP w x i = 0
    · rw [if_pos c, if_pos c]
    · rw [if_neg c, if_neg c]
      rw [had]
      unfold okP at ho
      by_cases c5 : x = 50
      · rw [if_pos c5] at ho
        rcases ho with ho | ho <;> rw [ho] <;> unfold sl <;> omega
      · rw [if_neg c5, if_pos (hx.resolve_left c5)] at ho
        exact kd_lt (by rw [ho.resolve_left c]; decide)
  unfold cellOf
  by_cases c : kd na x ≤ 10
  · rw [if_pos c, if_pos c]
    congr 2
    refine List.map_congr_left (fun k hkr => ?_)
    have hkn : k < nf (kd na x - 1) := List.mem_range.mp hkr
    have hk34 : k < 34 := Nat.lt_of_lt_of_le hkn (nf34 _ (by omega))
    rcases (show ft (kd na x - 1) k = 0 ∨ ft (kd na x - 1) k = 1 ∨ ft (kd na x - 1) k = 2 by have := ft_le (kd na x - 1) (by omega) k hk34; omega) with e | e | e
    · rw [fv_int e, fv_int e, hF x k hx]
    · rw [fv_ref e, fv_ref e, had _ (ch_old hk c hkn)]
    · have h9 := ft2_t _ (by omega) k hk34 e
      have hx50 : x = 50 := kd10 (na := na) (by omega)
      rw [fv_dyn e, fv_dyn e, hP x _ hx]
      unfold rV
      rw [hov _ (hok x _) (Or.inl hx50)]
  · rw [if_neg c, if_neg c]
    by_cases c4 : kd na x = 14
    · rw [if_pos c4, if_pos c4]
      congr 7
      funext i
      rw [hP x _ hx]
      refine hov _ (hok x _) (Or.inr (k14 (dm := dmo x) ⟨c4, rfl⟩))
    · rw [if_neg c4, if_neg c4]
      simp only [hA x _ hx]
theorem OL_new (na : Nat) : OL 0 (na + 1) = OL 0 na ++ (List.range 12).map (sl (na + 2) + ·) := by
  unfold OL
  rw [show 100 + 16 * (na + 1 + 2) = (100 + 16 * (na + 2)) + 16 by omega, List.range_add, List.filter_append]
  congr 1
  · refine List.filter_congr (fun x hx => ?_)
    have hx := List.mem_range.mp hx
    have : kd (na + 1) x = kd na x := by
      unfold kd
      by_cases c : x < 100
      · rw [if_pos c, if_pos c]
      · rw [if_neg c, if_neg c, if_pos (show (x - 100) / 16 < na + 1 + 2 by omega), if_pos (show (x - 100) / 16 < na + 2 by omega)]
    rw [this]
  · rw [List.filter_map]
    have h16 : List.range 16 = List.range 12 ++ [12, 13, 14, 15] := by decide
    rw [h16, List.filter_append]
    have hd : ∀ r, dmo (100 + 16 * (na + 2) + r) = 0 := fun r => by unfold dmo; rw [if_neg (by omega)]
    have h1 : (List.range 12).filter ((fun o => decide (kd (na + 1) o ≠ 0) && decide (dmo o = 0)) ∘ (fun x => 100 + 16 * (na + 2) + x)) = List.range 12 := by
      refine List.filter_eq_self.mpr (fun r hr => ?_)
      have hr := List.mem_range.mp hr
      show (decide (kd (na + 1) (sl (na + 2) + r) ≠ 0) && decide (dmo (100 + 16 * (na + 2) + r) = 0)) = true
      rw [kd_sl (by omega), hd, Bool.and_eq_true]
      exact ⟨decide_eq_true ((by decide +kernel : ∀ r, r < 12 → kslab.getD r 0 ≠ 0) r hr), rfl⟩
    have h2 : ([12, 13, 14, 15] : List Nat).filter ((fun o => decide (kd (na + 1) o ≠ 0) && decide (dmo o = 0)) ∘ (fun x => 100 + 16 * (na + 2) + x)) = [] := by
      refine List.filter_eq_nil_iff.mpr (fun r hr => ?_)
      have hr2 : 12 ≤ r ∧ r < 16 := by simp at hr; omega
      show ¬ (decide (kd (na + 1) (sl (na + 2) + r) ≠ 0) && decide (dmo (100 + 16 * (na + 2) + r) = 0)) = true
      rw [kd_sl hr2.2, (by decide +kernel : ∀ r, r < 16 → 12 ≤ r → kslab.getD r 0 = 0) r hr2.2 hr2.1]
      simp
    rw [h1, h2, List.append_nil]
    rfl
theorem iS_F0 {w : Wd} {o k : Nat} : gF (initS w o) o k = if k = 0 then 10 else if k = 1 then 4 else 0 := if_pos rfl
theorem iS_F11 {w : Wd} {o k : Nat} : gF (initS w o) (o + 11) k = if k = 0 ∨ k = 2 then 100 else if k = 1 then 10 else 0 := (if_neg (by omega)).trans (if_pos rfl)
theorem iS_A {w : Wd} {o r : Nat} {i : Int} (h : r < 12) : gA (initS w o) (o + r) i = 0 := by unfold gA initS; exact if_pos ⟨by omega, by omega⟩
theorem hw_new {G : Gd} {na : Nat} {ad : Nat → Nat} {w : Wd} {q : Nat} {qs : Nat → Nat} (hok : okW na w) : hw G 0 (na + 1) (adN ad na q qs) (initS w (sl (na + 2))) = hw G 0 na ad w ++ postX6 G q qs := by
  unfold hw
  rw [OL_new, List.map_append]
  congr 1
  · refine List.map_congr_left (fun x hx => ?_)
    have hk := (mem_OL.mp hx).1
    have hlt := kd_lt hk
    unfold hE
    rw [kd_mono (Nat.le_succ na) hk, adN_old hlt, cell_new hok hk (fun z hz => adN_old hz)]
    · intro z k hz; exact (if_neg (by omega)).trans (if_neg (by omega))
    · intro z i hz; unfold gA initS; exact if_neg (by omega)
    · intro z i hz; rfl
  · have e0 : sl (na + 2) + 0 = sl (na + 2) := rfl
    have hrow : ∀ r, r < 11 → kslab.getD (r + 1) 0 = 6 → hE G (na + 1) (adN ad na q qs) (initS w (sl (na + 2))) (sl (na + 2) + (r + 1)) = (qs r, .inr (5, [.ref (qs (r + 1))])) := by
      intro r hr hK
      unfold hE
      rw [kd_sl (by omega), hK, adN_r, cell_obj (by decide)]
      show _ = (qs r, (.inr (5, [Value.ref (qs (r + 1))]) : va_E))
      have : adN ad na q qs (sl (na + 2) + (r + 1) + 1) = qs (r + 1) := adN_r (r := r + 1)
      rw [← this]
      rfl
    have harr : ∀ r n, r < 11 → kslab.getD (r + 1) 0 = 11 → lslab.getD (r + 1) 0 = n → hE G (na + 1) (adN ad na q qs) (initS w (sl (na + 2))) (sl (na + 2) + (r + 1)) = (qs r, .inl (G.cy 0, (n, .inl fun _ => 0))) := by
      intro r n hr hK hn
      unfold hE
      rw [kd_sl (by omega), hK, adN_r, cell_int (Or.inl rfl), ln_sl (by omega), hn]
      congr 5
      funext i
      rw [iS_A (by omega)]
      rfl
    have hobj : hE G (na + 1) (adN ad na q qs) (initS w (sl (na + 2))) (sl (na + 2) + 0) = (q, .inr (6, [iV 10, iV 4, iV 0, .ref (qs 0), iV 0, .ref (qs 2), .ref (qs 4), iV 0, .ref (qs 6), .ref (qs 8), .ref (qs 10), iV 0])) := by
      unfold hE
      rw [kd_sl (by omega), e0, adN_0, show kslab.getD 0 0 = 7 from rfl, cell_obj (by decide)]
      rw [← adN_r (ad := ad) (na := na) (q := q) (qs := qs) (r := 0), ← adN_r (ad := ad) (na := na) (q := q) (qs := qs) (r := 2), ← adN_r (ad := ad) (na := na) (q := q) (qs := qs) (r := 4), ← adN_r (ad := ad) (na := na) (q := q) (qs := qs) (r := 6), ← adN_r (ad := ad) (na := na) (q := q) (qs := qs) (r := 8), ← adN_r (ad := ad) (na := na) (q := q) (qs := qs) (r := 10)]
      have hi : ∀ k, ft 6 k = 0 → fv (adN ad na q qs) (initS w (sl (na + 2))) (sl (na + 2)) 6 k = iV (if k = 0 then 10 else if k = 1 then 4 else 0) := fun k h => by rw [fv_int h, iS_F0]
      show (q, (.inr (6, [fv _ _ _ 6 0, fv _ _ _ 6 1, fv _ _ _ 6 2, fv _ _ _ 6 3, fv _ _ _ 6 4, fv _ _ _ 6 5, fv _ _ _ 6 6, fv _ _ _ 6 7, fv _ _ _ 6 8, fv _ _ _ 6 9, fv _ _ _ 6 10, fv _ _ _ 6 11]) : va_E)) = _
      rw [hi 0 rfl, hi 1 rfl, hi 2 rfl, hi 4 rfl, hi 7 rfl, hi 11 rfl]
      rfl
    have hch : hE G (na + 1) (adN ad na q qs) (initS w (sl (na + 2))) (sl (na + 2) + 11) = (qs 10, .inr (1, [iV 100, iV 10, iV 100, iV 0, iV 0])) := by
      unfold hE
      rw [kd_sl (by omega), adN_r (r := 10), show kslab.getD 11 0 = 2 from rfl, cell_obj (by decide)]
      have hi : ∀ k, ft 1 k = 0 → fv (adN ad na q qs) (initS w (sl (na + 2))) (sl (na + 2) + 11) 1 k = iV (if k = 0 ∨ k = 2 then 100 else if k = 1 then 10 else 0) := fun k h => by rw [fv_int h, iS_F11]
      show (qs 10, (.inr (1, [fv _ _ _ 1 0, fv _ _ _ 1 1, fv _ _ _ 1 2, fv _ _ _ 1 3, fv _ _ _ 1 4]) : va_E)) = _
      rw [hi 0 rfl, hi 1 rfl, hi 2 rfl, hi 3 rfl, hi 4 rfl]
      rfl
    show [hE G (na + 1) (adN ad na q qs) (initS w (sl (na + 2))) (sl (na + 2) + 0), hE _ _ _ _ (sl (na + 2) + 1), hE _ _ _ _ (sl (na + 2) + 2), hE _ _ _ _ (sl (na + 2) + 3), hE _ _ _ _ (sl (na + 2) + 4), hE _ _ _ _ (sl (na + 2) + 5), hE _ _ _ _ (sl (na + 2) + 6), hE _ _ _ _ (sl (na + 2) + 7), hE _ _ _ _ (sl (na + 2) + 8), hE _ _ _ _ (sl (na + 2) + 9), hE _ _ _ _ (sl (na + 2) + 10), hE _ _ _ _ (sl (na + 2) + 11)] = _
    rw [hobj, hch, hrow 0 (by decide) rfl, harr 1 12 (by decide) rfl rfl, hrow 2 (by decide) rfl, harr 3 10 (by decide) rfl rfl, hrow 4 (by decide) rfl, harr 5 10 (by decide) rfl rfl, hrow 6 (by decide) rfl, harr 7 60 (by decide) rfl rfl, hrow 8 (by decide) rfl, harr 9 720 (by decide) rfl rfl]
    rfl
theorem okW_new {na o : Nat} {w : Wd} (h : okW na w) : okW (na + 1) (initS w o) := by
  intro x i
  have h1 := h x i
  unfold okP at h1 ⊢
  show if x = 50 then gP w x i = 51 ∨ gP w x i = 52 else if x = 32 ∨ x = 33 then gP w x i = 0 ∨ kd (na + 1) (gP w x i) = 7 else True
  by_cases c : x = 50
  · rw [if_pos c] at h1 ⊢; exact h1
  · rw [if_neg c] at h1 ⊢
    by_cases c2 : x = 32 ∨ x = 33
    · rw [if_pos c2] at h1 ⊢
      rcases h1 with h1 | h1
      · exact Or.inl h1
      · exact Or.inr (by rw [kd_mono (Nat.le_succ na) (by rw [h1]; decide)]; exact h1)
    · rw [if_neg c2]; trivial
