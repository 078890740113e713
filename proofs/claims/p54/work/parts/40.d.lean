/-! ===== the class's world and the model's, told together ===== -/
def VF (k : Nat) (f : Rw) : Prop :=
  VB f ∧ 2 ≤ f 1 ∧ (1 ≤ f 3 ∧ f 3 ≤ 999) ∧ (0 ≤ f 4 ∧ f 4 ≤ 99) ∧ (0 ≤ f 5 ∧ f 5 ≤ f 3) ∧ (0 ≤ f 6 ∧ f 6 ≤ 40000 * k) ∧ (0 ≤ f 7 ∧ f 7 ≤ 400 * k) ∧ (0 ≤ f 8 ∧ f 8 ≤ laF f (nLF f))
def nrm (f : Rw) : Rw := fun i => if 0 ≤ i ∧ i < 1099 then f i else 0
def Z0 (f : Rw) : Prop := ∀ i, ¬ (0 ≤ i ∧ i < 1099) → f i = 0
def prM (w : Wd) (j : Int) : Rw := nrm fun i => gA w 63 (1099 * j + i)
def krM (w : Wd) (s : Int) : Rw := nrm fun i => gA w 61 (1099 * s + i)
def INr (wC wM : Wd) : Prop := gF wC 2 1 = gF wM 50 18 ∧ (0 ≤ gF wM 50 18 ∧ gF wM 50 18 ≤ 500) ∧ ∀ i, 0 ≤ i → i < gF wM 50 18 → (0 ≤ gA wC 4 i ∧ gA wC 4 i ≤ 255) ∧ gA wM 60 i = i8 (gA wC 4 i)
def OUr (wC wM : Wd) : Prop := gF wC 5 1 = gF wM 50 33 ∧ (0 ≤ gF wM 50 33 ∧ gF wM 50 33 ≤ 900) ∧ ∀ i, 0 ≤ i → i < gF wM 50 33 → gA wC 7 i = gA wM 64 i
def ERr (wC wM : Wd) : Prop := gF wC 9 1 = gF wM 50 24 ∧ gF wC 9 2 = gF wM 50 25
def PAr (k : Nat) (wC wM : Wd) : Prop := gF wC 31 1 = gF wM 50 31 ∧ (0 ≤ gF wM 50 31 ∧ gF wM 50 31 ≤ 6) ∧ ∀ j, 0 ≤ j → j < gF wM 50 31 → gP wC 32 j ≠ 0 ∧ RS wC (gP wC 32 j) (prM wM j) ∧ VF k (prM wM j)
def SLr (k : Nat) (wC wM : Wd) : Prop := ∀ s, 0 ≤ s → s < 2 → (gP wC 33 s = 0 ∧ gA wM 62 s = 0) ∨ (gP wC 33 s ≠ 0 ∧ gA wM 62 s = 1 ∧ RS wC (gP wC 33 s) (krM wM s) ∧ VF k (krM wM s))
def PTr (na : Nat) (w : Wd) : Prop :=
  (∀ j, 0 ≤ j → j < 6 → gP w 32 j = 0 ∨ ∃ q, 2 ≤ q ∧ q < na + 2 ∧ gP w 32 j = sl q) ∧ (∀ j, 0 ≤ j → j < 2 → gP w 33 j = 0 ∨ ∃ q, 2 ≤ q ∧ q < na + 2 ∧ gP w 33 j = sl q) ∧
  (∀ i j, 0 ≤ i → i < 6 → 0 ≤ j → j < 6 → gP w 32 i ≠ 0 → gP w 32 i = gP w 32 j → i = j) ∧ (∀ i j, 0 ≤ i → i < 2 → 0 ≤ j → j < 2 → gP w 33 i ≠ 0 → gP w 33 i = gP w 33 j → i = j) ∧
  (∀ i j, 0 ≤ i → i < 6 → 0 ≤ j → j < 2 → gP w 32 i ≠ 0 → gP w 32 i ≠ gP w 33 j)
def RR (k na : Nat) (wC wM : Wd) : Prop :=
  gP wM 50 3 = 51 ∧ VF k (gA wM 51) ∧ RS wC 100 (gA wM 51) ∧ LY wC 10 (gA wM 51) ∧ LT wC 10 (gA wM 51) ∧ INr wC wM ∧ OUr wC wM ∧ ERr wC wM ∧ PAr k wC wM ∧ SLr k wC wM ∧ PTr na wC ∧ Z0 (gA wM 51)
theorem VF.mono {k k' : Nat} {f : Rw} (h : VF k f) (hk : k ≤ k') : VF k' f := by
  obtain ⟨a1, a2, a3, a4, a5, a6, a7, a8⟩ := h
  exact ⟨a1, a2, a3, a4, a5, ⟨a6.1, by omega⟩, ⟨a7.1, by omega⟩, a8⟩
theorem RR.mono {k k' na : Nat} {wC wM : Wd} (h : RR k na wC wM) (hk : k ≤ k') : RR k' na wC wM := by
  obtain ⟨a1, a2, a3, a4, a5, a6, a7, a8, ⟨b1, b2', b3⟩, c, d⟩ := h
  refine ⟨a1, a2.mono hk, a3, a4, a5, a6, a7, a8, ⟨b1, b2', fun j j0 j1 => ⟨(b3 j j0 j1).1, (b3 j j0 j1).2.1, (b3 j j0 j1).2.2.mono hk⟩⟩, fun s s0 s1 => ?_, d⟩
  rcases c s s0 s1 with h | h
  · exact Or.inl h
  · exact Or.inr ⟨h.1, h.2.1, h.2.2.1, h.2.2.2.mono hk⟩
/-- what questions may write -/
def SCf (o k : Nat) : Prop := (20 ≤ o ∧ o ≤ 30) ∨ (116 ≤ o ∧ o ≤ 127) ∨ o = 8 ∨ (o = 9 ∧ 3 ≤ k)
def TCf (o : Nat) : Prop := (20 ≤ o ∧ o ≤ 30) ∨ (116 ≤ o ∧ o ≤ 127) ∨ o = 34
def SMf (o k : Nat) : Prop := o = 50 ∧ k ≠ 18 ∧ k ≠ 24 ∧ k ≠ 25 ∧ k ≠ 31 ∧ k ≠ 33
def TMf (o : Nat) : Prop := 52 ≤ o ∧ o ≤ 59
/-- slabs that are kept -/
theorem RS.far {S : Nat → Nat → Prop} {T : Nat → Prop} {w w' : Wd} {o : Nat} {f : Rw} (h : RS w o f) (hfr : frm S T w w') (hS : ∀ a k, S a k → a < 132 ∧ ¬ (100 ≤ a ∧ a ≤ 111)) (hT : ∀ a, T a → a < 132 ∧ ¬ (100 ≤ a ∧ a ≤ 111)) (ho : o = 100 ∨ ∃ q, 2 ≤ q ∧ o = sl q) : RS w' o f := by
  have h3 : o = 100 ∨ 132 ≤ o := by
    rcases ho with ho | ⟨q, q1, q2⟩
    · exact Or.inl ho
    · right; rw [q2]; unfold sl; omega
  exact h.fr hfr (fun d k hd hs => by have := hS _ _ hs; omega) (fun d hd hs => by have := hT _ hs; omega)
theorem PTr.p {na : Nat} {w : Wd} (h : PTr na w) {j : Int} (h0 : 0 ≤ j ∧ j < 6) (hn : gP w 32 j ≠ 0) : ∃ q, 2 ≤ q ∧ gP w 32 j = sl q := by
  rcases h.1 j h0.1 h0.2 with h | ⟨q, a, _, c⟩
  · exact absurd h hn
  · exact ⟨q, a, c⟩
theorem PTr.s {na : Nat} {w : Wd} (h : PTr na w) {j : Int} (h0 : 0 ≤ j ∧ j < 2) (hn : gP w 33 j ≠ 0) : ∃ q, 2 ≤ q ∧ gP w 33 j = sl q := by
  rcases h.2.1 j h0.1 h0.2 with h | ⟨q, a, _, c⟩
  · exact absurd h hn
  · exact ⟨q, a, c⟩
theorem PTr.keep {na : Nat} {w w' : Wd} (h : PTr na w) (hp : ∀ o i, gP w' o i = gP w o i) : PTr na w' := by
  unfold PTr at *
  simp only [hp]
  exact h
theorem RR.fr {k na : Nat} {wC wM wC' wM' : Wd} (h : RR k na wC wM) (hC : frm SCf TCf wC wC') (hM : frm SMf TMf wM wM') : RR k na wC' wM' := by
  obtain ⟨a1, a2, a3, a4, a5, a6, a7, a8, ⟨b1, b2', b3⟩, c, d⟩ := h
  have hSC : ∀ a k, SCf a k → a < 132 ∧ ¬ (100 ≤ a ∧ a ≤ 111) := fun a k h => by unfold SCf at h; omega
  have hTC : ∀ a, TCf a → a < 132 ∧ ¬ (100 ≤ a ∧ a ≤ 111) := fun a h => by unfold TCf at h; omega
  have n51 : gA wM' 51 = gA wM 51 := funext fun i => hM.2.1 51 (by unfold TMf; omega) i
  have nP : ∀ j, prM wM' j = prM wM j := fun j => congrArg nrm (funext fun i => hM.2.1 63 (by unfold TMf; omega) _)
  have nK : ∀ j, krM wM' j = krM wM j := fun j => congrArg nrm (funext fun i => hM.2.1 61 (by unfold TMf; omega) _)
  have m18 : gF wM' 50 18 = gF wM 50 18 := hM.1 50 18 (by unfold SMf; omega)
  have m24 : gF wM' 50 24 = gF wM 50 24 := hM.1 50 24 (by unfold SMf; omega)
  have m25 : gF wM' 50 25 = gF wM 50 25 := hM.1 50 25 (by unfold SMf; omega)
  have m31 : gF wM' 50 31 = gF wM 50 31 := hM.1 50 31 (by unfold SMf; omega)
  have m33 : gF wM' 50 33 = gF wM 50 33 := hM.1 50 33 (by unfold SMf; omega)
  have cP : ∀ o i, gP wC' o i = gP wC o i := hC.2.2
  refine ⟨(hM.2.2 _ _).trans a1, by rw [n51]; exact a2, by rw [n51]; exact a3.far hC hSC hTC (Or.inl rfl), by rw [n51]; exact a4.fr hC (by unfold SCf; omega) (by unfold TCf; omega) (by unfold TCf; omega), by rw [n51]; exact a5.fr hC (by unfold SCf; omega) (by unfold TCf; omega) (by unfold TCf; omega), ?_, ?_, ?_, ⟨?_, ?_, fun j j0 j1 => ?_⟩, fun s s0 s1 => ?_, d.1.keep cP, by rw [n51]; exact d.2⟩
  · refine ⟨by rw [m18, hC.1 2 1 (by unfold SCf; omega)]; exact a6.1, by rw [m18]; exact a6.2.1, fun i i0 i1 => ?_⟩
    rw [m18] at i1
    rw [hC.2.1 4 (by unfold TCf; omega), hM.2.1 60 (by unfold TMf; omega)]
    exact a6.2.2 i i0 i1
  · refine ⟨by rw [m33, hC.1 5 1 (by unfold SCf; omega)]; exact a7.1, by rw [m33]; exact a7.2.1, fun i i0 i1 => ?_⟩
    rw [m33] at i1
    rw [hC.2.1 7 (by unfold TCf; omega), hM.2.1 64 (by unfold TMf; omega)]
    exact a7.2.2 i i0 i1
  · exact ⟨by rw [m24, hC.1 9 1 (by unfold SCf; omega)]; exact a8.1, by rw [m25, hC.1 9 2 (by unfold SCf; omega)]; exact a8.2⟩
  · rw [m31, hC.1 31 1 (by unfold SCf; omega)]; exact b1
  · rw [m31]; exact b2'
  · rw [m31] at j1
    obtain ⟨x1, x2, x3⟩ := b3 j j0 j1
    rw [cP, nP]
    exact ⟨x1, x2.far hC hSC hTC (Or.inr (d.1.p ⟨j0, by omega⟩ x1)), x3⟩
  · rw [cP, nK, hM.2.1 62 (by unfold TMf; omega)]
    rcases c s s0 s1 with h | h
    · exact Or.inl h
    · exact Or.inr ⟨h.1, h.2.1, h.2.2.1.far hC hSC hTC (Or.inr (d.1.s ⟨s0, s1⟩ h.1)), h.2.2.2⟩
theorem RR.f {k na : Nat} {wC wM : Wd} (h : RR k na wC wM) : cR wM = gA wM 51 := by
  unfold cR; rw [h.1]
/-- the law's own note of an answer -/
theorem frm_34 (w : Wd) (v : Int) : frm SCf TCf w (sA w 34 0 v) := frm_sA (frm_refl w) (Or.inr (Or.inr rfl))
theorem frmM_0 (w : Wd) (v : Int) : frm SMf TMf w (sF w 50 0 v) := frm_sF (frm_refl w) (by unfold SMf; omega)
theorem wok {k : Nat} {p8 : Option Rz} {h : Nat → Option Int} {pM : Option (Int × Wd)} {na' : Nat} {wC' wM' : Wd} {r : Int} (h8 : p8 = some (.inl r, na', wC')) (hM : pM = some (r, wM')) (ht : gF wM' 50 0 = 0) (hR : RR k na' wC' wM') :
    ∃ z, ((p8.bind (wrL h (fun r w => sA w 34 0 (w32 r)))).bind fun z1 => pM.bind fun m3 => (p_X9_thrown m3.2).bind fun m4 => if eq32 m4.1 z1.1 = true then (if eq32 z1.1 0 = true then (if eq32 (lcm64 (gA z1.2.2 34 0) (w32 m3.1)) 0 = true then (some (z1.2.1, z1.2.2, m4.2)) else (none)) else (some (z1.2.1, z1.2.2, m4.2))) else (none)) = some z ∧ RR k z.1 z.2.1 z.2.2 :=
  wop (P := fun z => RR k z.1 z.2.1 z.2.2) (wrap_l h8) hM ht (Or.inl rfl) (fun _ => by rw [gA_sA, if_pos ⟨rfl, rfl⟩]) (hR.fr (frm_34 _ _) (frm_refl _))
theorem wex {k : Nat} {p8 : Option Rz} {h : Nat → Option Int} {f : Int → Wd → Wd} {pM : Option (Int × Wd)} {na' : Nat} {wC' wM' : Wd} {r c : Int} {e : Nat} (h8 : p8 = some (.inr e, na', wC')) (hM : pM = some (r, wM')) (hh : h e = some c) (hc : c = 1 ∨ c = 2) (ht : gF wM' 50 0 = c) (hR : RR k na' wC' wM') :
    ∃ z, ((p8.bind (wrL h f)).bind fun z1 => pM.bind fun m3 => (p_X9_thrown m3.2).bind fun m4 => if eq32 m4.1 z1.1 = true then (if eq32 z1.1 0 = true then (if eq32 (lcm64 (gA z1.2.2 34 0) (w32 m3.1)) 0 = true then (some (z1.2.1, z1.2.2, m4.2)) else (none)) else (some (z1.2.1, z1.2.2, m4.2))) else (none)) = some z ∧ RR k z.1 z.2.1 z.2.2 :=
  wop (P := fun z => RR k z.1 z.2.1 z.2.2) (wrap_r h8 hh) hM ht (Or.inr hc) (fun h => by omega) hR
theorem dok {k na : Nat} {p8 pM : Option (Int × Wd)} {r : Int} {wC' wM' : Wd} (h8 : p8 = some (r, wC')) (hM : pM = some (r, wM')) (hR : RR k na wC' wM') :
    ∃ z, (p8.bind fun m1 => pM.bind fun m2 => if eq32 m1.1 m2.1 = true then (some (na, m1.2, m2.2)) else (none)) = some z ∧ RR k z.1 z.2.1 z.2.2 :=
  dop (P := fun z => RR k z.1 z.2.1 z.2.2) h8 hM hR
theorem sc_rng (xs : Nat → Int32) (j : Int) : rng (sc xs j) := by
  have h1 := Int32.le_toInt (xs j.toNat)
  have h2 := Int32.toInt_lt (xs j.toNat)
  exact ⟨by unfold sc; omega, by unfold sc; omega⟩
