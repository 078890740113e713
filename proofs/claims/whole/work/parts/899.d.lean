/-! ===== the start; all calls together ===== -/
theorem f0_v (i : Int) : gA w9a 51 i = if i = 0 then 10 else if i = 1 then 4 else if i = 3 then 100 else if i = 4 then 10 else if i = 5 then 100 else 0 := by
  unfold w9a
  rw [gA_setR, if_pos rfl]
  unfold plainR
  rw [show gA w9 51 i = 0 from rfl, ite_self]
theorem f0_0 {i : Int} (h : i = 2 ∨ 6 ≤ i ∨ i < 0) : gA w9a 51 i = 0 := by
  rw [f0_v, if_neg (by omega), if_neg (by omega), if_neg (by omega), if_neg (by omega), if_neg (by omega)]
theorem f0_VB : VB (gA w9a 51) := VB_empty (by rw [f0_v, if_pos rfl]; decide) (by rw [f0_v, if_neg (by decide), if_pos rfl]; decide) (by rw [f0_0 (Or.inl rfl)]; decide) (fun i i0 i1 => f0_0 (by omega))
theorem f0_n : nLF (gA w9a 51) = 0 ∧ laF (gA w9a 51) (nLF (gA w9a 51)) = 0 := by
  have h := nL_rng f0_VB
  have h10 : gA w9a 51 10 = 0 := f0_0 (by omega)
  have e : nLF (gA w9a 51) = 0 := by omega
  exact ⟨e, by rw [e]; rfl⟩
theorem rr_0 : RR 0 0 w8 w9a := by
  have h0 : gA w9a 51 0 = 10 := by rw [f0_v, if_pos rfl]
  have h1 : gA w9a 51 1 = 4 := by rw [f0_v, if_neg (by decide), if_pos rfl]
  have h3 : gA w9a 51 3 = 100 := by rw [f0_v, if_neg (by decide), if_neg (by decide), if_pos rfl]
  have h4 : gA w9a 51 4 = 10 := by rw [f0_v, if_neg (by decide), if_neg (by decide), if_neg (by decide), if_pos rfl]
  have h5 : gA w9a 51 5 = 100 := by rw [f0_v, if_neg (by decide), if_neg (by decide), if_neg (by decide), if_neg (by decide), if_pos rfl]
  have h2 : gA w9a 51 2 = 0 := f0_0 (by omega)
  have h6 : gA w9a 51 6 = 0 := f0_0 (by omega)
  have h7 : gA w9a 51 7 = 0 := f0_0 (by omega)
  have h8 : gA w9a 51 8 = 0 := f0_0 (by omega)
  have h9 : gA w9a 51 9 = 0 := f0_0 (by omega)
  have h10 : gA w9a 51 10 = 0 := f0_0 (by omega)
  obtain ⟨n0, n1⟩ := f0_n
  refine ⟨rfl, ⟨f0_VB, by rw [h1]; decide, by rw [h3]; decide, by rw [h4]; decide, by rw [h5, h3]; decide, by rw [h6]; decide, by rw [h7]; decide, by rw [h8, n1]; decide⟩, ?_, ?_, ?_, ?_, ?_, ?_, ?_, ?_, ?_, fun i hi => f0_0 (by omega)⟩
  · refine RS_empty ⟨?_, ?_, ?_, ?_, ?_, ?_⟩ ⟨?_, ?_, ?_, ?_, ?_⟩ (fun r _ _ => rfl) (fun i i0 i1 => f0_0 (by omega))
    · rw [h0]; rfl
    · rw [h1]; rfl
    · rw [h2]; rfl
    · rw [h9]; rfl
    · rw [h10]; rfl
    · rw [h8]; rfl
    · rw [h3]; rfl
    · rw [h4]; rfl
    · rw [h5]; rfl
    · rw [h6]; rfl
    · rw [h7]; rfl
  · refine ⟨⟨?_, fun i i0 i1 => ?_⟩, fun i i0 i1 => ?_⟩
    · rw [n0]; rfl
    · rw [n0] at i1; omega
    · rw [n0] at i0; rw [h10] at i1; omega
  · refine ⟨?_, fun i i0 i1 => ?_⟩
    · rw [n1]; rfl
    · rw [n1] at i1; omega
  · exact ⟨rfl, by decide, fun i i0 i1 => absurd i1 (by show ¬ i < 0; omega)⟩
  · exact ⟨rfl, by decide, fun i i0 i1 => absurd i1 (by show ¬ i < 0; omega)⟩
  · exact ⟨rfl, rfl⟩
  · exact ⟨rfl, by decide, fun i i0 i1 => absurd i1 (by show ¬ i < 0; omega)⟩
  · exact fun s _ _ => Or.inl ⟨rfl, rfl⟩
  · exact ⟨fun j _ _ => Or.inl rfl, fun j _ _ => Or.inl rfl, fun i j _ _ _ _ q => absurd rfl q, fun i j _ _ _ _ q => absurd rfl q, fun i j _ _ _ _ q => absurd rfl q⟩
theorem rr_up {k : Nat} {X : Option (Nat × Wd × Wd)} (h : ∃ z, X = some z ∧ RR k z.1 z.2.1 z.2.2) : ∃ z, X = some z ∧ RR (k + 1) z.1 z.2.1 z.2.2 := by
  obtain ⟨z, h1, h2⟩ := h
  exact ⟨z, h1, h2.mono (Nat.le_succ k)⟩
/-- the pure statement: on every script the class's and the model's pure functions agree -/
theorem pure_main (xs : Nat → Int32) (L : Nat) (hL : L ≤ 3072) : ∃ (w9' : Wd) (n : Nat), p_X9_layPlain w9 = some w9' ∧ p_law xs L n 0 0 w8 w9' = some () :=
  main_of (R := RR) rr_0 (fun xs k na wC wM _ hR => step_all (P := fun z => RR (k + 1) z.1 z.2.1 z.2.2) (rr_up (op0 hR)) (rr_up (op1 hR)) (op2 hR) (rr_up (op3 hR)) (rr_up (op4 hR)) (rr_up (op5 hR)) (rr_up (op6 hR)) (rr_up (op7 hR)) (rr_up (op8 hR)) (rr_up (op9 hR)) (rr_up (op10 hR)) (rr_up (op11 hR)) (rr_up (op12 hR)) (rr_up (op13 hR)) (rr_up (op14 hR)) (rr_up (op15 hR)) (rr_up (op16 hR)) (rr_up (op17 hR)) (rr_up (op18 hR)) (rr_up (op19 hR)) (rr_up (op20 hR)) (rr_up (op21 hR)) (rr_up (op22 hR)) (rr_up (op23 hR)) (rr_up (op24 hR)) (rr_up (op25 hR)) (rr_up (op26 hR)) (rr_up (op27 hR)) (rr_up (op28 hR)) (rr_up (op29 hR)) (rr_up (op30 hR)) (rr_up (op31 hR)) (rr_up (op32 hR)) (rr_up (op33 hR)) (op34 hR) (op35 hR) (op36 hR) (op37 hR) (op38 hR) (op39 hR) (op40 hR) (op41 hR) (op42 hR) (op43 hR) (rr_up (op44 hR)) (op45 hR) (rr_up (op46 hR)) (rr_up (op47 hR)) (rr_up (op48 hR)) (rr_up (op49 hR)) (rr_up (op50 hR)) (hR.mono (Nat.le_succ k))) xs L hL
