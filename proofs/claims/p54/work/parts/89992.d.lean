/-! ===== the start; all calls together ===== -/
theorem f0_v (i : Int) : gA w9a 51 i = if i = 0 then 10 else if i = 1 then 4 else if i = 3 then 100 else if i = 4 then 10 else if i = 5 then 100 else 0 := by
  unfold w9a
  rw [gA_setR, if_pos rfl]
  unfold plainR
  rw [show gA w9 51 i = 0 from rfl, ite_self]
theorem f0_0 {i : Int} (h : i = 2 ∨ 6 ≤ i ∨ i < 0) : gA w9a 51 i = 0 := by
  rw [f0_v, if_neg (by omega), if_neg (by omega), if_neg (by omega), if_neg (by omega), if_neg (by omega)]
theorem f0_VB : VB (gA w9a 51) := VB_empty (by rw [f0_v, if_pos rfl]; decide) (by rw [f0_v, if_neg (by decide), if_pos rfl]; decide) (by rw [f0_0 (Or.inl rfl)]; decide) (fun i i0 i1 => f0_0 (by omega))
theorem f0_n : nLF (gA w9a 51) = 0 ∧ laF (gA w9a 51) (nLF (gA w9a 51)) = 0 := by
  have h := nL_rng f0_VB
  have h10 : gA w9a 51 10 = 0 := f0_0 (by omega)
  have e : nLF (gA w9a 51) = 0 := by omega
  exact ⟨e, by rw [e]; rfl⟩
theorem rr_0 : RR 0 0 w8 w9a := by
  have h0 : gA w9a 51 0 = 10 := by rw [f0_v, if_pos rfl]
  have h1 : gA w9a 51 1 = 4 := by rw [f0_v, if_neg (by decide), if_pos rfl]
  have h3 : gA w9a 51 3 = 100 := by rw [f0_v, if_neg (by decide), if_neg (by decide), if_pos rfl]
  have h4 : gA w9a 51 4 = 10 := by rw [f0_v, if_neg (by decide), if_neg (by decide), if_neg (by decide), if_pos rfl]
  have h5 : gA w9a 51 5 = 100 := by rw [f0_v, if_neg (by decide), if_neg (by decide), if_neg (by decide), if_neg (by decide), if_pos rfl]
  have h2 : gA w9a 51 2 = 0 := f0_0 (by omega)
  have h6 : gA w9a 51 6 = 0 := f0_0 (by omega)
  have h7 : gA w9a 51 7 = 0 := f0_0 (by omega)
  have h8 : gA w9a 51 8 = 0 := f0_0 (by omega)
  have h9 : gA w9a 51 9 = 0 := f0_0 (by omega)
  have h10 : gA w9a 51 10 = 0 := f0_0 (by omega)
  obtain ⟨n0, n1⟩ := f0_n
  refine ⟨rfl, ⟨f0_VB, by rw [h1]; decide, by rw [h3]; decide, by rw [h4]; decide, by rw [h5, h3]; decide, by rw [h6]; decide, by rw [h7]; decide, by rw [h8, n1]; decide⟩, ?_, ?_, ?_, ?_, ?_, ?_, ?_, ?_, ?_, fun i hi => f0_0 (by omega)⟩
  · refine RS_empty ⟨?_, ?_, ?_, ?_, ?_, ?_⟩ ⟨?_, ?_, ?_, ?_, ?_⟩ (fun r _ _ => rfl) (fun i i0 i1 => f0_0 (by omega))
    · rw [h0]; rfl
    · rw [h1]; rfl
    · rw [h2]; rfl
    · rw [h9]; rfl
    · rw [h10]; rfl
    · rw [h8]; rfl
    · rw [h3]; rfl
    · rw [h4]; rfl
    · rw [h5]; rfl
    · rw [h6]; rfl
    · rw [h7]; rfl
  · refine ⟨⟨?_, fun i i0 i1 => ?_⟩, fun i i0 i1 => ?_⟩
    · rw [n0]; rfl
    · rw [n0] at i1; omega
    · rw [n0] at i0; rw [h10] at i1; omega
  · refine ⟨?_, fun i i0 i1 => ?_⟩
    · rw [n1]; rfl
    · rw [n1] at i1; omega
  · exact ⟨rfl, by decide, fun i i0 i1 => absurd i1 (by show ¬ i < 0; omega)⟩
  · exact ⟨rfl, by decide, fun i i0 i1 => absurd i1 (by show ¬ i < 0; omega)⟩
  · exact ⟨rfl, rfl⟩
  · exact ⟨rfl, by decide, fun i i0 i1 => absurd i1 (by show ¬ i < 0; omega)⟩
  · exact fun s _ _ => Or.inl ⟨rfl, rfl⟩
  · exact ⟨fun j _ _ => Or.inl rfl, fun j _ _ => Or.inl rfl, fun i j _ _ _ _ q => absurd rfl q, fun i j _ _ _ _ q => absurd rfl q, fun i j _ _ _ _ q => absurd rfl q⟩
theorem w8_in : gF w8 2 1 = 0 := rfl
/-- the pure statement: on every script the class answers the law as it asks -/
theorem pure_main (xs : Nat → Int32) (L : Nat) : ∃ n w1 na2 w2 laid, fedF (loadT xs L) n 0 0 w8 = some w1 ∧ LDok xs L 0 w1 na2 w2 laid ∧ p_L_stands w2 = some (1, w2) ∧ IV na2 w2 := ld_o xs L rr_0 w8_in
