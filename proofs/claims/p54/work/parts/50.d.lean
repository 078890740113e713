/-! ===== slabs copied; what is remembered ===== -/
theorem nrm_id {f : Rw} (h : Z0 f) : nrm f = f := funext fun i => by
  unfold nrm
  by_cases c : 0 ≤ i ∧ i < 1099
  · rw [if_pos c]
  · rw [if_neg c, h i c]
theorem nrm_Z (f : Rw) : Z0 (nrm f) := fun i c => if_neg c
def SQ (q o _k : Nat) : Prop := q ≤ o ∧ o < q + 12
def TQ (q o : Nat) : Prop := q ≤ o ∧ o < q + 12
theorem cpy {i j d : Nat} (hij : i ≠ j) (hd : d + 1 < 16) (w : Wd) : ∃ w', p_X5_copy (sl i + d) (sl j + d) w = some w' ∧ frm S0 (fun o => o = sl i + (d + 1)) w w' ∧ ∀ x : Int, 0 ≤ x → x < (lslab.getD (d + 1) 0 : Nat) → gA w' (sl i + (d + 1)) x = gA w (sl j + (d + 1)) x :=
  ⟨_, cpy_row hij hd, frm_setR (frm_refl w) rfl, fun x h0 h1 => by rw [gA_setR, if_pos rfl, if_pos ⟨h0, h1⟩]⟩
theorem slab_cp {i j : Nat} (hij : i ≠ j) (w : Wd) : ∃ w', p_X6_copy (sl i) (sl j) w = some w' ∧ frm (SQ (sl i)) (TQ (sl i)) w w' ∧ ∀ f, VB f → RS w (sl j) f → RS w' (sl i) f := by
  have hap : sl i + 12 ≤ sl j ∨ sl j + 12 ≤ sl i := by unfold sl; omega
  generalize hp : sl j = p at *
  generalize hq : sl i = q at *
  have hne : q ≠ p := by omega
  unfold p_X6_copy
  rw [Option.bind_some]
  have a0 : frm (SQ q) (TQ q) w (sF (sF w q 0 (gF w p 0)) q 1 (gF (sF w q 0 (gF w p 0)) p 1)) := frm_sF (frm_sF (frm_refl w) ⟨by omega, by omega⟩) ⟨by omega, by omega⟩
  have a00 : gF (sF (sF w q 0 (gF w p 0)) q 1 (gF (sF w q 0 (gF w p 0)) p 1)) q 0 = gF w p 0 := by rw [gF_sF, if_neg (by omega), gF_sF, if_pos ⟨rfl, rfl⟩]
  have a01 : gF (sF (sF w q 0 (gF w p 0)) q 1 (gF (sF w q 0 (gF w p 0)) p 1)) q 1 = gF w p 1 := by rw [gF_sF, if_pos ⟨rfl, rfl⟩, gF_sF, if_neg (by omega)]
  generalize (sF (sF w q 0 (gF w p 0)) q 1 (gF (sF w q 0 (gF w p 0)) p 1)) = w0 at *
  have ap : ∀ k, gF w0 p k = gF w p k := fun k => a0.1 p k (fun h => by unfold SQ at h; omega)
  rw [ap]
  have b0 : frm (SQ q) (TQ q) w0 (sF w0 q 2 (gF w p 2)) := frm_sF (frm_refl w0) ⟨by omega, by omega⟩
  have b00 : gF (sF w0 q 2 (gF w p 2)) q 0 = gF w p 0 := by rw [gF_sF, if_neg (by omega)]; exact a00
  have b01 : gF (sF w0 q 2 (gF w p 2)) q 1 = gF w p 1 := by rw [gF_sF, if_neg (by omega)]; exact a01
  have b02 : gF (sF w0 q 2 (gF w p 2)) q 2 = gF w p 2 := by rw [gF_sF, if_pos ⟨rfl, rfl⟩]
  have b1 := frm_trans a0 b0
  generalize (sF w0 q 2 (gF w p 2)) = w1 at *
  obtain ⟨w2, c1, c2, c3⟩ := cpy (d := 1) hij (by decide) w1
  rw [hp, hq] at c1 c3
  rw [hq] at c2
  rw [c1, Option.bind_some]
  have c4 : frm (SQ q) (TQ q) w1 w2 := frm_mono c2 (fun o k h => absurd h id) (fun o h => by unfold TQ; omega)
  have c5 := frm_trans b1 c4
  have c20 : gF w2 q 0 = gF w p 0 := (c2.1 q 0 id).trans b00
  have c21 : gF w2 q 1 = gF w p 1 := (c2.1 q 1 id).trans b01
  have c22 : gF w2 q 2 = gF w p 2 := (c2.1 q 2 id).trans b02
  have c2a : ∀ x : Int, 0 ≤ x → x < 12 → gA w2 (q + 2) x = gA w (p + 2) x := fun x x0 x1 => (c3 x x0 x1).trans (b1.2.1 (p + 2) (fun h => by unfold TQ at h; omega) x)
  rw [show gF w2 p 4 = gF w p 4 from c5.1 p 4 (fun h => by unfold SQ at h; omega)]
  have d0 : frm (SQ q) (TQ q) w2 (sF w2 q 4 (gF w p 4)) := frm_sF (frm_refl w2) ⟨by omega, by omega⟩
  have d00 : gF (sF w2 q 4 (gF w p 4)) q 0 = gF w p 0 := by rw [gF_sF, if_neg (by omega)]; exact c20
  have d01 : gF (sF w2 q 4 (gF w p 4)) q 1 = gF w p 1 := by rw [gF_sF, if_neg (by omega)]; exact c21
  have d02 : gF (sF w2 q 4 (gF w p 4)) q 2 = gF w p 2 := by rw [gF_sF, if_neg (by omega)]; exact c22
  have d04 : gF (sF w2 q 4 (gF w p 4)) q 4 = gF w p 4 := by rw [gF_sF, if_pos ⟨rfl, rfl⟩]
  have d0a : ∀ x : Int, 0 ≤ x → x < 12 → gA (sF w2 q 4 (gF w p 4)) (q + 2) x = gA w (p + 2) x := c2a
  have d1 := frm_trans c5 d0
  generalize (sF w2 q 4 (gF w p 4)) = w3 at *
  obtain ⟨w4, e1, e2, e3⟩ := cpy (d := 3) hij (by decide) w3
  rw [hp, hq] at e1 e3
  rw [hq] at e2
  rw [e1, Option.bind_some]
  have e5 := frm_trans d1 (frm_mono (S' := SQ q) (T' := TQ q) e2 (fun o k h => absurd h id) (fun o h => by unfold TQ; omega))
  have e4a : ∀ x : Int, 0 ≤ x → x < 10 → gA w4 (q + 4) x = gA w (p + 4) x := fun x x0 x1 => (e3 x x0 x1).trans (d1.2.1 (p + 4) (fun h => by unfold TQ at h; omega) x)
  obtain ⟨w5, f1, f2, f3⟩ := cpy (d := 5) hij (by decide) w4
  rw [hp, hq] at f1 f3
  rw [hq] at f2
  rw [f1, Option.bind_some]
  have f5 := frm_trans e5 (frm_mono (S' := SQ q) (T' := TQ q) f2 (fun o k h => absurd h id) (fun o h => by unfold TQ; omega))
  have f6a : ∀ x : Int, 0 ≤ x → x < 10 → gA w5 (q + 6) x = gA w (p + 6) x := fun x x0 x1 => (f3 x x0 x1).trans (e5.2.1 (p + 6) (fun h => by unfold TQ at h; omega) x)
  have f4a : ∀ x : Int, 0 ≤ x → x < 10 → gA w5 (q + 4) x = gA w (p + 4) x := fun x x0 x1 => (f2.2.1 (q + 4) (by omega) x).trans (e4a x x0 x1)
  have f2a : ∀ x : Int, 0 ≤ x → x < 12 → gA w5 (q + 2) x = gA w (p + 2) x := fun x x0 x1 => (f2.2.1 (q + 2) (by omega) x).trans ((e2.2.1 (q + 2) (by omega) x).trans (d0a x x0 x1))
  have fF : ∀ k, gF w5 q k = gF w3 q k := fun k => (f2.1 q k id).trans (e2.1 q k id)
  rw [show gF w5 p 7 = gF w p 7 from f5.1 p 7 (fun h => by unfold SQ at h; omega)]
  have g0 : frm (SQ q) (TQ q) w5 (sF w5 q 7 (gF w p 7)) := frm_sF (frm_refl w5) ⟨by omega, by omega⟩
  have gF7 : ∀ k, gF (sF w5 q 7 (gF w p 7)) q k = if k = 7 then gF w p 7 else gF w3 q k := fun k => by
    rw [gF_sF]
    by_cases c : k = 7
    · rw [if_pos ⟨rfl, c⟩, if_pos c]
    · rw [if_neg (fun h => c h.2), if_neg c]; exact fF k
  have gA7 : ∀ o x, gA (sF w5 q 7 (gF w p 7)) o x = gA w5 o x := fun _ _ => rfl
  have g1 := frm_trans f5 g0
  generalize (sF w5 q 7 (gF w p 7)) = w6 at *
  obtain ⟨w7, h1, h2, h3⟩ := cpy (d := 7) hij (by decide) w6
  rw [hp, hq] at h1 h3
  rw [hq] at h2
  rw [h1, Option.bind_some]
  have h5 := frm_trans g1 (frm_mono (S' := SQ q) (T' := TQ q) h2 (fun o k h => absurd h id) (fun o h => by unfold TQ; omega))
  have h8a : ∀ x : Int, 0 ≤ x → x < 60 → gA w7 (q + 8) x = gA w (p + 8) x := fun x x0 x1 => (h3 x x0 x1).trans (g1.2.1 (p + 8) (fun h => by unfold TQ at h; omega) x)
  obtain ⟨w8', i1, i2, i3⟩ := cpy (d := 9) hij (by decide) w7
  rw [hp, hq] at i1 i3
  rw [hq] at i2
  rw [i1, Option.bind_some]
  have i5 := frm_trans h5 (frm_mono (S' := SQ q) (T' := TQ q) i2 (fun o k h => absurd h id) (fun o h => by unfold TQ; omega))
  have iAa : ∀ x : Int, 0 ≤ x → x < 720 → gA w8' (q + 10) x = gA w (p + 10) x := fun x x0 x1 => (i3 x x0 x1).trans (h5.2.1 (p + 10) (fun h => by unfold TQ at h; omega) x)
  have i8a : ∀ x : Int, 0 ≤ x → x < 60 → gA w8' (q + 8) x = gA w (p + 8) x := fun x x0 x1 => (i2.2.1 (q + 8) (by omega) x).trans (h8a x x0 x1)
  have i6a : ∀ x : Int, 0 ≤ x → x < 10 → gA w8' (q + 6) x = gA w (p + 6) x := fun x x0 x1 => (i2.2.1 (q + 6) (by omega) x).trans ((h2.2.1 (q + 6) (by omega) x).trans ((gA7 _ _).trans (f6a x x0 x1)))
  have i4a : ∀ x : Int, 0 ≤ x → x < 10 → gA w8' (q + 4) x = gA w (p + 4) x := fun x x0 x1 => (i2.2.1 (q + 4) (by omega) x).trans ((h2.2.1 (q + 4) (by omega) x).trans ((gA7 _ _).trans (f4a x x0 x1)))
  have i2a : ∀ x : Int, 0 ≤ x → x < 12 → gA w8' (q + 2) x = gA w (p + 2) x := fun x x0 x1 => (i2.2.1 (q + 2) (by omega) x).trans ((h2.2.1 (q + 2) (by omega) x).trans ((gA7 _ _).trans (f2a x x0 x1)))
  have iF : ∀ k, gF w8' q k = if k = 7 then gF w p 7 else gF w3 q k := fun k => (i2.1 q k id).trans ((h2.1 q k id).trans (gF7 k))
  have hpc : ∀ k, gF w8' (p + 11) k = gF w (p + 11) k := fun k => i5.1 (p + 11) k (fun h => by unfold SQ at h; omega)
  obtain ⟨w9', j1, j2, j3⟩ := ch_copy (w := w8') (f := fun x => if x = 3 then gF w (p + 11) 0 else if x = 4 then gF w (p + 11) 1 else if x = 5 then gF w (p + 11) 2 else if x = 6 then gF w (p + 11) 3 else gF w (p + 11) 4) (p := p + 11) (q := q + 11) (by omega) ⟨hpc 0, hpc 1, hpc 2, hpc 3, hpc 4⟩
  rw [j1, Option.bind_some]
  have j5 := frm_trans i5 (frm_mono (S' := SQ q) (T' := TQ q) j2 (fun o k h => by unfold SQ; omega) (fun o h => absurd h id))
  rw [show gF w9' p 11 = gF w p 11 from j5.1 p 11 (fun h => by unfold SQ at h; omega)]
  refine ⟨_, rfl, frm_trans j5 (frm_sF (frm_refl w9') ⟨by omega, by omega⟩), fun f hV hS => ?_⟩
  have hb9 := hV.p
  have hbw := hV.w
  obtain ⟨s1, s2, s3, s4, s5, s6, s7⟩ := hS
  have kF : ∀ k, k ≠ 11 → gF (sF w9' q 11 (gF w p 11)) q k = if k = 7 then gF w p 7 else gF w3 q k := fun k hk => by
    rw [gF_sF, if_neg (fun h => hk h.2), j2.1 q k (by omega)]; exact iF k
  have kA : ∀ o x, gA (sF w9' q 11 (gF w p 11)) o x = gA w8' o x := fun o x => j2.2.1 o id x
  refine ⟨⟨?_, ?_, ?_, ?_, ?_, ?_⟩, ⟨?_, ?_, ?_, ?_, ?_⟩, fun r r0 r1 c hc => ?_, fun x x0 x1 => ⟨?_, ?_⟩, fun x x0 x1 => ?_, fun v c v0 v1 c0 c1' => ?_, s7⟩
  · rw [kF 0 (by decide), if_neg (by decide), d00]; exact s1.1
  · rw [kF 1 (by decide), if_neg (by decide), d01]; exact s1.2.1
  · rw [kF 2 (by decide), if_neg (by decide), d02]; exact s1.2.2.1
  · rw [kF 4 (by decide), if_neg (by decide), d04]; exact s1.2.2.2.1
  · rw [kF 7 (by decide), if_pos rfl]; exact s1.2.2.2.2.1
  · rw [gF_sF, if_pos ⟨rfl, rfl⟩]; exact s1.2.2.2.2.2
  · rw [gF_sF, if_neg (by omega)]; exact j3.1.trans s2.1
  · rw [gF_sF, if_neg (by omega)]; exact j3.2.1.trans s2.2.1
  · rw [gF_sF, if_neg (by omega)]; exact j3.2.2.1.trans s2.2.2.1
  · rw [gF_sF, if_neg (by omega)]; exact j3.2.2.2.2.trans s2.2.2.2.1
  · rw [gF_sF, if_neg (by omega)]; exact j3.2.2.2.1.trans s2.2.2.2.2
  · rw [kA, i2a r r0 r1]; exact s3 r r0 r1 c hc
  · rw [kA, i4a x x0 (by omega)]; exact (s4 x x0 x1).1
  · rw [kA, i6a x x0 (by omega)]; exact (s4 x x0 x1).2
  · rw [kA, i8a x x0 (by omega)]; exact s5 x x0 x1
  · have hwn := hV.wn v0 v1
    rw [kA, iAa (v * 12 + c) (by omega) (by omega)]; exact s6 v c v0 v1 c0 c1'
