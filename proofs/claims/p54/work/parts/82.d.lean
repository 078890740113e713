theorem enF_s {B : Int → Int} {N k : Int} (m : Nat) {p : Int} (h : p < N ∧ kdB (B p) = k) : enF B N k (m + 1) p = enF B N k m (p + 1) := if_pos h
/-- the model takes the next token -/
theorem scan_o {w : Wd} {B : Int → Int} {N p : Int} (h : TXM w B N) (hp : gF w 50 20 = p) (h0 : 0 ≤ p ∧ p ≤ N) : ∃ w', p_X9_scan w = some w' ∧ frm Ssc T0 w w' ∧ gF w' 50 20 = tkE B N p ∧ gF w' 50 21 = tkS B N p ∧ gF w' 50 22 = tkK B N p ∧
    (tkK B N p = 2 → gF w' 50 23 = min 9999 (vC B (tkS B N p) (tkE B N p - tkS B N p).toNat)) ∧ (tkK B N p = 3 → gF w' 50 23 = B (tkS B N p)) := by
  have h2 := h.2.1
  have hFU : FU = 1000000 := rfl
  have hs := skF_rng (B := B) 500 p h0.2
  obtain ⟨w1, a1, a2, a3⟩ := scan_s 500 FU p w h hp h0.1 h0.2 (by omega) (by omega)
  unfold p_X9_scan
  rw [a1]
  have a3' : gF w1 50 20 = tkS B N p := a3
  rw [show skF B N 500 p = tkS B N p from rfl] at hs
  have hT := h.fr a2 (by unfold Ssc; omega) id
  have hf2 : frm Ssc T0 w (sF w1 50 21 (tkS B N p)) := frm_sF a2 (by unfold Ssc; omega)
  have hT2 : TXM (sF w1 50 21 (tkS B N p)) B N := h.fr hf2 (by unfold Ssc; omega) id
  have e20 : gF (sF w1 50 21 (tkS B N p)) 50 20 = tkS B N p := by rw [gF_sF, if_neg (by decide)]; exact a3'
  have e21 : gF (sF w1 50 21 (tkS B N p)) 50 21 = tkS B N p := by rw [gF_sF, if_pos ⟨rfl, rfl⟩]
  unfold p_X9_scan_39
  rw [a3', e20, byteAt_o hT2 ⟨by omega, by omega⟩, Option.bind_some]
  dsimp only
  generalize sF w1 50 21 (tkS B N p) = w2 at *
  unfold tkK tkE
  generalize tkS B N p = s at *
  by_cases c : s < N
  · have hb := (h.2.2 s (by omega) c).2
    rw [if_pos c, if_pos c, if_pos c, if_neg (show ¬ eq32 (B s) (-1) = true by rw [eq32_o (by omega)]; omega), w32_o (by omega), in_o (by omega), Option.bind_some]
    simp only [eq32_b2]
    by_cases d : 97 ≤ B s ∧ B s ≤ 122
    · have hk := kd_1.mpr d
      rw [decide_eq_true d, if_neg (show ¬ true = false by decide), hk]
      obtain ⟨w', b1, b2', b3, b4⟩ := scan_l 501 FU s w2 hT2 e20 (by omega) (by omega) (by omega) (by omega)
      refine ⟨w', b1, frm_trans hf2 (frm_mono b2' (fun o k h => by unfold Sle at h; unfold Ssc; omega) (fun _ h => h)), ?_, ?_, b4, fun q => absurd q (by decide), fun q => absurd q (by decide)⟩
      · rw [b3, if_neg (show ¬ (1 : Int) = 3 by decide)]; exact enF_s 500 ⟨c, hk⟩
      · exact (b2'.1 50 21 (by unfold Sle; omega)).trans e21
    · rw [decide_eq_false d, if_pos rfl, in_o (by omega), Option.bind_some]
      simp only [eq32_b2]
      by_cases e : 48 ≤ B s ∧ B s ≤ 57
      · have hk := kd_2.mpr e
        rw [decide_eq_true e, if_neg (show ¬ true = false by decide), hk]
        have hf3 : frm Ssc T0 w (sF w2 50 23 0) := frm_sF hf2 (by unfold Ssc; omega)
        have he : enF B N 2 501 s = enF B N 2 500 (s + 1) := enF_s 500 ⟨c, hk⟩
        obtain ⟨w', b1, b2', b3, b4, b5⟩ := scan_d (s := s) (by omega) 501 FU s (sF w2 50 23 0) (h.fr hf3 (by unfold Ssc; omega) id) (by rw [gF_sF, if_neg (by decide)]; exact e20) (Int.le_refl _) (by omega) (by omega) (by omega) (fun i i0 i1 => by omega) (by rw [gF_sF, if_pos ⟨rfl, rfl⟩, Int.sub_self]; rfl)
        rw [he] at b3 b5
        refine ⟨w', b1, frm_trans hf3 (frm_mono b2' (fun o k h => by unfold Sdi at h; unfold Ssc; omega) (fun _ h => h)), ?_, ?_, b4, fun q => ?_, fun q => absurd q (by decide)⟩
        · rw [b3, if_neg (show ¬ (2 : Int) = 3 by decide)]
        · refine (b2'.1 50 21 (by unfold Sdi; omega)).trans ?_
          rw [gF_sF, if_neg (by decide)]; exact e21
        · rw [b5, if_neg (show ¬ (2 : Int) = 3 by decide)]
      · have hk : kdB (B s) = 3 := by
          unfold kdB; rw [if_neg d, if_neg e]
        rw [decide_eq_false e, if_pos rfl, hk, if_pos rfl, Option.bind_some]
        refine ⟨_, rfl, frm_sF (frm_sF (frm_sF hf2 (by unfold Ssc; omega)) (by unfold Ssc; omega)) (by unfold Ssc; omega), ?_, ?_, ?_, fun q => absurd q (by decide), fun _ => ?_⟩
        · rw [gF_sF, if_pos ⟨rfl, rfl⟩, gF_sF, if_neg (by decide), gF_sF, if_neg (by decide), e20]
        · rw [gF_sF, if_neg (by decide), gF_sF, if_neg (by decide), gF_sF, if_neg (by decide), e21]
        · rw [gF_sF, if_neg (by decide), gF_sF, if_neg (by decide), gF_sF, if_pos ⟨rfl, rfl⟩]
        · rw [gF_sF, if_neg (by decide), gF_sF, if_pos ⟨rfl, rfl⟩]
  · rw [if_neg c, if_neg c, if_neg c, if_pos (show eq32 (-1) (-1) = true by decide +kernel)]
    refine ⟨_, rfl, frm_sF hf2 (by unfold Ssc; omega), ?_, ?_, ?_, fun q => absurd q (by decide), fun q => absurd q (by decide)⟩
    · rw [gF_sF, if_neg (by decide), e20]
    · rw [gF_sF, if_neg (by decide), e21]
    · rw [gF_sF, if_pos ⟨rfl, rfl⟩]
