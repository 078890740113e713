/-! ===== a statement; the whole text ===== -/
section TXT
variable {w m : Wd} {B : Int → Int} {N : Int} {f : Rw}
theorem stmt_ST (h : PG w m B N f) : ∃ r w' m', p_X3_readStatement 116 w = some (b2 r, w') ∧ p_X9_parseStatement m = some m' ∧ ST w m B N r w' m' := by
  have iT : ¬ eq32 (b2 true) 0 = true := by decide +kernel
  have iF : eq32 (b2 false) 0 = true := by decide +kernel
  obtain ⟨c2, a2, d2⟩ := wrd_o h.1 (o := 2) (by decide) (by decide)
  obtain ⟨c4, a4, d4⟩ := wrd_o h.1 (o := 4) (by decide) (by decide)
  obtain ⟨c5, a5, d5⟩ := wrd_o h.1 (o := 5) (by decide) (by decide)
  obtain ⟨c6, a6, d6⟩ := wrd_o h.1 (o := 6) (by decide) (by decide)
  obtain ⟨c7, a7, d7⟩ := wrd_o h.1 (o := 7) (by decide) (by decide)
  obtain ⟨c8, a8, d8⟩ := wrd_o h.1 (o := 8) (by decide) (by decide)
  unfold p_X3_readStatement p_X9_parseStatement
  rw [a2, Option.bind_some, d2, Option.bind_some]
  dsimp only
  cases c2 with
  | true =>
    obtain ⟨r, w', m', b1, b2', b3⟩ := flaws_ST h
    rw [if_neg iT, if_neg iT, b1, Option.bind_some, b2', Option.bind_some]
    exact ⟨r, w', m', zr_b2 r w', rfl, b3⟩
  | false =>
    rw [if_pos iF, if_pos iF, a4, Option.bind_some, d4, Option.bind_some]
    dsimp only
    cases c4 with
    | true =>
      obtain ⟨r, w', m', b1, b2', b3⟩ := gap_ST h
      rw [if_neg iT, if_neg iT, b1, Option.bind_some, b2', Option.bind_some]
      exact ⟨r, w', m', zr_b2 r w', rfl, b3⟩
    | false =>
      rw [if_pos iF, if_pos iF, a5, Option.bind_some, d5, Option.bind_some]
      dsimp only
      cases c5 with
      | true =>
        obtain ⟨r, w', m', b1, b2', b3⟩ := chisel_ST h
        rw [if_neg iT, if_neg iT, b1, Option.bind_some, b2', Option.bind_some]
        exact ⟨r, w', m', zr_b2 r w', rfl, b3⟩
      | false =>
        rw [if_pos iF, if_pos iF, a6, Option.bind_some, d6, Option.bind_some]
        dsimp only
        cases c6 with
        | true =>
          obtain ⟨r, w', m', b1, b2', b3⟩ := part_ST h (kind := 0) (by decide)
          rw [if_neg iT, if_neg iT, b1, Option.bind_some, b2', Option.bind_some]
          exact ⟨r, w', m', zr_b2 r w', rfl, b3⟩
        | false =>
          rw [if_pos iF, if_pos iF, a7, Option.bind_some, d7, Option.bind_some]
          dsimp only
          cases c7 with
          | true =>
            obtain ⟨r, w', m', b1, b2', b3⟩ := part_ST h (kind := 1) (by decide)
            rw [if_neg iT, if_neg iT, b1, Option.bind_some, b2', Option.bind_some]
            exact ⟨r, w', m', zr_b2 r w', rfl, b3⟩
          | false =>
            rw [if_pos iF, if_pos iF, a8, Option.bind_some, d8, Option.bind_some]
            dsimp only
            cases c8 with
            | true =>
              obtain ⟨r, w', m', b1, b2', b3⟩ := part_ST h (kind := 2) (by decide)
              rw [if_neg iT, if_neg iT, b1, Option.bind_some, b2', Option.bind_some]
              exact ⟨r, w', m', zr_b2 r w', rfl, b3⟩
            | false =>
              obtain ⟨w', m', f1, f2, f3, f4, f5⟩ := bad2 h.1 (c := 1) (by decide)
              rw [if_pos iF, if_pos iF, f1, Option.bind_some, f2, Option.bind_some]
              exact ⟨false, w', m', zr_0 w', rfl, fte f4, fse f5, Or.inr ⟨rfl, f3⟩⟩
theorem mu_rng (h : PG w m B N f) : 0 ≤ mu w ∧ mu w ≤ 52 := by
  obtain ⟨hP, -, hS, hVD, -, ⟨-, -, h94⟩, h5, h6⟩ := h
  have g4 : gF w 116 4 = f 9 := hS.1.2.2.2.1.trans (fx_n (by decide))
  have h9 := hVD.1.p
  have hn := (nf_rng hVD.1).1
  have h40 := hVD.2.2.2.2.2
  unfold mu
  omega
theorem read_lp {w0 m0 : Wd} : ∀ (j n n' : Nat) (x3 : Int) (w m : Wd) (f : Rw), PG w m B N f → frm SPc TPc w0 w → frm SPm TPm m0 m → 60 ≤ mu w + j → 0 ≤ x3 → x3 ≤ mu w → j + 2 < n → j + 2 < n' →
    ∃ r w' m', p_X3_read_40 116 n 1 x3 w = some (b2 r, w') ∧ p_X9_load_31 n' m = p_X9_load_52 m' ∧ frm SPc TPc w0 w' ∧ frm SPm TPm m0 m' ∧ ((r = true ∧ ∃ f', PG w' m' B N f') ∨ (r = false ∧ BAD w' m')) := by
  have iT : ¬ eq32 (b2 true) 0 = true := by decide +kernel
  have iF : eq32 (b2 false) 0 = true := by decide +kernel
  intro j
  induction j with
  | zero =>
    intro n n' x3 w m f h hw hm hj x0 x1 hn hn'
    exfalso
    have := mu_rng h
    omega
  | succ j ih =>
    intro n n' x3 w m f h hw hm hj x0 x1 hn hn'
    obtain ⟨n, rfl⟩ : ∃ q, n = q + 1 := ⟨n - 1, by omega⟩
    obtain ⟨n', rfl⟩ : ∃ q, n' = q + 1 := ⟨n' - 1, by omega⟩
    have hmr := mu_rng h
    obtain ⟨q1, q2, q3, s, e, K, q4⟩ := h.1
    have hK := kk_rng q4
    simp only [p_X3_read_40, p_X9_load_31]
    rw [if_pos (show lt32 x3 500 = true by rw [lt32_o (by omega)]; omega), if_neg e10', good_o q3, Option.bind_some, q4.2.1.2.2]
    dsimp only
    rw [if_neg e10', q4.2.2.1.2.2]
    by_cases c : K = 0
    · have hc : eq32 K 0 = true := by rw [eq32_o (by omega)]; exact c
      rw [if_pos hc, if_pos hc]
      exact ⟨true, w, m, zr_b2 true w, rfl, hw, hm, Or.inl ⟨rfl, f, h⟩⟩
    · have hc : ¬ eq32 K 0 = true := by rw [eq32_o (by omega)]; exact c
      obtain ⟨r, w1, m1, a1, a2, a3, a4, a5⟩ := stmt_ST h
      rw [if_neg hc, if_neg hc, a1, Option.bind_some, a2, Option.bind_some]
      dsimp only
      rcases a5 with ⟨rfl, ⟨f', b1⟩, b2'⟩ | ⟨rfl, b1⟩
      · exact ih n n' (x3 + 1) w1 m1 f' b1 (frm_trans hw a3) (frm_trans hm a4) (by omega) (by omega) (by omega) (by omega) (by omega)
      · obtain ⟨n, rfl⟩ : ∃ q, n = q + 1 := ⟨n - 1, by omega⟩
        obtain ⟨n', rfl⟩ : ∃ q, n' = q + 1 := ⟨n' - 1, by omega⟩
        have hz : zr (b2 false) w1 = some (b2 false, w1) := zr_b2 false w1
        simp only [p_X3_read_40, p_X9_load_31]
        rw [if_pos iF, hz, ite_self, good_x b1.2.2, Option.bind_some]
        dsimp only
        rw [if_pos e00]
        exact ⟨false, w1, m1, rfl, rfl, frm_trans hw a3, frm_trans hm a4, Or.inr ⟨rfl, b1⟩⟩
end TXT
