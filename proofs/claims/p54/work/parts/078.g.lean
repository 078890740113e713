section XN
variable {g : Cx} {d : Dl} {cc : ByteArray} {nL : Nat} {ret : Option FieldType} {w : Wd} {lv : List (Nat × Value)} {st : List Value} {pc : Nat}
theorem x_newS {own host : String} (C : CX g cc nL ret own) (hdm : g.dm = 0) {rmO : Room} (hA : ∀ q : Nat, g.s.heap.size ≤ q → g.A q) (hR0 : g.R = rmO) (hce : d.ce + 12 ≤ g.R.cells ∧ d.so + 834 ≤ g.R.slots) (hrr : 3 ≤ rmO.frames ∧ 61 ≤ rmO.locals) (hro : (st.map fun v => v.category).sum ≤ 6) {ik ic : Nat} (hlk : Cond.classLink own ik RX6 ∈ lw_tg) (hln : Cond.methodLinkNest own ic yX6_init host ∈ nw_tbl)
    (d0 : decode cc pc = .ok (.new ik, 3)) (d3 : decode cc (pc + 3) = .ok (.dup, 1)) (d4 : decode cc (pc + 4) = .ok (.invokespecial ic, 3))
    (k' : ∀ d1 : Dl, AG d.na d.ad d1 → d1.na = d.na + 1 → d1.ce = d.ce + 12 → d1.so = d.so + 834 → XG g d1 (hP g d1 (initS w (sl (d.na + 2)))) lv (.ref (d1.ad (sl (d.na + 2))) :: st) (pc + 7)) : XG g d (hP g d w) lv st pc := by
  intro H locs ls h1 h2 h3
  rw [hR0] at hce
  have hok := h1.2.2
  have hS : stI g g.l g.R g.G true → True := fun _ => trivial
  have hnf : nf 6 = 12 := rfl
  refine (x_nnew (ws := hw g.G g.dm d.na d.ad w) (fs := ifs_X6) (d1 := (d.na, d.ad, d.ce + 1, d.so + 12)) C hA hR0 icl_X6 ⟨hlk, icw_n6.1, icw_n6.2⟩ idf_X6 ⟨by omega, by rw [hnf]; omega⟩ rfl d0 (fun q => ?_) : XG g d (hL g (hw g.G g.dm d.na d.ad w)) lv st pc) H locs ls ⟨h1.1, h1.2.1⟩ h2 h3
  refine x_dup C rfl d3 ?_
  refine x_ncall (As := []) (rest := .ref q :: st) (mc' := 11) (ms' := 822) (d1 := (d.na, d.ad, d.ce + 12, d.so + 834)) C hA hR0 imf_X6_init (Or.inr ⟨host, hln⟩) ⟨rfl, rfl⟩ ⟨hrr.1, by show 8 + (1 + 11) + 33 ≤ _; omega⟩ (c_X6_init g.l g.G) (fun h => nomatch h) rfl rfl (by show 1 + (st.map fun v => v.category).sum ≤ 8; omega) ⟨by show d.ce + 1 + 11 ≤ _; omega, by show d.so + 12 + 822 ≤ _; omega⟩ rfl d4 (fun qs => ?_)
  intro H locs ls h1 h2 h3
  have hk := k' (d.na + 1, adN d.ad d.na q qs, d.ce + 12, d.so + 834) ⟨Nat.le_succ _, fun o ho => adN_old (kd_lt ho)⟩ rfl rfl rfl H locs ls ?_ h2 h3
  · rw [show (Dl.ad (d.na + 1, adN d.ad d.na q qs, d.ce + 12, d.so + 834)) (sl (d.na + 2)) = q from adN_0] at hk
    exact hk
  · have e := hw_new (G := g.G) (ad := d.ad) (q := q) (qs := qs) hok
    rw [hdm] at h1
    exact ⟨by show va_P _ _ (hw g.G g.dm (d.na + 1) _ _) H; rw [hdm, e]; exact h1.1, by show va_D _ (hw g.G g.dm (d.na + 1) _ _); rw [hdm, e]; exact h1.2, okW_new hok⟩
theorem x_newS_X4 (C : CX g cc nL ret RX4) (hdm : g.dm = 0) {rmO : Room} (hA : ∀ q : Nat, g.s.heap.size ≤ q → g.A q) (hR0 : g.R = rmO) (hce : d.ce + 12 ≤ g.R.cells ∧ d.so + 834 ≤ g.R.slots) (hrr : 3 ≤ rmO.frames ∧ 61 ≤ rmO.locals) (hro : (st.map fun v => v.category).sum ≤ 6)
    (d0 : decode cc pc = .ok (.new 9, 3)) (d3 : decode cc (pc + 3) = .ok (.dup, 1)) (d4 : decode cc (pc + 4) = .ok (.invokespecial 24, 3))
    (k' : ∀ d1 : Dl, AG d.na d.ad d1 → d1.na = d.na + 1 → d1.ce = d.ce + 12 → d1.so = d.so + 834 → XG g d1 (hP g d1 (initS w (sl (d.na + 2)))) lv (.ref (d1.ad (sl (d.na + 2))) :: st) (pc + 7)) : XG g d (hP g d w) lv st pc :=
  x_newS C hdm hA hR0 hce hrr hro (by decide +kernel) (by decide +kernel : Cond.methodLinkNest RX4 24 yX6_init "SlabCutter" ∈ nw_tbl) d0 d3 d4 k'
end XN
