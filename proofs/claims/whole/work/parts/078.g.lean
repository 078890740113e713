section XN
variable {g : Cx} {d : Dl} {cc : ByteArray} {nL : Nat} {ret : Option FieldType} {w : Wd} {lv : List (Nat × Value)} {st : List Value} {pc : Nat}
theorem x_newS {own host : String} (C : CX g cc nL ret own) {rmO : Room} (hA : ∀ q : Nat, g.s.heap.size ≤ q → g.A q) (hR0 : g.R = rmO) (hce : d.ce + 12 ≤ g.R.cells ∧ d.so + 834 ≤ g.R.slots) (hrr : 3 ≤ rmO.frames ∧ 61 ≤ rmO.locals) (hro : (st.map fun v => v.category).sum ≤ 6) {ik ic : Nat} (hlk : Cond.classLink own ik RX6 ∈ lw_tg) (hln : Cond.methodLinkNest own ic yX6_init host ∈ nw_tbl)
    (d0 : decode cc pc = .ok (.new ik, 3)) (d3 : decode cc (pc + 3) = .ok (.dup, 1)) (d4 : decode cc (pc + 4) = .ok (.invokespecial ic, 3))
    (k' : ∀ d1 : Dl, AG d.na d.ad d1 → d1.na = d.na + 1 → d1.ce = d.ce + 12 → d1.so = d.so + 834 → XG g d1 (hP g d1 (initS w (sl (d.na + 2)))) lv (.ref (d1.ad (sl (d.na + 2))) :: st) (pc + 7)) : XG g d (hP g d w) lv st pc := by
  sorry
theorem x_newS_X4 (C : CX g cc nL ret RX4) {rmO : Room} (hA : ∀ q : Nat, g.s.heap.size ≤ q → g.A q) (hR0 : g.R = rmO) (hce : d.ce + 12 ≤ g.R.cells ∧ d.so + 834 ≤ g.R.slots) (hrr : 3 ≤ rmO.frames ∧ 61 ≤ rmO.locals) (hro : (st.map fun v => v.category).sum ≤ 6)
    (d0 : decode cc pc = .ok (.new 9, 3)) (d3 : decode cc (pc + 3) = .ok (.dup, 1)) (d4 : decode cc (pc + 4) = .ok (.invokespecial 24, 3))
    (k' : ∀ d1 : Dl, AG d.na d.ad d1 → d1.na = d.na + 1 → d1.ce = d.ce + 12 → d1.so = d.so + 834 → XG g d1 (hP g d1 (initS w (sl (d.na + 2)))) lv (.ref (d1.ad (sl (d.na + 2))) :: st) (pc + 7)) : XG g d (hP g d w) lv st pc :=
  x_newS C hA hR0 hce hrr hro (by decide +kernel) (by decide +kernel : Cond.methodLinkNest RX4 24 yX6_init "SlabCutter" ∈ nw_tbl) d0 d3 d4 k'
theorem x_newS_X8 (C : CX g cc nL ret RX8) {rmO : Room} (hA : ∀ q : Nat, g.s.heap.size ≤ q → g.A q) (hR0 : g.R = rmO) (hce : d.ce + 12 ≤ g.R.cells ∧ d.so + 834 ≤ g.R.slots) (hrr : 3 ≤ rmO.frames ∧ 61 ≤ rmO.locals) (hro : (st.map fun v => v.category).sum ≤ 6)
    (d0 : decode cc pc = .ok (.new 39, 3)) (d3 : decode cc (pc + 3) = .ok (.dup, 1)) (d4 : decode cc (pc + 4) = .ok (.invokespecial 41, 3))
    (k' : ∀ d1 : Dl, AG d.na d.ad d1 → d1.na = d.na + 1 → d1.ce = d.ce + 12 → d1.so = d.so + 834 → XG g d1 (hP g d1 (initS w (sl (d.na + 2)))) lv (.ref (d1.ad (sl (d.na + 2))) :: st) (pc + 7)) : XG g d (hP g d w) lv st pc :=
  x_newS C hA hR0 hce hrr hro (by decide +kernel) (by decide +kernel : Cond.methodLinkNest RX8 41 yX6_init "SlabCutter" ∈ nw_tbl) d0 d3 d4 k'
end XN
