theorem gce {g : Cx} {d : Dl} {f lo MC MS r1 r2 : Nat} (hR0 : g.R = rmv f lo MC MS) (hce : d.ce + r1 ≤ MC ∧ d.so + r2 ≤ MS) : d.ce ≤ g.R.cells ∧ d.so ≤ g.R.slots := by
  rw [hR0]; exact ⟨by show _ ≤ MC; omega, by show _ ≤ MS; omega⟩
theorem gcc {g : Cx} {d : Dl} {f lo MC MS r1 r2 c1 c2 : Nat} (hR0 : g.R = rmv f lo MC MS) (hce : d.ce + r1 ≤ MC ∧ d.so + r2 ≤ MS) (h1 : c1 ≤ r1) (h2 : c2 ≤ r2) : (d.ce + c1 ≤ g.R.cells ∧ d.so + c2 ≤ g.R.slots) ∧ (d.ce + c1 ≤ MC ∧ d.so + c2 ≤ MS) := by
  rw [hR0]; exact ⟨⟨by show _ ≤ MC; omega, by show _ ≤ MS; omega⟩, by omega, by omega⟩
theorem gcd {d : Dl} {MC MS r1 r2 : Nat} (hce : d.ce + r1 ≤ MC ∧ d.so + r2 ≤ MS) : d.ce ≤ MC ∧ d.so ≤ MS := ⟨by omega, by omega⟩
theorem agr {na dm K o : Nat} {ad : Nat → Nat} {d : Dl} (h : AG na ad d) (hk : isK na dm K o) (hK : K ≠ 0) : ad o = d.ad o := (h.2 o (by rw [hk.1]; exact hK)).symm
def zrG (x : Int) (na : Nat) (w : Wd) : Option Rz := if x = 0 ∨ x = 1 then some (Sum.inl x, na, w) else none
theorem zrG_2 {x : Int} {na : Nat} {w : Wd} {r : Rz} (h : zrG x na w = some r) : some ((Sum.inl x, na, w) : Rz) = some r := by
  unfold zrG at h; split at h; exact h; cases h
theorem zrG_1 {x : Int} {na : Nat} {w : Wd} {r : Rz} (h : zrG x na w = some r) : narrow .boolean (iV x) = iV x := by
  unfold zrG at h; split at h
  · rename_i e; rcases e with rfl | rfl <;> decide +kernel
  · cases h
theorem k14 {na dm o : Nat} (h : isK na dm 14 o) : o = 32 ∨ o = 33 := by
  obtain ⟨h1, h2⟩ := h
  rcases kd_cases (by decide) h1 with ⟨a, b⟩ | ⟨r, a, b, c, e, f⟩
  · exact (by decide +kernel : ∀ o, o < 100 → kmain.getD o 0 = 14 → o = 32 ∨ o = 33) o a b
  · exact absurd f ((by decide +kernel : ∀ r, r < 12 → kslab.getD r 0 ≠ 14) r a)
theorem kd7 {na o : Nat} (h : kd na o = 7) : dmo o = 0 ∧ o ≠ 0 := by
  rcases kd_cases (by decide) h with ⟨a, b⟩ | ⟨r, a, b, c, e, f⟩
  · exact absurd b ((by decide +kernel : ∀ o, o < 100 → kmain.getD o 0 ≠ 7) o a)
  · exact ⟨(kd_off (j := 0) b c e (by omega)).2.2, by omega⟩
section XA
variable {g : Cx} {d : Dl} {cc : ByteArray} {nL : Nat} {ret : Option FieldType} {own : String} {hp : Heap → Prop} {w : Wd} {lv : List (Nat × Value)} {st : List Value} {pc : Nat}
theorem hw_refs {o : Nat} (hk : isK d.na g.dm 14 o) : ∃ q : Nat, (OL g.dm d.na)[q]? = some o ∧ (hw g.G g.dm d.na d.ad w)[q]? = some (d.ad o, .inl (g.G.cy 3, (ln o, .inr (.inr (.inr (.inr fun i => ov d.ad (gP w o (i : Nat)))))))) := by
  obtain ⟨q, hq, hq2⟩ := hw_get (G := g.G) (ad := d.ad) (w := w) (show kd d.na o ≠ 0 by rw [hk.1]; omega) hk.2
  rw [hk.1, cell_ref] at hq2
  exact ⟨q, hq, hq2⟩
theorem x_alenR (C : CX g cc nL ret own) {o : Nat} (hk : isK d.na g.dm 14 o) (dg : decode cc pc = .ok (.arraylength, 1))
    (k' : XG g d (hP g d w) lv (iV (ln o : Nat) :: st) (pc + 1)) : XG g d (hP g d w) lv (.ref (d.ad o) :: st) pc := by
  intro H locs ls h1 h2 h3
  obtain ⟨q, hq, hq2⟩ := hw_refs (g := g) (d := d) (w := w) hk
  exact va_alen C.x C.b C.K h1.1 q 3 hq2 rfl (by rw [← Int32.ofInt_eq_ofNat]) dg (k' H locs ls h1 h2 h3)
theorem ok_slab (hdm : g.dm = 0) {na o : Nat} {i : Int} (hk : isK na g.dm 14 o) (h : okW na w) : gP w o i = 0 ∨ isK na g.dm 7 (gP w o i) := by
  have h1 := h o i
  unfold okP at h1
  have ho := k14 hk
  rw [if_neg (by rcases ho with e | e <;> omega), if_pos ho] at h1
  rcases h1 with h1 | h1
  · exact Or.inl h1
  · exact Or.inr ⟨h1, by rw [hdm]; exact (kd7 h1).1⟩
theorem x_aald (C : CX g cc nL ret own) (hdm : g.dm = 0) {o : Nat} {i : Int} (hk : isK d.na g.dm 14 o) (hin : inb i (ln o) = true) (dg : decode cc pc = .ok (.aaload, 1))
    (k' : (gP w o i = 0 ∨ isK d.na g.dm 7 (gP w o i)) → XG g d (hP g d w) lv (rV d.ad (gP w o i) :: st) (pc + 1)) : XG g d (hP g d w) lv (iV i :: .ref (d.ad o) :: st) pc := by
  intro H locs ls h1 h2 h3
  obtain ⟨q, hq, hq2⟩ := hw_refs (g := g) (d := d) (w := w) hk
  obtain ⟨e1, e2, e3⟩ := inb_cl hin (ln_lt o)
  refine va_aldq C.x C.b C.K h1.1 q 3 hq2 rfl e2 dg ?_
  rw [e1, e3]
  exact k' (ok_slab hdm hk h1.2.2) H locs ls h1 h2 h3
theorem hw_stP {A : Nat → Prop} {o q v : Nat} {i : Int} (hD : va_D A (hw g.G g.dm d.na d.ad w)) (hq : (OL g.dm d.na)[q]? = some o) (hk : isK d.na g.dm 14 o) (hi : ((i.toNat : Nat) : Int) = i) :
    (hw g.G g.dm d.na d.ad w).set q (d.ad o, .inl (g.G.cy 3, (ln o, .inr (.inr (.inr (.inr (va_up (fun j : Nat => ov d.ad (gP w o (j : Nat))) i.toNat (ov d.ad v)))))))) = hw g.G g.dm d.na d.ad (sP w o i v) := by
  refine hw_set hD hq ?_ (fun o' ho' => cell_sP_ne ho')
  rw [hk.1, cell_ref]
  congr 7
  funext j
  unfold va_up
  rw [gP_sP]
  by_cases c : j = i.toNat
  · subst c; rw [if_pos ⟨rfl, hi⟩, if_pos rfl]
  · rw [if_neg (fun q => c (by omega)), if_neg c]
theorem x_aastR (C : CX g cc nL ret own) (hdm : g.dm = 0) {o v : Nat} {i : Int} (hk : isK d.na g.dm 14 o) (hin : inb i (ln o) = true) (hv : isK d.na g.dm 7 v) (dg : decode cc pc = .ok (.aastore, 1))
    (k' : XG g d (hP g d (sP w o i v)) lv st (pc + 1)) : XG g d (hP g d w) lv (.ref (d.ad v) :: iV i :: .ref (d.ad o) :: st) pc := by
  intro H locs ls h1 h2 h3
  obtain ⟨q, hq, hq2⟩ := hw_refs (g := g) (d := d) (w := w) hk
  obtain ⟨e1, e2, e3⟩ := inb_cl hin (ln_lt o)
  obtain ⟨z, hz, hz2⟩ := hw_get (G := g.G) (ad := d.ad) (w := w) (show kd d.na v ≠ 0 by rw [hv.1]; omega) hv.2
  rw [hv.1, cell_obj (by decide)] at hz2
  have ho := k14 hk
  refine va_astq C.x C.b C.K h1.1 h1.2.1 h2 q 3 z (7 - 1) (r := (RX6, TX6, 12)) hq2 rfl hz2 rfl e2 dg (fun H1 locs1 a1 a2 a3 => ?_)
  have hs := hw_stP (v := v) h1.2.1 hq hk e3
  have ev : ov d.ad v = some (d.ad v) := by unfold ov; rw [if_neg (kd7 hv.1).2]
  rw [ev] at hs
  rw [e1, hs] at a1 a2
  refine k' H1 locs1 ls ⟨a1, a2, okW_sP h1.2.2 ?_⟩ a3 h3
  unfold okP
  rw [if_neg (by rcases ho with e | e <;> omega), if_pos ho]
  exact Or.inr hv.1
theorem x_aastN (C : CX g cc nL ret own) (hdm : g.dm = 0) {o v : Nat} {i : Int} (hk : isK d.na g.dm 14 o) (hin : inb i (ln o) = true) (hv : v = 0 ∨ isK d.na g.dm 7 v) (dg : decode cc pc = .ok (.aastore, 1))
    (k' : XG g d (hP g d (sP w o i v)) lv st (pc + 1)) : XG g d (hP g d w) lv (rV d.ad v :: iV i :: .ref (d.ad o) :: st) pc := by
  rcases hv with rfl | hv
  · intro H locs ls h1 h2 h3
    obtain ⟨q, hq, hq2⟩ := hw_refs (g := g) (d := d) (w := w) hk
    obtain ⟨e1, e2, e3⟩ := inb_cl hin (ln_lt o)
    have ho := k14 hk
    refine va_astqN C.x C.b C.K h1.1 h1.2.1 h2 q 3 hq2 rfl e2 dg (fun H1 locs1 a1 a2 a3 => ?_)
    have hs := hw_stP (v := 0) h1.2.1 hq hk e3
    have ev : ov d.ad 0 = none := rfl
    rw [ev] at hs
    rw [e1, hs] at a1 a2
    refine k' H1 locs1 ls ⟨a1, a2, okW_sP h1.2.2 ?_⟩ a3 h3
    unfold okP
    rw [if_neg (by rcases ho with e | e <;> omega), if_pos ho]
    exact Or.inl rfl
  · have ev : rV d.ad v = .ref (d.ad v) := by unfold rV ov; rw [if_neg (kd7 hv.1).2]; rfl
    rw [ev]
    exact x_aastR C hdm hk hin hv dg k'
theorem rVn {ad : Nat → Nat} {q : Nat} (h : q ≠ 0) : rV ad q = .ref (ad q) := by unfold rV ov; rw [if_neg h]; rfl
theorem rV0 {ad : Nat → Nat} {q : Nat} (h : q = 0) : rV ad q = .null := by unfold rV ov; rw [if_pos h]; rfl
theorem x_ifnonnull (C : CX g cc nL ret own) {q tgt : Nat} {off : Int} {α : Type} {P1 P2 : Option α} {z : α} (hk : q = 0 ∨ isK d.na g.dm 7 q) (dg : decode cc pc = .ok (.ifnonnull off, 3)) (ht : (pc : Int) + off = (tgt : Int)) (hq : (if decide (q = 0) = true then P1 else P2) = some z)
    (k1 : q ≠ 0 → isK d.na g.dm 7 q → P2 = some z → XG g d hp lv st tgt) (k2 : P1 = some z → XG g d hp lv st (pc + 3)) : XG g d hp lv (rV d.ad q :: st) pc := by
  intro H locs ls h1 h2 h3
  by_cases c : q = 0
  · rw [if_pos (decide_eq_true c)] at hq
    rw [rV0 c]
    exact lv_ifnonnullN C.x C.b dg (k2 hq H locs ls h1 h2 h3)
  · rw [if_neg (by rw [decide_eq_false c]; decide)] at hq
    rw [rVn c]
    exact lv_ifnonnull C.x C.b dg ht (k1 c (hk.resolve_left c) hq H locs ls h1 h2 h3)
theorem x_ifnull (C : CX g cc nL ret own) {q tgt : Nat} {off : Int} {α : Type} {P1 P2 : Option α} {z : α} (hk : q = 0 ∨ isK d.na g.dm 7 q) (dg : decode cc pc = .ok (.ifnull off, 3)) (ht : (pc : Int) + off = (tgt : Int)) (hq : (if decide (q = 0) = true then P1 else P2) = some z)
    (k1 : q ≠ 0 → isK d.na g.dm 7 q → P2 = some z → XG g d hp lv st (pc + 3)) (k2 : P1 = some z → XG g d hp lv st tgt) : XG g d hp lv (rV d.ad q :: st) pc := by
  intro H locs ls h1 h2 h3
  by_cases c : q = 0
  · rw [if_pos (decide_eq_true c)] at hq
    rw [rV0 c]
    exact lv_ifnullN C.x C.b dg ht (k2 hq H locs ls h1 h2 h3)
  · rw [if_neg (by rw [decide_eq_false c]; decide)] at hq
    rw [rVn c]
    exact lv_ifnull C.x C.b dg (k1 c (hk.resolve_left c) hq H locs ls h1 h2 h3)
theorem x_storeV (C : CX g cc nL ret own) {f : Fin 4} {v : Value} {lv' : List (Nat × Value)} (hv : ∃ q : Nat, v = rV d.ad q) (dg : decode cc pc = .ok (.astore_n f, 1)) (hn : (f : Nat) < nL) (hl : ((f : Nat), v) :: lv.filter (fun q => !(q.1 == (f : Nat)) && !(q.1 + 1 == (f : Nat) && q.2.category == 2)) = lv') (k : XG g d hp lv' st (pc + 1)) : XG g d hp lv (v :: st) pc := by
  obtain ⟨q, rfl⟩ := hv
  intro H locs ls h1 h2 h3
  by_cases c : q = 0
  · rw [rV0 c] at hl ⊢
    exact lv_astore_nN C.x C.b dg rfl h3 (by rw [C.n]; exact hn) hl (fun ls h3 => k H locs ls h1 h2 h3)
  · rw [rVn c] at hl ⊢
    exact lv_astore_n C.x C.b dg rfl h3 (by rw [C.n]; exact hn) hl (fun ls h3 => k H locs ls h1 h2 h3)
theorem x_loadV (C : CX g cc nL ret own) {f : Fin 4} {q : Nat} (i : Nat) (dg : decode cc pc = .ok (.aload_n f, 1)) (hl : lv[i]? = some ((f : Nat), rV d.ad q)) (k : XG g d hp lv (rV d.ad q :: st) (pc + 1)) : XG g d hp lv st pc := by
  intro H locs ls h1 h2 h3
  have e := lv_at h3 i hl
  have kk := k H locs ls h1 h2 h3
  by_cases c : q = 0
  · rw [rV0 c] at e kk
    exact lv_aload_nN C.x C.b dg rfl e kk
  · rw [rVn c] at e kk
    exact lv_aload_n C.x C.b dg rfl e kk
theorem x_astore_n (C : CX g cc nL ret own) {f : Fin 4} {x : Nat} {lv' : List (Nat × Value)} (dg : decode cc pc = .ok (.astore_n f, 1)) (hn : (f : Nat) < nL) (hl : ((f : Nat), Value.ref x) :: lv.filter (fun q => !(q.1 == (f : Nat)) && !(q.1 + 1 == (f : Nat) && q.2.category == 2)) = lv') (k : XG g d hp lv' st (pc + 1)) : XG g d hp lv (.ref x :: st) pc := fun H locs ls h1 h2 h3 => lv_astore_n C.x C.b dg rfl h3 (by rw [C.n]; exact hn) hl (fun ls h3 => k H locs ls h1 h2 h3)
def initS (w : Wd) (o : Nat) : Wd := (fun a k => if a = o then (if k = 0 then 10 else if k = 1 then 4 else 0) else if a = o + 11 then (if k = 0 ∨ k = 2 then 100 else if k = 1 then 10 else 0) else w.1 a k, fun a i => if o ≤ a ∧ a < o + 12 then 0 else w.2.1 a i, w.2.2)
theorem newK {na na1 : Nat} (hdm : g.dm = 0) (hn : na1 = na + 1) : isK na1 g.dm 7 (sl (na + 2)) := by
  subst hn
  refine ⟨?_, ?_⟩
  · unfold kd sl
    rw [if_neg (by omega), show (100 + 16 * (na + 2) - 100) / 16 = na + 2 by omega, if_pos (by omega), show (100 + 16 * (na + 2) - 100) % 16 = 0 by omega]; rfl
  · unfold dmo sl; rw [if_neg (by omega), hdm]
end XA
