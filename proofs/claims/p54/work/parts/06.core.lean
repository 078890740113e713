/-! ===== comparisons, arithmetic of other kinds ===== -/
section XB
variable {g : Cx} {d : Dl} {cc : ByteArray} {nL : Nat} {ret : Option FieldType} {own : String} {hp : Heap → Prop} {w : Wd} {lv : List (Nat × Value)} {st : List Value} {pc : Nat}
theorem x_icmp_lt (C : CX g cc nL ret own) {a b : Int} {off : Int} {tgt : Nat} {α : Type} {P1 P2 : Option α} {z : α} (dg : decode cc pc = .ok (.if_icmp .lt off, 3)) (ht : (pc : Int) + off = (tgt : Int)) (hq : (if lt32 a b = true then P1 else P2) = some z) (k1 : P1 = some z → XG g d hp lv st tgt) (k2 : P2 = some z → XG g d hp lv st (pc + 3)) : XG g d hp lv (iV b :: iV a :: st) pc := by
  intro H locs ls h1 h2 h3
  refine lv_icmp_lt C.x C.b dg ht (fun h => ?_) (fun h => ?_)
  · refine (?_ : XG g d hp lv st tgt) H locs ls h1 h2 h3
    have e := (lt32_i a b).mp h
    rw [if_pos e] at hq
    exact k1 hq
  · refine (?_ : XG g d hp lv st (pc + 3)) H locs ls h1 h2 h3
    have e : ¬ (lt32 a b = true) := fun e => h ((lt32_i a b).mpr e)
    rw [if_neg e] at hq
    exact k2 hq
theorem x_if_lt (C : CX g cc nL ret own) {a : Int} {off : Int} {tgt : Nat} {α : Type} {P1 P2 : Option α} {z : α} (dg : decode cc pc = .ok (.ifCond .lt off, 3)) (ht : (pc : Int) + off = (tgt : Int)) (hq : (if lt32 a 0 = true then P1 else P2) = some z) (k1 : P1 = some z → XG g d hp lv st tgt) (k2 : P2 = some z → XG g d hp lv st (pc + 3)) : XG g d hp lv (iV a :: st) pc := by
  intro H locs ls h1 h2 h3
  refine lv_if_lt C.x C.b dg ht (fun h => ?_) (fun h => ?_)
  · refine (?_ : XG g d hp lv st tgt) H locs ls h1 h2 h3
    have e := (lt32_i a 0).mp h
    rw [if_pos e] at hq
    exact k1 hq
  · refine (?_ : XG g d hp lv st (pc + 3)) H locs ls h1 h2 h3
    have e : ¬ (lt32 a 0 = true) := fun e => h ((lt32_i a 0).mpr e)
    rw [if_neg e] at hq
    exact k2 hq
theorem x_icmp_ge (C : CX g cc nL ret own) {a b : Int} {off : Int} {tgt : Nat} {α : Type} {P1 P2 : Option α} {z : α} (dg : decode cc pc = .ok (.if_icmp .ge off, 3)) (ht : (pc : Int) + off = (tgt : Int)) (hq : (if lt32 a b = true then P1 else P2) = some z) (k1 : P2 = some z → XG g d hp lv st tgt) (k2 : P1 = some z → XG g d hp lv st (pc + 3)) : XG g d hp lv (iV b :: iV a :: st) pc := by
  intro H locs ls h1 h2 h3
  refine lv_icmp_ge C.x C.b dg ht (fun h => ?_) (fun h => ?_)
  · refine (?_ : XG g d hp lv st tgt) H locs ls h1 h2 h3
    have e := (le32_i b a).mp h
    rw [if_neg (by rw [e]; decide)] at hq
    exact k1 hq
  · refine (?_ : XG g d hp lv st (pc + 3)) H locs ls h1 h2 h3
    have e : lt32 a b = true := eq_true_of_ne_false (fun q => h ((le32_i b a).mpr q))
    rw [if_pos e] at hq
    exact k2 hq
theorem x_if_ge (C : CX g cc nL ret own) {a : Int} {off : Int} {tgt : Nat} {α : Type} {P1 P2 : Option α} {z : α} (dg : decode cc pc = .ok (.ifCond .ge off, 3)) (ht : (pc : Int) + off = (tgt : Int)) (hq : (if lt32 a 0 = true then P1 else P2) = some z) (k1 : P2 = some z → XG g d hp lv st tgt) (k2 : P1 = some z → XG g d hp lv st (pc + 3)) : XG g d hp lv (iV a :: st) pc := by
  intro H locs ls h1 h2 h3
  refine lv_if_ge C.x C.b dg ht (fun h => ?_) (fun h => ?_)
  · refine (?_ : XG g d hp lv st tgt) H locs ls h1 h2 h3
    have e := (le32_i 0 a).mp h
    rw [if_neg (by rw [e]; decide)] at hq
    exact k1 hq
  · refine (?_ : XG g d hp lv st (pc + 3)) H locs ls h1 h2 h3
    have e : lt32 a 0 = true := eq_true_of_ne_false (fun q => h ((le32_i 0 a).mpr q))
    rw [if_pos e] at hq
    exact k2 hq
theorem x_icmp_gt (C : CX g cc nL ret own) {a b : Int} {off : Int} {tgt : Nat} {α : Type} {P1 P2 : Option α} {z : α} (dg : decode cc pc = .ok (.if_icmp .gt off, 3)) (ht : (pc : Int) + off = (tgt : Int)) (hq : (if lt32 b a = true then P1 else P2) = some z) (k1 : P1 = some z → XG g d hp lv st tgt) (k2 : P2 = some z → XG g d hp lv st (pc + 3)) : XG g d hp lv (iV b :: iV a :: st) pc := by
  intro H locs ls h1 h2 h3
  refine lv_icmp_gt C.x C.b dg ht (fun h => ?_) (fun h => ?_)
  · refine (?_ : XG g d hp lv st tgt) H locs ls h1 h2 h3
    have e := (lt32_i b a).mp h
    rw [if_pos e] at hq
    exact k1 hq
  · refine (?_ : XG g d hp lv st (pc + 3)) H locs ls h1 h2 h3
    have e : ¬ (lt32 b a = true) := fun e => h ((lt32_i b a).mpr e)
    rw [if_neg e] at hq
    exact k2 hq
theorem x_if_gt (C : CX g cc nL ret own) {a : Int} {off : Int} {tgt : Nat} {α : Type} {P1 P2 : Option α} {z : α} (dg : decode cc pc = .ok (.ifCond .gt off, 3)) (ht : (pc : Int) + off = (tgt : Int)) (hq : (if lt32 0 a = true then P1 else P2) = some z) (k1 : P1 = some z → XG g d hp lv st tgt) (k2 : P2 = some z → XG g d hp lv st (pc + 3)) : XG g d hp lv (iV a :: st) pc := by
  intro H locs ls h1 h2 h3
  refine lv_if_gt C.x C.b dg ht (fun h => ?_) (fun h => ?_)
  · refine (?_ : XG g d hp lv st tgt) H locs ls h1 h2 h3
    have e := (lt32_i 0 a).mp h
    rw [if_pos e] at hq
    exact k1 hq
  · refine (?_ : XG g d hp lv st (pc + 3)) H locs ls h1 h2 h3
    have e : ¬ (lt32 0 a = true) := fun e => h ((lt32_i 0 a).mpr e)
    rw [if_neg e] at hq
    exact k2 hq
theorem x_icmp_le (C : CX g cc nL ret own) {a b : Int} {off : Int} {tgt : Nat} {α : Type} {P1 P2 : Option α} {z : α} (dg : decode cc pc = .ok (.if_icmp .le off, 3)) (ht : (pc : Int) + off = (tgt : Int)) (hq : (if lt32 b a = true then P1 else P2) = some z) (k1 : P2 = some z → XG g d hp lv st tgt) (k2 : P1 = some z → XG g d hp lv st (pc + 3)) : XG g d hp lv (iV b :: iV a :: st) pc := by
  intro H locs ls h1 h2 h3
  refine lv_icmp_le C.x C.b dg ht (fun h => ?_) (fun h => ?_)
  · refine (?_ : XG g d hp lv st tgt) H locs ls h1 h2 h3
    have e := (le32_i a b).mp h
    rw [if_neg (by rw [e]; decide)] at hq
    exact k1 hq
  · refine (?_ : XG g d hp lv st (pc + 3)) H locs ls h1 h2 h3
    have e : lt32 b a = true := eq_true_of_ne_false (fun q => h ((le32_i a b).mpr q))
    rw [if_pos e] at hq
    exact k2 hq
theorem x_if_le (C : CX g cc nL ret own) {a : Int} {off : Int} {tgt : Nat} {α : Type} {P1 P2 : Option α} {z : α} (dg : decode cc pc = .ok (.ifCond .le off, 3)) (ht : (pc : Int) + off = (tgt : Int)) (hq : (if lt32 0 a = true then P1 else P2) = some z) (k1 : P2 = some z → XG g d hp lv st tgt) (k2 : P1 = some z → XG g d hp lv st (pc + 3)) : XG g d hp lv (iV a :: st) pc := by
  intro H locs ls h1 h2 h3
  refine lv_if_le C.x C.b dg ht (fun h => ?_) (fun h => ?_)
  · refine (?_ : XG g d hp lv st tgt) H locs ls h1 h2 h3
    have e := (le32_i a 0).mp h
    rw [if_neg (by rw [e]; decide)] at hq
    exact k1 hq
  · refine (?_ : XG g d hp lv st (pc + 3)) H locs ls h1 h2 h3
    have e : lt32 0 a = true := eq_true_of_ne_false (fun q => h ((le32_i a 0).mpr q))
    rw [if_pos e] at hq
    exact k2 hq
theorem x_icmp_eq (C : CX g cc nL ret own) {a b : Int} {off : Int} {tgt : Nat} {α : Type} {P1 P2 : Option α} {z : α} (dg : decode cc pc = .ok (.if_icmp .eq off, 3)) (ht : (pc : Int) + off = (tgt : Int)) (hq : (if eq32 a b = true then P1 else P2) = some z) (k1 : P1 = some z → XG g d hp lv st tgt) (k2 : P2 = some z → XG g d hp lv st (pc + 3)) : XG g d hp lv (iV b :: iV a :: st) pc := by
  intro H locs ls h1 h2 h3
  refine lv_icmp_eq C.x C.b dg ht (fun h => ?_) (fun h => ?_)
  · refine (?_ : XG g d hp lv st tgt) H locs ls h1 h2 h3
    have e := (eq32_i a b).mp h
    rw [if_pos e] at hq
    exact k1 hq
  · refine (?_ : XG g d hp lv st (pc + 3)) H locs ls h1 h2 h3
    have e : ¬ (eq32 a b = true) := fun e => h ((eq32_i a b).mpr e)
    rw [if_neg e] at hq
    exact k2 hq
theorem x_if_eq (C : CX g cc nL ret own) {a : Int} {off : Int} {tgt : Nat} {α : Type} {P1 P2 : Option α} {z : α} (dg : decode cc pc = .ok (.ifCond .eq off, 3)) (ht : (pc : Int) + off = (tgt : Int)) (hq : (if eq32 a 0 = true then P1 else P2) = some z) (k1 : P1 = some z → XG g d hp lv st tgt) (k2 : P2 = some z → XG g d hp lv st (pc + 3)) : XG g d hp lv (iV a :: st) pc := by
  intro H locs ls h1 h2 h3
  refine lv_if_eq C.x C.b dg ht (fun h => ?_) (fun h => ?_)
  · refine (?_ : XG g d hp lv st tgt) H locs ls h1 h2 h3
    have e := (eq32_i a 0).mp h
    rw [if_pos e] at hq
    exact k1 hq
  · refine (?_ : XG g d hp lv st (pc + 3)) H locs ls h1 h2 h3
    have e : ¬ (eq32 a 0 = true) := fun e => h ((eq32_i a 0).mpr e)
    rw [if_neg e] at hq
    exact k2 hq
theorem x_icmp_ne (C : CX g cc nL ret own) {a b : Int} {off : Int} {tgt : Nat} {α : Type} {P1 P2 : Option α} {z : α} (dg : decode cc pc = .ok (.if_icmp .ne off, 3)) (ht : (pc : Int) + off = (tgt : Int)) (hq : (if eq32 a b = true then P1 else P2) = some z) (k1 : P2 = some z → XG g d hp lv st tgt) (k2 : P1 = some z → XG g d hp lv st (pc + 3)) : XG g d hp lv (iV b :: iV a :: st) pc := by
  intro H locs ls h1 h2 h3
  refine lv_icmp_ne C.x C.b dg ht (fun h => ?_) (fun h => ?_)
  · refine (?_ : XG g d hp lv st tgt) H locs ls h1 h2 h3
    have e : ¬ (eq32 a b = true) := fun e => h ((eq32_i a b).mpr e)
    rw [if_neg e] at hq
    exact k1 hq
  · refine (?_ : XG g d hp lv st (pc + 3)) H locs ls h1 h2 h3
    have e : eq32 a b = true := (eq32_i a b).mp h
    rw [if_pos e] at hq
    exact k2 hq
theorem x_if_ne (C : CX g cc nL ret own) {a : Int} {off : Int} {tgt : Nat} {α : Type} {P1 P2 : Option α} {z : α} (dg : decode cc pc = .ok (.ifCond .ne off, 3)) (ht : (pc : Int) + off = (tgt : Int)) (hq : (if eq32 a 0 = true then P1 else P2) = some z) (k1 : P2 = some z → XG g d hp lv st tgt) (k2 : P1 = some z → XG g d hp lv st (pc + 3)) : XG g d hp lv (iV a :: st) pc := by
  intro H locs ls h1 h2 h3
  refine lv_if_ne C.x C.b dg ht (fun h => ?_) (fun h => ?_)
  · refine (?_ : XG g d hp lv st tgt) H locs ls h1 h2 h3
    have e : ¬ (eq32 a 0 = true) := fun e => h ((eq32_i a 0).mpr e)
    rw [if_neg e] at hq
    exact k1 hq
  · refine (?_ : XG g d hp lv st (pc + 3)) H locs ls h1 h2 h3
    have e : eq32 a 0 = true := (eq32_i a 0).mp h
    rw [if_pos e] at hq
    exact k2 hq
theorem x_iand (C : CX g cc nL ret own) {a b : Int} (dg : decode cc pc = .ok (.iand, 1)) (k : XG g d hp lv (iV (an32 a b) :: st) (pc + 1)) : XG g d hp lv (iV b :: iV a :: st) pc := fun H locs ls h1 h2 h3 => lv_iand C.x C.b dg (by have e := k H locs ls h1 h2 h3; unfold iV an32 at e; rw [ofInt_toInt] at e; exact e)
theorem x_ior (C : CX g cc nL ret own) {a b : Int} (dg : decode cc pc = .ok (.ior, 1)) (k : XG g d hp lv (iV (or32 a b) :: st) (pc + 1)) : XG g d hp lv (iV b :: iV a :: st) pc := fun H locs ls h1 h2 h3 => lv_ior C.x C.b dg (by have e := k H locs ls h1 h2 h3; unfold iV or32 at e; rw [ofInt_toInt] at e; exact e)
theorem x_ixor (C : CX g cc nL ret own) {a b : Int} (dg : decode cc pc = .ok (.ixor, 1)) (k : XG g d hp lv (iV (xo32 a b) :: st) (pc + 1)) : XG g d hp lv (iV b :: iV a :: st) pc := fun H locs ls h1 h2 h3 => lv_ixor C.x C.b dg (by have e := k H locs ls h1 h2 h3; unfold iV xo32 at e; rw [ofInt_toInt] at e; exact e)
theorem x_ishl (C : CX g cc nL ret own) {a b : Int} (dg : decode cc pc = .ok (.ishl, 1)) (k : XG g d hp lv (iV (sl32 a b) :: st) (pc + 1)) : XG g d hp lv (iV b :: iV a :: st) pc := fun H locs ls h1 h2 h3 => lv_ishl C.x C.b dg (by have e := k H locs ls h1 h2 h3; unfold iV sl32 at e; rw [ofInt_toInt] at e; exact e)
theorem x_ishr (C : CX g cc nL ret own) {a b : Int} (dg : decode cc pc = .ok (.ishr, 1)) (k : XG g d hp lv (iV (sr32 a b) :: st) (pc + 1)) : XG g d hp lv (iV b :: iV a :: st) pc := fun H locs ls h1 h2 h3 => lv_ishr C.x C.b dg (by have e := k H locs ls h1 h2 h3; unfold iV sr32 at e; rw [ofInt_toInt] at e; exact e)
theorem x_iushr (C : CX g cc nL ret own) {a b : Int} (dg : decode cc pc = .ok (.iushr, 1)) (k : XG g d hp lv (iV (us32 a b) :: st) (pc + 1)) : XG g d hp lv (iV b :: iV a :: st) pc := fun H locs ls h1 h2 h3 => lv_iushr C.x C.b dg rfl (by have e := k H locs ls h1 h2 h3; unfold iV us32 at e; rw [ofInt_toInt] at e; exact e)
theorem dv32_i (a b : Int) : Int32.ofInt a / Int32.ofInt b = Int32.ofInt (dv32 a b) := by
  rw [← Int32.toInt_inj, Int32.toInt_div, w32_toInt, w32_toInt, w32_toInt]; rfl
theorem x_idiv (C : CX g cc nL ret own) {a b : Int} (hne : eq32 b 0 = false) (dg : decode cc pc = .ok (.idiv, 1)) (k : XG g d hp lv (iV (dv32 a b) :: st) (pc + 1)) : XG g d hp lv (iV b :: iV a :: st) pc := fun H locs ls h1 h2 h3 => lv_idiv C.x C.b dg (fun e => absurd ((eq32_i b 0).mp e) (by rw [hne]; decide)) (by rw [dv32_i]; exact k H locs ls h1 h2 h3)
theorem x_irem (C : CX g cc nL ret own) {a b : Int} (hne : eq32 b 0 = false) (dg : decode cc pc = .ok (.irem, 1)) (k : XG g d hp lv (iV (rm32 a b) :: st) (pc + 1)) : XG g d hp lv (iV b :: iV a :: st) pc := fun H locs ls h1 h2 h3 => lv_irem C.x C.b dg (fun e => absurd ((eq32_i b 0).mp e) (by rw [hne]; decide)) (by
    have e := k H locs ls h1 h2 h3
    unfold iV rm32 at e
    rw [Int32.ofInt_sub, Int32.ofInt_mul, ofw32, ofw32, ← dv32_i] at e
    exact e)
theorem x_i2l (C : CX g cc nL ret own) {a : Int} (dg : decode cc pc = .ok (.i2l, 1)) (k : XG g d hp lv (jV (w32 a) :: st) (pc + 1)) : XG g d hp lv (iV a :: st) pc := fun H locs ls h1 h2 h3 => lv_i2l C.x C.b dg (i2l32 a) (k H locs ls h1 h2 h3)
theorem x_i2b (C : CX g cc nL ret own) {a : Int} (dg : decode cc pc = .ok (.i2b, 1)) (k : XG g d hp lv (iV (i8 a) :: st) (pc + 1)) : XG g d hp lv (iV a :: st) pc := fun H locs ls h1 h2 h3 => lv_i2b C.x C.b dg (i8_i a) (k H locs ls h1 h2 h3)
theorem x_dup (C : CX g cc nL ret own) {v : Value} (hv : v.category = 1) (dg : decode cc pc = .ok (.dup, 1)) (k : XG g d hp lv (v :: v :: st) (pc + 1)) : XG g d hp lv (v :: st) pc := fun H locs ls h1 h2 h3 => lv_dup C.x C.b dg hv (k H locs ls h1 h2 h3)
theorem x_dup2 (C : CX g cc nL ret own) {v u : Value} (hv : v.category = 1) (hu : u.category = 1) (dg : decode cc pc = .ok (.dup2, 1)) (k : XG g d hp lv (v :: u :: v :: u :: st) (pc + 1)) : XG g d hp lv (v :: u :: st) pc := fun H locs ls h1 h2 h3 => lv_dup2_11 C.x C.b dg hv hu (k H locs ls h1 h2 h3)
theorem x_lconst (C : CX g cc nL ret own) {n : Fin 2} (dg : decode cc pc = .ok (.lconst n, 1)) (k : XG g d hp lv (jV ((n : Nat) : Int) :: st) (pc + 1)) : XG g d hp lv st pc := fun H locs ls h1 h2 h3 => lv_lconst C.x C.b dg (by rw [← Int64.ofInt_eq_ofNat]) (k H locs ls h1 h2 h3)
theorem x_lload_n (C : CX g cc nL ret own) {f : Fin 4} {x : Int} (i : Nat) (dg : decode cc pc = .ok (.lload_n f, 1)) (hl : lv[i]? = some ((f : Nat), jV x)) (k : XG g d hp lv (jV x :: st) (pc + 1)) : XG g d hp lv st pc := fun H locs ls h1 h2 h3 => lv_lload_n C.x C.b dg rfl (lv_at h3 i hl) (k H locs ls h1 h2 h3)
theorem x_lload (C : CX g cc nL ret own) {f : Nat} {x : Int} (i : Nat) (dg : decode cc pc = .ok (.lload f, 2)) (hl : lv[i]? = some (f, jV x)) (k : XG g d hp lv (jV x :: st) (pc + 2)) : XG g d hp lv st pc := fun H locs ls h1 h2 h3 => lv_lload C.x C.b dg (lv_at h3 i hl) (k H locs ls h1 h2 h3)
theorem lcm64_i (a b : Int) : lg_cmp (Int64.ofInt a) (Int64.ofInt b) = Int32.ofInt (lcm64 a b) := by
  unfold lg_cmp lcm64
  simp only [gt_iff_lt, Int64.lt_iff_toInt_lt, ← Int64.toInt_inj, w64_toInt]
  by_cases h : w64 a < w64 b
  · rw [if_neg (by omega), if_neg (by omega), if_pos h]; rfl
  · by_cases h2 : w64 b < w64 a
    · rw [if_pos h2, if_neg h, if_pos h2]; rfl
    · rw [if_neg h2, if_pos (by omega), if_neg h, if_neg h2]; rfl
theorem x_lcmp (C : CX g cc nL ret own) {a b : Int} (dg : decode cc pc = .ok (.lcmp, 1)) (k : XG g d hp lv (iV (lcm64 a b) :: st) (pc + 1)) : XG g d hp lv (jV b :: jV a :: st) pc := fun H locs ls h1 h2 h3 => W.lcmp C.x C.b dg (by rw [lcm64_i]; exact k H locs ls h1 h2 h3)
end XB
/-! ===== further calls ===== -/
section XC7
variable {g : Cx} {d : Dl} {cc : ByteArray} {nL : Nat} {ret : Option FieldType} {own : String} {w : Wd} {lv : List (Nat × Value)} {st : List Value} {pc : Nat}
theorem x_callVv (C : CX g cc nL ret own) {rmO : Room} (hA : ∀ q : Nat, g.s.heap.size ≤ q → g.A q) (hR : g.R = rmO) {y : MethodName} {cc' : ByteArray} {nL' n index : Nat} {ret' : Option FieldType} {rm : Room} {o K : Nat} {T : u_T} {As rest stk : List Value} {α : Type} {pv : Option Wd} {Kt : Wd → Option α} {res : α}
    (hf : mfV y cc' nL' ret' n) (hlk : Cond.methodLink own index y ∈ lw_tg) (hcl : vwCl[K - 1]? = some (y.cls, T, nf (K - 1))) (hk : isK d.na g.dm K o) (hK : 0 < K ∧ K ≤ 10) (hrm : rm.cells = 0 ∧ rm.slots = 0) (hrr : rm.frames + 1 ≤ rmO.frames ∧ 8 + (nL' + 11) + rm.locals ≤ rmO.locals)
    (hst : stk = As.reverse ++ .ref (d.ad o) :: rest) (hn : As.length = n) (hro : (rest.map fun v => v.category).sum ≤ 8) (hce : d.ce ≤ g.R.cells ∧ d.so ≤ g.R.slots) (dg : decode cc pc = .ok (.invokevirtual index, 3))
    (hq : pv.bind Kt = some res) (hM : ∀ w', pv = some w' → mV g.l y cc' nL' ret' rm g.G g.dm d.na d.ad (.ref (d.ad o) :: As) w w')
    (k' : ∀ w', pv = some w' → Kt w' = some res → XG g d (hP g d w') lv rest (pc + 3)) : XG g d (hP g d w) lv stk pc := by
  intro H locs ls h1 h2 h3
  obtain ⟨w', hpv, hq⟩ := Option.bind_eq_some_iff.mp hq
  obtain ⟨f1, f2, f3, f4, f5, f6, f7⟩ := hf
  have hF := wdH.rg h1 h2 hA
  refine va_callv (va_runV (C := y.cls) (As := As) (rest := rest) ⟨C.x, C.b, C.ml, C.o, C.t⟩ (hM w' hpv H.size)
    ⟨callB_of n C.t (good_tg f4) rfl hrm.1 hrm.2 (C.t _ f3) (C.t _ hlk) ⟨f5, f6, f7⟩ (by rw [hR]; exact hrr), C.t _ f1, C.t _ f2⟩
    ⟨preS.blind, xrecv_of C h1 hk hK hcl, pre_of C h1 h2 hF⟩ rfl hn (by show ls.size = nL; rw [h3.1, C.n]) hst (lv_room hro) dg ⟨hce.1, hce.2⟩) h2 (fun q _ h => hF q h) hF (fun u t H1 locs1 ht hvm hw hB hz1 hk1 hS => ?_)
  have hB : wdH g.G g.dm d.na d.ad w' (rg g.dm d.na d.ad H.size) t.heap := hB
  rw [ht] at hB
  exact k' w' hpv hq H1 locs1 ls (hB.weaken hF) hS h3
theorem x_callSi (C : CX g cc nL ret own) {rmO : Room} (hA : ∀ q : Nat, g.s.heap.size ≤ q → g.A q) (hR : g.R = rmO) {y : MethodName} {cc' : ByteArray} {nL' n index : Nat} {ret' : Option FieldType} {rm : Room} {As rest stk : List Value} {α : Type} {pv : Option (Int × Wd)} {Kt : Int × Wd → Option α} {res : α}
    (hf : mfS y cc' nL' ret' n) (hlk : Cond.methodLink own index y ∈ lw_tg) (hrm : rm.cells = 0 ∧ rm.slots = 0) (hrr : rm.frames + 1 ≤ rmO.frames ∧ 8 + (nL' + 11) + rm.locals ≤ rmO.locals)
    (hst : stk = As.reverse ++ rest) (hn : As.length = n) (hro : (rest.map fun v => v.category).sum ≤ 8) (hce : d.ce ≤ g.R.cells ∧ d.so ≤ g.R.slots) (dg : decode cc pc = .ok (.invokestatic index, 3))
    (hq : pv.bind Kt = some res) (hM : ∀ r w', pv = some (r, w') → mI g.l y cc' nL' ret' rm g.G g.dm d.na d.ad As w r w')
    (k' : ∀ r w', pv = some (r, w') → Kt (r, w') = some res → XG g d (hP g d w') lv (iV r :: rest) (pc + 3)) : XG g d (hP g d w) lv stk pc := by
  intro H locs ls h1 h2 h3
  obtain ⟨⟨r, w'⟩, hpv, hq⟩ := Option.bind_eq_some_iff.mp hq
  obtain ⟨f1, f3, f4, f5, f6, f7⟩ := hf
  have hF := wdH.rg h1 h2 hA
  refine va_calli (va_runS (As := As) (rest := rest) ⟨C.x, C.b, C.ml, C.o, C.t⟩ (hM r w' hpv H.size)
    ⟨callB_of n C.t (good_tg f4) rfl hrm.1 hrm.2 (C.t _ f3) (C.t _ hlk) ⟨f5, f6, f7⟩ (by rw [hR]; exact hrr), C.t _ f1⟩
    ⟨preS.blind, pre_of C h1 h2 hF⟩ rfl hn (by show ls.size = nL; rw [h3.1, C.n]) hst (lv_room hro) dg ⟨hce.1, hce.2⟩) h2 (fun q _ h => hF q h) hF (fun v u t H1 locs1 ht hvm hw hB hz1 hk1 hS => ?_)
  have hB : wdH g.G g.dm d.na d.ad w' (rg g.dm d.na d.ad H.size) t.heap := hB
  rw [ht] at hB
  rw [hw]
  exact k' r w' hpv hq H1 locs1 ls (hB.weaken hF) hS h3
theorem x_callSv (C : CX g cc nL ret own) {rmO : Room} (hA : ∀ q : Nat, g.s.heap.size ≤ q → g.A q) (hR : g.R = rmO) {y : MethodName} {cc' : ByteArray} {nL' n index : Nat} {ret' : Option FieldType} {rm : Room} {As rest stk : List Value} {α : Type} {pv : Option Wd} {Kt : Wd → Option α} {res : α}
    (hf : mfS y cc' nL' ret' n) (hlk : Cond.methodLink own index y ∈ lw_tg) (hrm : rm.cells = 0 ∧ rm.slots = 0) (hrr : rm.frames + 1 ≤ rmO.frames ∧ 8 + (nL' + 11) + rm.locals ≤ rmO.locals)
    (hst : stk = As.reverse ++ rest) (hn : As.length = n) (hro : (rest.map fun v => v.category).sum ≤ 8) (hce : d.ce ≤ g.R.cells ∧ d.so ≤ g.R.slots) (dg : decode cc pc = .ok (.invokestatic index, 3))
    (hq : pv.bind Kt = some res) (hM : ∀ w', pv = some w' → mV g.l y cc' nL' ret' rm g.G g.dm d.na d.ad As w w')
    (k' : ∀ w', pv = some w' → Kt w' = some res → XG g d (hP g d w') lv rest (pc + 3)) : XG g d (hP g d w) lv stk pc := by
  intro H locs ls h1 h2 h3
  obtain ⟨w', hpv, hq⟩ := Option.bind_eq_some_iff.mp hq
  obtain ⟨f1, f3, f4, f5, f6, f7⟩ := hf
  have hF := wdH.rg h1 h2 hA
  refine va_callv (va_runS (As := As) (rest := rest) ⟨C.x, C.b, C.ml, C.o, C.t⟩ (hM w' hpv H.size)
    ⟨callB_of n C.t (good_tg f4) rfl hrm.1 hrm.2 (C.t _ f3) (C.t _ hlk) ⟨f5, f6, f7⟩ (by rw [hR]; exact hrr), C.t _ f1⟩
    ⟨preS.blind, pre_of C h1 h2 hF⟩ rfl hn (by show ls.size = nL; rw [h3.1, C.n]) hst (lv_room hro) dg ⟨hce.1, hce.2⟩) h2 (fun q _ h => hF q h) hF (fun u t H1 locs1 ht hvm hw hB hz1 hk1 hS => ?_)
  have hB : wdH g.G g.dm d.na d.ad w' (rg g.dm d.na d.ad H.size) t.heap := hB
  rw [ht] at hB
  exact k' w' hpv hq H1 locs1 ls (hB.weaken hF) hS h3
theorem x_callVf (C : CX g cc nL ret own) {rmO : Room} (hA : ∀ q : Nat, g.s.heap.size ≤ q → g.A q) (hR : g.R = rmO) {y : MethodName} {cc' : ByteArray} {nL' n index : Nat} {ret' : Option FieldType} {rm : Room} {o K : Nat} {T : u_T} {As rest stk : List Value} {α : Type} {pv : Option (UInt32 × Wd)} {Kt : UInt32 × Wd → Option α} {res : α}
    (hf : mfV y cc' nL' ret' n) (hlk : Cond.methodLink own index y ∈ lw_tg) (hcl : vwCl[K - 1]? = some (y.cls, T, nf (K - 1))) (hk : isK d.na g.dm K o) (hK : 0 < K ∧ K ≤ 10) (hrm : rm.cells = 0 ∧ rm.slots = 0) (hrr : rm.frames + 1 ≤ rmO.frames ∧ 8 + (nL' + 11) + rm.locals ≤ rmO.locals)
    (hst : stk = As.reverse ++ .ref (d.ad o) :: rest) (hn : As.length = n) (hro : (rest.map fun v => v.category).sum ≤ 8) (hce : d.ce ≤ g.R.cells ∧ d.so ≤ g.R.slots) (dg : decode cc pc = .ok (.invokevirtual index, 3))
    (hq : pv.bind Kt = some res) (hM : ∀ r w', pv = some (r, w') → mF g.l y cc' nL' ret' rm g.G g.dm d.na d.ad (.ref (d.ad o) :: As) w r w')
    (k' : ∀ r w', pv = some (r, w') → Kt (r, w') = some res → XG g d (hP g d w') lv (.float r :: rest) (pc + 3)) : XG g d (hP g d w) lv stk pc := by
  intro H locs ls h1 h2 h3
  obtain ⟨⟨r, w'⟩, hpv, hq⟩ := Option.bind_eq_some_iff.mp hq
  obtain ⟨f1, f2, f3, f4, f5, f6, f7⟩ := hf
  have hF := wdH.rg h1 h2 hA
  refine va_callf (va_runV (C := y.cls) (As := As) (rest := rest) ⟨C.x, C.b, C.ml, C.o, C.t⟩ (hM r w' hpv H.size)
    ⟨callB_of n C.t (good_tg f4) rfl hrm.1 hrm.2 (C.t _ f3) (C.t _ hlk) ⟨f5, f6, f7⟩ (by rw [hR]; exact hrr), C.t _ f1, C.t _ f2⟩
    ⟨preS.blind, xrecv_of C h1 hk hK hcl, pre_of C h1 h2 hF⟩ rfl hn (by show ls.size = nL; rw [h3.1, C.n]) hst (lv_room hro) dg ⟨hce.1, hce.2⟩) h2 (fun q _ h => hF q h) hF (fun v u t H1 locs1 ht hvm hw hB hz1 hk1 hS => ?_)
  have hB : wdH g.G g.dm d.na d.ad w' (rg g.dm d.na d.ad H.size) t.heap := hB
  rw [ht] at hB
  rw [hw]
  exact k' r w' hpv hq H1 locs1 ls (hB.weaken hF) hS h3
theorem x_callVd (C : CX g cc nL ret own) {rmO : Room} (hA : ∀ q : Nat, g.s.heap.size ≤ q → g.A q) (hR : g.R = rmO) {y : MethodName} {cc' : ByteArray} {nL' n index : Nat} {ret' : Option FieldType} {rm : Room} {o K : Nat} {T : u_T} {As rest stk : List Value} {α : Type} {pv : Option (UInt64 × Wd)} {Kt : UInt64 × Wd → Option α} {res : α}
    (hf : mfV y cc' nL' ret' n) (hlk : Cond.methodLink own index y ∈ lw_tg) (hcl : vwCl[K - 1]? = some (y.cls, T, nf (K - 1))) (hk : isK d.na g.dm K o) (hK : 0 < K ∧ K ≤ 10) (hrm : rm.cells = 0 ∧ rm.slots = 0) (hrr : rm.frames + 1 ≤ rmO.frames ∧ 8 + (nL' + 11) + rm.locals ≤ rmO.locals)
    (hst : stk = As.reverse ++ .ref (d.ad o) :: rest) (hn : As.length = n) (hro : (rest.map fun v => v.category).sum ≤ 8) (hce : d.ce ≤ g.R.cells ∧ d.so ≤ g.R.slots) (dg : decode cc pc = .ok (.invokevirtual index, 3))
    (hq : pv.bind Kt = some res) (hM : ∀ r w', pv = some (r, w') → mD g.l y cc' nL' ret' rm g.G g.dm d.na d.ad (.ref (d.ad o) :: As) w r w')
    (k' : ∀ r w', pv = some (r, w') → Kt (r, w') = some res → XG g d (hP g d w') lv (.double r :: rest) (pc + 3)) : XG g d (hP g d w) lv stk pc := by
  intro H locs ls h1 h2 h3
  obtain ⟨⟨r, w'⟩, hpv, hq⟩ := Option.bind_eq_some_iff.mp hq
  obtain ⟨f1, f2, f3, f4, f5, f6, f7⟩ := hf
  have hF := wdH.rg h1 h2 hA
  refine va_calld (va_runV (C := y.cls) (As := As) (rest := rest) ⟨C.x, C.b, C.ml, C.o, C.t⟩ (hM r w' hpv H.size)
    ⟨callB_of n C.t (good_tg f4) rfl hrm.1 hrm.2 (C.t _ f3) (C.t _ hlk) ⟨f5, f6, f7⟩ (by rw [hR]; exact hrr), C.t _ f1, C.t _ f2⟩
    ⟨preS.blind, xrecv_of C h1 hk hK hcl, pre_of C h1 h2 hF⟩ rfl hn (by show ls.size = nL; rw [h3.1, C.n]) hst (lv_room hro) dg ⟨hce.1, hce.2⟩) h2 (fun q _ h => hF q h) hF (fun v u t H1 locs1 ht hvm hw hB hz1 hk1 hS => ?_)
  have hB : wdH g.G g.dm d.na d.ad w' (rg g.dm d.na d.ad H.size) t.heap := hB
  rw [ht] at hB
  rw [hw]
  exact k' r w' hpv hq H1 locs1 ls (hB.weaken hF) hS h3

theorem mx32_i (a b : Int) : (if Int32.ofInt a < Int32.ofInt b then Int32.ofInt b else Int32.ofInt a) = Int32.ofInt (mx32 a b) := by
  unfold mx32
  by_cases h : Int32.ofInt a < Int32.ofInt b
  · rw [if_pos h, if_pos ((lt32_i a b).mp h)]
  · rw [if_neg h, if_neg (fun e => h ((lt32_i a b).mpr e))]
theorem mn32_i (a b : Int) : (if Int32.ofInt b < Int32.ofInt a then Int32.ofInt b else Int32.ofInt a) = Int32.ofInt (mn32 a b) := by
  unfold mn32
  by_cases h : Int32.ofInt b < Int32.ofInt a
  · rw [if_pos h, if_pos ((lt32_i b a).mp h)]
  · rw [if_neg h, if_neg (fun e => h ((lt32_i b a).mpr e))]
theorem x_max (C : CX g cc nL ret own) {rmO : Room} (hR : g.R = rmO) {hp : Heap → Prop} {index : Nat} {a b : Int} (hlk : Cond.methodLink own index Lib.Math.max.name ∈ lw_tg) (hs : Cond.static Lib.Math.max.name ∈ lw_tg) (hi : Cond.initialized "java/lang/Math" ∈ lw_tg) (hcd : Cond.code Lib.Math.max.name Lib.Math.max.code 2 (some .int) ∈ lw_tg)
    (hrr : 1 ≤ rmO.frames ∧ (st.map fun v => v.category).sum + 13 ≤ rmO.locals) (hce : d.ce ≤ g.R.cells ∧ d.so ≤ g.R.slots) (dg : decode cc pc = .ok (.invokestatic index, 3)) (k : XG g d hp lv (iV (mx32 a b) :: st) (pc + 3)) : XG g d hp lv (iV b :: iV a :: st) pc :=
  fun H locs ls h1 h2 h3 => va_mmax C.x C.b (by rw [C.ml, h3.1, C.n]) C.o (C.t _ hlk) (C.t _ hs) (C.t _ hi) (C.t _ hcd) (by rw [hR]; exact hrr.1) (by rw [hR]; exact hrr.2) hce.1 hce.2 dg (by rw [mx32_i]; exact k H locs ls h1 h2 h3)
theorem x_min (C : CX g cc nL ret own) {rmO : Room} (hR : g.R = rmO) {hp : Heap → Prop} {index : Nat} {a b : Int} (hlk : Cond.methodLink own index Lib.Math.min.name ∈ lw_tg) (hs : Cond.static Lib.Math.min.name ∈ lw_tg) (hi : Cond.initialized "java/lang/Math" ∈ lw_tg) (hcd : Cond.code Lib.Math.min.name Lib.Math.min.code 2 (some .int) ∈ lw_tg)
    (hrr : 1 ≤ rmO.frames ∧ (st.map fun v => v.category).sum + 13 ≤ rmO.locals) (hce : d.ce ≤ g.R.cells ∧ d.so ≤ g.R.slots) (dg : decode cc pc = .ok (.invokestatic index, 3)) (k : XG g d hp lv (iV (mn32 a b) :: st) (pc + 3)) : XG g d hp lv (iV b :: iV a :: st) pc :=
  fun H locs ls h1 h2 h3 => va_mmin C.x C.b (by rw [C.ml, h3.1, C.n]) C.o (C.t _ hlk) (C.t _ hs) (C.t _ hi) (C.t _ hcd) (by rw [hR]; exact hrr.1) (by rw [hR]; exact hrr.2) hce.1 hce.2 dg (by rw [mn32_i]; exact k H locs ls h1 h2 h3)
theorem isK_lit {na dm K o : Nat} (hd : g.dm = dm) (h1 : kd na o = K) (h2 : dmo o = dm) : isK na g.dm K o := ⟨h1, by rw [hd]; exact h2⟩
end XC7
/-! ===== the model's row, switches ===== -/
section XC8
variable {g : Cx} {d : Dl} {cc : ByteArray} {nL : Nat} {ret : Option FieldType} {own : String} {hp : Heap → Prop} {w : Wd} {lv : List (Nat × Value)} {st : List Value} {pc : Nat}
abbrev okR (q : Nat) : Prop := q = 51 ∨ q = 52
theorem okR_K {q na : Nat} (hdm : g.dm = 1) (h : okR q) : isK na g.dm 11 q := by
  rcases h with rfl | rfl
  · exact ⟨rfl, by rw [hdm]; rfl⟩
  · exact ⟨rfl, by rw [hdm]; rfl⟩
theorem okR_ln {q : Nat} (h : okR q) : ln q = 1099 := by rcases h with rfl | rfl <;> rfl
theorem x_getrow (C : CX g cc nL ret own) {k index : Nat} {Cn n dsc : String} {T : u_T} {ty : Nat → FieldType} (hdm : g.dm = 1) (hc : clsW 9 Cn T ty) (hk : k = 3) (hT : (T k).1 = Cn ∧ (T k).2.1 = n ∧ (T k).2.2.1 = dsc) (hf : fldW own Cn n dsc index) (dg : decode cc pc = .ok (.getfield index, 3))
    (k' : okR (gP w 50 3) → XG g d (hP g d w) lv (.ref (d.ad (gP w 50 3)) :: st) (pc + 3)) : XG g d (hP g d w) lv (.ref (d.ad 50) :: st) pc := by
  subst hk
  intro H locs ls h1 h2 h3
  have hr : okR (gP w 50 3) := h1.2.2 50 3
  refine x_get0 (K := 10) (k := 3) C (isK_lit hdm rfl rfl) (by decide) hc (by decide) hT hf dg ?_ H locs ls h1 h2 h3
  have e : fv d.ad w 50 (10 - 1) 3 = .ref (d.ad (gP w 50 3)) := by
    rw [fv_dyn rfl]
    unfold rV ov
    rw [if_neg (by rcases hr with q | q <;> (have q : gP w 50 ((3 : Nat) : Int) = _ := q; rw [q]; decide))]
    rfl
  rw [e]
  exact k' hr
theorem x_putrow (C : CX g cc nL ret own) {k index q : Nat} {Cn n dsc : String} {T : u_T} {ty : Nat → FieldType} (hdm : g.dm = 1) (hq : okR q) (hc : clsW 9 Cn T ty) (hk : k = 3) (hT : (T k).1 = Cn ∧ (T k).2.1 = n ∧ (T k).2.2.1 = dsc ∧ (T k).2.2.2 = false) (hf : fldW own Cn n dsc index) (hty : ty k = .array .int) (dg : decode cc pc = .ok (.putfield index, 3))
    (k' : XG g d (hP g d (sP w 50 3 q)) lv st (pc + 3)) : XG g d (hP g d w) lv (.ref (d.ad q) :: .ref (d.ad 50) :: st) pc := by
  subst hk
  intro H locs ls h1 h2 h3
  have hkd : isK d.na g.dm 10 50 := isK_lit hdm rfl rfl
  obtain ⟨z, hz, hz2⟩ := hw_get (G := g.G) (ad := d.ad) (w := w) (show kd d.na 50 ≠ 0 by rw [hkd.1]; omega) hkd.2
  have hs := fun e he => hw_set (G := g.G) (ad := d.ad) (w := w) (w' := sP w 50 3 q) (e := e) h1.2.1 hz he (fun o' ho' => cell_sP_ne ho')
  rw [hkd.1, cell_obj (by decide)] at hz2 hs
  have hs := hs _ rfl
  have hv : fv d.ad (sP w 50 3 q) 50 (10 - 1) 3 = .ref (d.ad q) := by
    rw [fv_dyn rfl, gP_sP, if_pos ⟨rfl, rfl⟩]
    unfold rV ov
    rw [if_neg (by rcases hq with e | e <;> (rw [e]; decide))]
    rfl
  rw [← fs_set (w := w) (k := 3) (v := .ref (d.ad q)) hv (fun j hj => by
    unfold fv
    have e2 : ¬ ((j : Int) = 3) := fun z => hj (by omega)
    simp only [gF_sP, gP_sP, e2, and_false, if_false])] at hs
  obtain ⟨hc1, hc2, hc3, hc4⟩ := hc
  obtain ⟨t1, t2, t3, t4⟩ := hT
  subst t2; subst t3
  have hfit : narrow (ty 3) (.ref (d.ad q)) = .ref (d.ad q) ∧ fits (ty 3) (.ref (d.ad q)) = true := by rw [hty]; exact ⟨rfl, rfl⟩
  rcases hf with hf | ⟨host, hf⟩
  · exact va_put C.x C.b C.t hc2 ty hc3 hc4 C.o C.K h1.1 h1.2.1 h2 z hz2 hc1 3 (by decide) (C.t _ hf) (fun y hy => by rw [← t1]; exact hy) t4 (hc3 3 (by decide)) hfit.1 hfit.2 (by simp; decide) dg (fun H1 locs1 a1 a2 a3 => by rw [hs] at a1 a2; exact k' H1 locs1 ls ⟨a1, a2, okW_sP h1.2.2 hq⟩ a3 h3)
  · exact va_putN C.x C.b C.t hc2 ty hc3 hc4 C.o C.K h1.1 h1.2.1 h2 z hz2 hc1 3 (by decide) (va_Nw.use rfl (C.nw _ hf)) (fun y hy => by rw [← t1]; exact hy) t4 (hc3 3 (by decide)) hfit.1 hfit.2 (by simp; decide) dg (fun H1 locs1 a1 a2 a3 => by rw [hs] at a1 a2; exact k' H1 locs1 ls ⟨a1, a2, okW_sP h1.2.2 hq⟩ a3 h3)
theorem lt_f {a b : Int} (h : ¬ lt32 a b = true) : lt32 a b = false := by cases hc : lt32 a b; rfl; exact absurd hc h
/-- a switch's leaf -/
theorem x_tswk (C : CX g cc nL ret own) {x : Int} {dflt lo hi off : Int} {offs : Array Int} {len tgt : Nat} (k : Int) (hl : ¬ lt32 x k = true) (hh : ¬ lt32 k x = true) (hk : w32 k = k ∧ lo ≤ k ∧ k ≤ hi) (dg : decode cc pc = .ok (.tableswitch dflt lo hi offs, len)) (ho : offs[(k - lo).toNat]? = some off) (ht : (pc : Int) + off = (tgt : Int)) (kk : XG g d hp lv st tgt) : XG g d hp lv (iV x :: st) pc := by
  have hx : w32 x = k := by
    have a := of_decide_eq_false (lt_f hl)
    have b := of_decide_eq_false (lt_f hh)
    rw [hk.1] at a b; omega
  intro H locs ls h1 h2 h3
  have e : (Int32.ofInt x).toInt = k := by rw [w32_toInt, hx]
  exact lv_tableIn C.x C.b dg (by rw [e]; omega) (by rw [e]; omega) (by rw [e]; exact ho) ht (kk H locs ls h1 h2 h3)
theorem x_tswd (C : CX g cc nL ret own) {x : Int} {dflt lo hi : Int} {offs : Array Int} {len tgt : Nat} (h : lt32 x lo = true ∨ lt32 hi x = true) (hk : w32 lo = lo ∧ w32 hi = hi) (dg : decode cc pc = .ok (.tableswitch dflt lo hi offs, len)) (ht : (pc : Int) + dflt = (tgt : Int)) (kk : XG g d hp lv st tgt) : XG g d hp lv (iV x :: st) pc := by
  intro H locs ls h1 h2 h3
  refine lv_tableOut C.x C.b dg ?_ ht (kk H locs ls h1 h2 h3)
  rw [w32_toInt]
  rcases h with h | h
  · have := of_decide_eq_true h; rw [hk.1] at this; exact Or.inl this
  · have := of_decide_eq_true h; rw [hk.2] at this; exact Or.inr this
theorem lt_sw {x k : Int} (h : lt32 x (k + 1) = true) (hk : w32 k = k ∧ w32 (k + 1) = k + 1) : ¬ lt32 k x = true := by
  intro e
  have a := of_decide_eq_true h
  have b := of_decide_eq_true e
  rw [hk.2] at a; rw [hk.1] at b; omega
end XC8
def FU : Nat := 1000000
/-! ===== ends, guards, cells that lead on ===== -/
def rtI (g : Cx) (d : Dl) (cc : ByteArray) (ty : FieldType) (res : Int × Wd) : Prop := ∀ (pc : Nat) (lv : List (Nat × Value)) (v : Int) (w2 : Wd), some (v, w2) = some res → narrow ty (iV v) = iV v → decode cc pc = .ok (.ireturn, 1) → XG g d (hP g d w2) lv [iV v] pc
def rtV (g : Cx) (d : Dl) (cc : ByteArray) (res : Wd) : Prop := ∀ (pc : Nat) (lv : List (Nat × Value)) (w2 : Wd), some w2 = some res → decode cc pc = .ok (.return_, 1) → XG g d (hP g d w2) lv [] pc
def rtF (g : Cx) (d : Dl) (cc : ByteArray) (res : UInt32 × Wd) : Prop := ∀ (pc : Nat) (lv : List (Nat × Value)) (v : UInt32) (w2 : Wd), some (v, w2) = some res → decode cc pc = .ok (.freturn, 1) → XG g d (hP g d w2) lv [.float v] pc
def rtD (g : Cx) (d : Dl) (cc : ByteArray) (res : UInt64 × Wd) : Prop := ∀ (pc : Nat) (lv : List (Nat × Value)) (v : UInt64) (w2 : Wd), some (v, w2) = some res → decode cc pc = .ok (.dreturn, 1) → XG g d (hP g d w2) lv [.double v] pc
def zr (x : Int) (w : Wd) : Option (Int × Wd) := if x = 0 ∨ x = 1 then some (x, w) else none
theorem zr_2 {x : Int} {w : Wd} {r : Int × Wd} (h : zr x w = some r) : some (x, w) = some r := by
  unfold zr at h; split at h; exact h; cases h
theorem zr_1 {x : Int} {w : Wd} {r : Int × Wd} (h : zr x w = some r) : narrow .boolean (iV x) = iV x := by
  unfold zr at h; split at h
  · rename_i e; rcases e with rfl | rfl <;> decide +kernel
  · cases h
theorem ite_2 {α : Type} {c : Bool} {P1 P2 : Option α} {z : α} {Z : Prop} (hq : (if c = true then P1 else P2) = some z) (k1 : c = true → P1 = some z → Z) (k2 : ¬ c = true → P2 = some z → Z) : Z := by
  by_cases h : c = true
  · rw [if_pos h] at hq; exact k1 h hq
  · rw [if_neg h] at hq; exact k2 h hq
theorem inb_2 {α : Type} {i : Int} {n : Nat} {P : Option α} {z : α} {Z : Prop} (hq : (if inb i n = false then none else P) = some z) (k : inb i n = true → P = some z → Z) : Z := by
  cases h : inb i n with
  | true => rw [h] at hq; exact k h hq
  | false => rw [h] at hq; cases hq
theorem kd_cases {na K o : Nat} (hK : K ≠ 0) (h : kd na o = K) : (o < 100 ∧ kmain.getD o 0 = K) ∨ ∃ r, r < 12 ∧ 100 ≤ o ∧ (o - 100) % 16 = r ∧ (o - 100) / 16 < na + 2 ∧ kslab.getD r 0 = K := by
  unfold kd at h
  by_cases c : o < 100
  · rw [if_pos c] at h; exact Or.inl ⟨c, h⟩
  · rw [if_neg c] at h
    by_cases c2 : (o - 100) / 16 < na + 2
    · rw [if_pos c2] at h
      refine Or.inr ⟨(o - 100) % 16, ?_, by omega, rfl, c2, h⟩
      by_cases c3 : (o - 100) % 16 < 12
      · exact c3
      · rw [List.getD_eq_getElem?_getD, List.getElem?_eq_none (by show 12 ≤ _; omega)] at h
        exact absurd h.symm hK
    · rw [if_neg c2] at h; exact absurd h.symm hK
theorem kd_off {na o r j : Nat} (ho : 100 ≤ o) (hr : (o - 100) % 16 = r) (hn : (o - 100) / 16 < na + 2) (hj : r + j < 16) : kd na (o + j) = kslab.getD (r + j) 0 ∧ dmo (o + j) = 0 ∧ dmo o = 0 := by
  have e1 : (o + j - 100) % 16 = r + j := by omega
  have e2 : (o + j - 100) / 16 = (o - 100) / 16 := by omega
  refine ⟨?_, ?_, ?_⟩
  · unfold kd; rw [if_neg (by omega), e1, e2, if_pos hn]
  · unfold dmo; rw [if_neg (by omega)]
  · unfold dmo; rw [if_neg (by omega)]
theorem kd_main {na o : Nat} (h : o < 100) : kd na o = kmain.getD o 0 := by unfold kd; rw [if_pos h]
theorem ik7 {na dm o : Nat} (h : isK na dm 7 o) : isK na dm 6 (o + 1) ∧ isK na dm 6 (o + 3) ∧ isK na dm 6 (o + 5) ∧ isK na dm 6 (o + 7) ∧ isK na dm 6 (o + 9) ∧ isK na dm 2 (o + 11) := by
  obtain ⟨h1, h2⟩ := h
  rcases kd_cases (by decide) h1 with ⟨a, b⟩ | ⟨r, a, b, c, e, f⟩
  · exact absurd b ((by decide +kernel : ∀ o, o < 100 → kmain.getD o 0 ≠ 7) o a)
  · have hr : r = 0 := (by decide +kernel : ∀ r, r < 12 → kslab.getD r 0 = 7 → r = 0) r a f
    subst hr
    have k := fun j hj => kd_off (j := j) b c e hj
    have hd : dm = 0 := by rw [← h2]; exact (k 0 (by decide)).2.2
    subst hd
    exact ⟨⟨(k 1 (by decide)).1, (k 1 (by decide)).2.1⟩, ⟨(k 3 (by decide)).1, (k 3 (by decide)).2.1⟩, ⟨(k 5 (by decide)).1, (k 5 (by decide)).2.1⟩, ⟨(k 7 (by decide)).1, (k 7 (by decide)).2.1⟩, ⟨(k 9 (by decide)).1, (k 9 (by decide)).2.1⟩, ⟨(k 11 (by decide)).1, (k 11 (by decide)).2.1⟩⟩
theorem ik6 {na dm o : Nat} (h : isK na dm 6 o) : isK na dm 11 (o + 1) := by
  obtain ⟨h1, h2⟩ := h
  rcases kd_cases (by decide) h1 with ⟨a, b⟩ | ⟨r, a, b, c, e, f⟩
  · have hm := (by decide +kernel : ∀ o, o < 100 → kmain.getD o 0 = 6 → kmain.getD (o + 1) 0 = 11 ∧ o + 1 < 100 ∧ dmo (o + 1) = dmo o) o a b
    exact ⟨by rw [kd_main hm.2.1]; exact hm.1, by rw [hm.2.2]; exact h2⟩
  · have hr := (by decide +kernel : ∀ r, r < 12 → kslab.getD r 0 = 6 → kslab.getD (r + 1) 0 = 11) r a f
    have k := kd_off (j := 1) b c e (by omega)
    exact ⟨by rw [k.1]; exact hr, by rw [k.2.1, ← h2, k.2.2]⟩
theorem ik3 {na dm o : Nat} (h : isK na dm 3 o) : isK na dm 6 (o + 1) ∧ isK na dm 6 (o + 3) ∧ isK na dm 6 (o + 5) ∧ isK na dm 6 (o + 7) := by
  obtain ⟨h1, h2⟩ := h
  rcases kd_cases (by decide) h1 with ⟨a, b⟩ | ⟨r, a, b, c, e, f⟩
  · have hm := (by decide +kernel : ∀ o, o < 100 → kmain.getD o 0 = 3 → o = 10 ∨ o = 20) o a b
    subst h2
    rcases hm with rfl | rfl <;> exact ⟨⟨rfl, rfl⟩, ⟨rfl, rfl⟩, ⟨rfl, rfl⟩, ⟨rfl, rfl⟩⟩
  · exact absurd f ((by decide +kernel : ∀ r, r < 12 → kslab.getD r 0 ≠ 3) r a)
theorem ik1 {na dm o : Nat} (h : isK na dm 1 o) : isK na dm 6 (o + 1) := by
  obtain ⟨h1, h2⟩ := h
  rcases kd_cases (by decide) h1 with ⟨a, b⟩ | ⟨r, a, b, c, e, f⟩
  · have hm := (by decide +kernel : ∀ o, o < 100 → kmain.getD o 0 = 1 → o = 2 ∨ o = 5) o a b
    subst h2
    rcases hm with rfl | rfl <;> exact ⟨rfl, rfl⟩
  · exact absurd f ((by decide +kernel : ∀ r, r < 12 → kslab.getD r 0 ≠ 1) r a)
section XC9
variable {g : Cx} {d : Dl} {cc : ByteArray} {nL : Nat} {ret : Option FieldType} {own : String} {hp : Heap → Prop} {w : Wd} {lv : List (Nat × Value)} {st : List Value} {pc : Nat}
theorem x_ldc2 (C : CX g cc nL ret own) {index : Nat} {v : Int} {x : Int64} (hx : x = Int64.ofInt v) (hc : Cond.constantLong own index x ∈ lw_tg) (dg : decode cc pc = .ok (.ldc2_w index, 3)) (k : XG g d hp lv (jV v :: st) (pc + 3)) : XG g d hp lv st pc := fun H locs ls h1 h2 h3 => lv_ldc2 C.x C.b C.o (C.t _ hc) dg (by rw [hx]; exact k H locs ls h1 h2 h3)
theorem x_ldc (C : CX g cc nL ret own) {index : Nat} {v : Int} {x : Int32} (hx : x = Int32.ofInt v) (hc : Cond.constant own index x ∈ lw_tg) (dg : decode cc pc = .ok (.ldc index, 2)) (k : XG g d hp lv (iV v :: st) (pc + 2)) : XG g d hp lv st pc := fun H locs ls h1 h2 h3 => lv_ldc C.x C.b C.o (C.t _ hc) dg (by rw [hx]; exact k H locs ls h1 h2 h3)
theorem x_ldcw (C : CX g cc nL ret own) {index : Nat} {v : Int} {x : Int32} (hx : x = Int32.ofInt v) (hc : Cond.constant own index x ∈ lw_tg) (dg : decode cc pc = .ok (.ldc_w index, 3)) (k : XG g d hp lv (iV v :: st) (pc + 3)) : XG g d hp lv st pc := fun H locs ls h1 h2 h3 => lv_ldcw C.x C.b C.o (C.t _ hc) dg (by rw [hx]; exact k H locs ls h1 h2 h3)
end XC9
/-! ===== a method's beginning and end ===== -/
theorem met_I {l : Launch} {y : MethodName} {cc : ByteArray} {nL : Nat} {ret : Option FieldType} {rm : Room} {G : Gd} {dm na : Nat} {ad : Nat → Nat} {vs : List Value} {w w' : Wd} {r : Int} (lv0 : List (Nat × Value)) (hy : plainName y.cls = true) (hlen : (lg_sl vs).length ≤ nL) (hlv : lv_args 0 vs = lv0) (ty : FieldType)
    (hret : ret = some ty) (body : ∀ (g : Cx) (d : Dl), CX g cc nL ret y.cls → stX g d l rm G dm na ad → rtI g d cc ty (r, w') → XG g d (hP g d w) lv0 [] 0) :
    mI l y cc nL ret rm G dm na ad vs w r w' := by
  intro sz
  refine start_X hy hlen (fun g d C S hA hz hQ => ?_)
  rw [hlv]
  refine body g d C S (fun pc lv v w2 hq hn dg H locs ls h1 h2 h3 => ?_)
  cases hq
  obtain ⟨_, _, hG, hdm, rfl, _⟩ := S
  rw [hQ]
  unfold hP at h1
  rw [hA] at h1 h2
  rw [hG, hdm] at h1
  exact W.zret C.x C.b (by rw [C.r, hret]) hn (fun t ht hW => ⟨⟨_, (), rfl, rfl, by show wdH _ _ _ _ _ _ t.heap; rw [ht]; exact h1⟩, h2.F ht⟩) h2.2.2 dg C.k
theorem met_V {l : Launch} {y : MethodName} {cc : ByteArray} {nL : Nat} {ret : Option FieldType} {rm : Room} {G : Gd} {dm na : Nat} {ad : Nat → Nat} {vs : List Value} {w w' : Wd} (lv0 : List (Nat × Value)) (hy : plainName y.cls = true) (hlen : (lg_sl vs).length ≤ nL) (hlv : lv_args 0 vs = lv0)
    (hret : ret = none) (body : ∀ (g : Cx) (d : Dl), CX g cc nL ret y.cls → stX g d l rm G dm na ad → rtV g d cc w' → XG g d (hP g d w) lv0 [] 0) :
    mV l y cc nL ret rm G dm na ad vs w w' := by
  intro sz
  refine start_X hy hlen (fun g d C S hA hz hQ => ?_)
  rw [hlv]
  refine body g d C S (fun pc lv w2 hq dg H locs ls h1 h2 h3 => ?_)
  cases hq
  obtain ⟨_, _, hG, hdm, rfl, _⟩ := S
  rw [hQ]
  unfold hP at h1
  rw [hA] at h1 h2
  rw [hG, hdm] at h1
  exact W.vret C.x C.b (by rw [C.r, hret]) (fun t ht hW => ⟨⟨(), rfl, trivial, by show wdH _ _ _ _ _ _ t.heap; rw [ht]; exact h1⟩, h2.F ht⟩) h2.2.2 dg C.k
theorem met_F {l : Launch} {y : MethodName} {cc : ByteArray} {nL : Nat} {ret : Option FieldType} {rm : Room} {G : Gd} {dm na : Nat} {ad : Nat → Nat} {vs : List Value} {w w' : Wd} {r : UInt32} (lv0 : List (Nat × Value)) (hy : plainName y.cls = true) (hlen : (lg_sl vs).length ≤ nL) (hlv : lv_args 0 vs = lv0)
    (hret : ret = some .float) (body : ∀ (g : Cx) (d : Dl), CX g cc nL ret y.cls → stX g d l rm G dm na ad → rtF g d cc (r, w') → XG g d (hP g d w) lv0 [] 0) :
    mF l y cc nL ret rm G dm na ad vs w r w' := by
  intro sz
  refine start_X hy hlen (fun g d C S hA hz hQ => ?_)
  rw [hlv]
  refine body g d C S (fun pc lv v w2 hq dg H locs ls h1 h2 h3 => ?_)
  cases hq
  obtain ⟨_, _, hG, hdm, rfl, _⟩ := S
  rw [hQ]
  unfold hP at h1
  rw [hA] at h1 h2
  rw [hG, hdm] at h1
  exact W.fret C.x C.b (by rw [C.r, hret]) (fun t ht hW => ⟨⟨_, (), rfl, rfl, by show wdH _ _ _ _ _ _ t.heap; rw [ht]; exact h1⟩, h2.F ht⟩) h2.2.2 dg C.k
theorem met_D {l : Launch} {y : MethodName} {cc : ByteArray} {nL : Nat} {ret : Option FieldType} {rm : Room} {G : Gd} {dm na : Nat} {ad : Nat → Nat} {vs : List Value} {w w' : Wd} {r : UInt64} (lv0 : List (Nat × Value)) (hy : plainName y.cls = true) (hlen : (lg_sl vs).length ≤ nL) (hlv : lv_args 0 vs = lv0)
    (hret : ret = some .double) (body : ∀ (g : Cx) (d : Dl), CX g cc nL ret y.cls → stX g d l rm G dm na ad → rtD g d cc (r, w') → XG g d (hP g d w) lv0 [] 0) :
    mD l y cc nL ret rm G dm na ad vs w r w' := by
  intro sz
  refine start_X hy hlen (fun g d C S hA hz hQ => ?_)
  rw [hlv]
  refine body g d C S (fun pc lv v w2 hq dg H locs ls h1 h2 h3 => ?_)
  cases hq
  obtain ⟨_, _, hG, hdm, rfl, _⟩ := S
  rw [hQ]
  unfold hP at h1
  rw [hA] at h1 h2
  rw [hG, hdm] at h1
  exact W.dret C.x C.b (by rw [C.r, hret]) (fun t ht hW => ⟨⟨_, (), rfl, rfl, by show wdH _ _ _ _ _ _ t.heap; rw [ht]; exact h1⟩, h2.F ht⟩) h2.2.2 dg C.k
theorem nmW {α β : Type} {e : β} {Kt : β → Option α} {z : α} {Z : Prop} (hq : (some e).bind Kt = some z) (k : ∀ v, v = e → Kt v = some z → Z) : Z := k e rfl hq
/-! ===== floats ===== -/
def fi2 (x : Int) : UInt32 := FP.i2f (Int32.ofInt x)
def di2 (x : Int) : UInt64 := FP.i2d (Int32.ofInt x)
def fdv (a b : UInt32) : Option UInt32 := if decide (FP.fdiv a b &&& 0x7fffffff ≤ 0x7f800000) = true then some (FP.fdiv a b) else none
def ddv (a b : UInt64) : Option UInt64 := if decide (FP.ddiv a b &&& 0x7fffffffffffffff ≤ 0x7ff0000000000000) = true then some (FP.ddiv a b) else none
def fdd (a : UInt32) : Option UInt64 := if decide (FP.f2d a &&& 0x7fffffffffffffff ≤ 0x7ff0000000000000) = true then some (FP.f2d a) else none
section XF
variable {g : Cx} {d : Dl} {cc : ByteArray} {nL : Nat} {ret : Option FieldType} {own : String} {hp : Heap → Prop} {w : Wd} {lv : List (Nat × Value)} {st : List Value} {pc : Nat}
theorem x_i2f (C : CX g cc nL ret own) {a : Int} (dg : decode cc pc = .ok (.i2f, 1)) (k : XG g d hp lv (.float (fi2 a) :: st) (pc + 1)) : XG g d hp lv (iV a :: st) pc := fun H locs ls h1 h2 h3 => lv_i2f C.x C.b dg (k H locs ls h1 h2 h3)
theorem x_i2d (C : CX g cc nL ret own) {a : Int} (dg : decode cc pc = .ok (.i2d, 1)) (k : XG g d hp lv (.double (di2 a) :: st) (pc + 1)) : XG g d hp lv (iV a :: st) pc := fun H locs ls h1 h2 h3 => lv_i2d C.x C.b dg (k H locs ls h1 h2 h3)
theorem x_fconst0 (C : CX g cc nL ret own) (dg : decode cc pc = .ok (.fconst 0, 1)) (k : XG g d hp lv (.float FP.fconst0 :: st) (pc + 1)) : XG g d hp lv st pc := fun H locs ls h1 h2 h3 => lv_fconst0 C.x C.b dg (k H locs ls h1 h2 h3)
theorem x_fconst1 (C : CX g cc nL ret own) (dg : decode cc pc = .ok (.fconst 1, 1)) (k : XG g d hp lv (.float FP.fconst1 :: st) (pc + 1)) : XG g d hp lv st pc := fun H locs ls h1 h2 h3 => lv_fconst1 C.x C.b dg (k H locs ls h1 h2 h3)
theorem x_dconst0 (C : CX g cc nL ret own) (dg : decode cc pc = .ok (.dconst 0, 1)) (k : XG g d hp lv (.double FP.dconst0 :: st) (pc + 1)) : XG g d hp lv st pc := fun H locs ls h1 h2 h3 => lv_dconst0 C.x C.b dg (k H locs ls h1 h2 h3)
theorem x_dconst1 (C : CX g cc nL ret own) (dg : decode cc pc = .ok (.dconst 1, 1)) (k : XG g d hp lv (.double FP.dconst1 :: st) (pc + 1)) : XG g d hp lv st pc := fun H locs ls h1 h2 h3 => lv_dconst1 C.x C.b dg (k H locs ls h1 h2 h3)
theorem x_fdiv (C : CX g cc nL ret own) {a b : UInt32} {α : Type} {Kt : UInt32 → Option α} {z : α} (dg : decode cc pc = .ok (.fdiv, 1)) (hq : (fdv a b).bind Kt = some z) (k : ∀ v, Kt v = some z → XG g d hp lv (.float v :: st) (pc + 1)) : XG g d hp lv (.float b :: .float a :: st) pc := by
  intro H locs ls h1 h2 h3
  unfold fdv at hq
  split at hq
  · rename_i e; have e := of_decide_eq_true e; exact lv_fdiv C.x C.b dg e (k _ hq H locs ls h1 h2 h3)
  · cases hq
theorem x_ddiv (C : CX g cc nL ret own) {a b : UInt64} {α : Type} {Kt : UInt64 → Option α} {z : α} (dg : decode cc pc = .ok (.ddiv, 1)) (hq : (ddv a b).bind Kt = some z) (k : ∀ v, Kt v = some z → XG g d hp lv (.double v :: st) (pc + 1)) : XG g d hp lv (.double b :: .double a :: st) pc := by
  intro H locs ls h1 h2 h3
  unfold ddv at hq
  split at hq
  · rename_i e; have e := of_decide_eq_true e; exact lv_ddiv C.x C.b dg e (k _ hq H locs ls h1 h2 h3)
  · cases hq
theorem x_f2d (C : CX g cc nL ret own) {a : UInt32} {α : Type} {Kt : UInt64 → Option α} {z : α} (dg : decode cc pc = .ok (.f2d, 1)) (hq : (fdd a).bind Kt = some z) (k : ∀ v, Kt v = some z → XG g d hp lv (.double v :: st) (pc + 1)) : XG g d hp lv (.float a :: st) pc := by
  intro H locs ls h1 h2 h3
  unfold fdd at hq
  split at hq
  · rename_i e; have e := of_decide_eq_true e; exact lv_f2d C.x C.b dg e (k _ hq H locs ls h1 h2 h3)
  · cases hq
end XF
