/-! ===== comparisons, arithmetic of other kinds ===== -/
section XB
variable {g : Cx} {d : Dl} {cc : ByteArray} {nL : Nat} {ret : Option FieldType} {own : String} {hp : Heap → Prop} {w : Wd} {lv : List (Nat × Value)} {st : List Value} {pc : Nat}
theorem x_icmp_lt (C : CX g cc nL ret own) {a b : Int} {off : Int} {tgt : Nat} {α : Type} {P1 P2 : Option α} {z : α} (dg : decode cc pc = .ok (.if_icmp .lt off, 3)) (ht : (pc : Int) + off = (tgt : Int)) (hq : (if lt32 a b = true then P1 else P2) = some z) (k1 : P1 = some z → XG g d hp lv st tgt) (k2 : P2 = some z → XG g d hp lv st (pc + 3)) : XG g d hp lv (iV b :: iV a :: st) pc := by
  intro H locs ls h1 h2 h3
  refine lv_icmp_lt C.x C.b dg ht (fun h => ?_) (fun h => ?_)
  · refine (?_ : XG g d hp lv st tgt) H locs ls h1 h2 h3
    have e := (lt32_i a b).mp h
    rw [if_pos e] at hq
    exact k1 hq
  · refine (?_ : XG g d hp lv st (pc + 3)) H locs ls h1 h2 h3
    have e : ¬ (lt32 a b = true) := fun e => h ((lt32_i a b).mpr e)
    rw [if_neg e] at hq
    exact k2 hq
theorem x_if_lt (C : CX g cc nL ret own) {a : Int} {off : Int} {tgt : Nat} {α : Type} {P1 P2 : Option α} {z : α} (dg : decode cc pc = .ok (.ifCond .lt off, 3)) (ht : (pc : Int) + off = (tgt : Int)) (hq : (if lt32 a 0 = true then P1 else P2) = some z) (k1 : P1 = some z → XG g d hp lv st tgt) (k2 : P2 = some z → XG g d hp lv st (pc + 3)) : XG g d hp lv (iV a :: st) pc := by
  intro H locs ls h1 h2 h3
  refine lv_if_lt C.x C.b dg ht (fun h => ?_) (fun h => ?_)
  · refine (?_ : XG g d hp lv st tgt) H locs ls h1 h2 h3
    have e := (lt32_i a 0).mp h
    rw [if_pos e] at hq
    exact k1 hq
  · refine (?_ : XG g d hp lv st (pc + 3)) H locs ls h1 h2 h3
    have e : ¬ (lt32 a 0 = true) := fun e => h ((lt32_i a 0).mpr e)
    rw [if_neg e] at hq
    exact k2 hq
theorem x_icmp_ge (C : CX g cc nL ret own) {a b : Int} {off : Int} {tgt : Nat} {α : Type} {P1 P2 : Option α} {z : α} (dg : decode cc pc = .ok (.if_icmp .ge off, 3)) (ht : (pc : Int) + off = (tgt : Int)) (hq : (if lt32 a b = true then P1 else P2) = some z) (k1 : P2 = some z → XG g d hp lv st tgt) (k2 : P1 = some z → XG g d hp lv st (pc + 3)) : XG g d hp lv (iV b :: iV a :: st) pc := by
  intro H locs ls h1 h2 h3
  refine lv_icmp_ge C.x C.b dg ht (fun h => ?_) (fun h => ?_)
  · refine (?_ : XG g d hp lv st tgt) H locs ls h1 h2 h3
    have e := (le32_i b a).mp h
    rw [if_neg (by rw [e]; decide)] at hq
    exact k1 hq
  · refine (?_ : XG g d hp lv st (pc + 3)) H locs ls h1 h2 h3
    have e : lt32 a b = true := eq_true_of_ne_false (fun q => h ((le32_i b a).mpr q))
    rw [if_pos e] at hq
    exact k2 hq
theorem x_if_ge (C : CX g cc nL ret own) {a : Int} {off : Int} {tgt : Nat} {α : Type} {P1 P2 : Option α} {z : α} (dg : decode cc pc = .ok (.ifCond .ge off, 3)) (ht : (pc : Int) + off = (tgt : Int)) (hq : (if lt32 a 0 = true then P1 else P2) = some z) (k1 : P2 = some z → XG g d hp lv st tgt) (k2 : P1 = some z → XG g d hp lv st (pc + 3)) : XG g d hp lv (iV a :: st) pc := by
  intro H locs ls h1 h2 h3
  refine lv_if_ge C.x C.b dg ht (fun h => ?_) (fun h => ?_)
  · refine (?_ : XG g d hp lv st tgt) H locs ls h1 h2 h3
    have e := (le32_i 0 a).mp h
    rw [if_neg (by rw [e]; decide)] at hq
    exact k1 hq
  · refine (?_ : XG g d hp lv st (pc + 3)) H locs ls h1 h2 h3
    have e : lt32 a 0 = true := eq_true_of_ne_false (fun q => h ((le32_i 0 a).mpr q))
    rw [if_pos e] at hq
    exact k2 hq
theorem x_icmp_gt (C : CX g cc nL ret own) {a b : Int} {off : Int} {tgt : Nat} {α : Type} {P1 P2 : Option α} {z : α} (dg : decode cc pc = .ok (.if_icmp .gt off, 3)) (ht : (pc : Int) + off = (tgt : Int)) (hq : (if lt32 b a = true then P1 else P2) = some z) (k1 : P1 = some z → XG g d hp lv st tgt) (k2 : P2 = some z → XG g d hp lv st (pc + 3)) : XG g d hp lv (iV b :: iV a :: st) pc := by
  intro H locs ls h1 h2 h3
  refine lv_icmp_gt C.x C.b dg ht (fun h => ?_) (fun h => ?_)
  · refine (?_ : XG g d hp lv st tgt) H locs ls h1 h2 h3
    have e := (lt32_i b a).mp h
    rw [if_pos e] at hq
    exact k1 hq
  · refine (?_ : XG g d hp lv st (pc + 3)) H locs ls h1 h2 h3
    have e : ¬ (lt32 b a = true) := fun e => h ((lt32_i b a).mpr e)
    rw [if_neg e] at hq
    exact k2 hq
theorem x_if_gt (C : CX g cc nL ret own) {a : Int} {off : Int} {tgt : Nat} {α : Type} {P1 P2 : Option α} {z : α} (dg : decode cc pc = .ok (.ifCond .gt off, 3)) (ht : (pc : Int) + off = (tgt : Int)) (hq : (if lt32 0 a = true then P1 else P2) = some z) (k1 : P1 = some z → XG g d hp lv st tgt) (k2 : P2 = some z → XG g d hp lv st (pc + 3)) : XG g d hp lv (iV a :: st) pc := by
  intro H locs ls h1 h2 h3
  refine lv_if_gt C.x C.b dg ht (fun h => ?_) (fun h => ?_)
  · refine (?_ : XG g d hp lv st tgt) H locs ls h1 h2 h3
    have e := (lt32_i 0 a).mp h
    rw [if_pos e] at hq
    exact k1 hq
  · refine (?_ : XG g d hp lv st (pc + 3)) H locs ls h1 h2 h3
    have e : ¬ (lt32 0 a = true) := fun e => h ((lt32_i 0 a).mpr e)
    rw [if_neg e] at hq
    exact k2 hq
theorem x_icmp_le (C : CX g cc nL ret own) {a b : Int} {off : Int} {tgt : Nat} {α : Type} {P1 P2 : Option α} {z : α} (dg : decode cc pc = .ok (.if_icmp .le off, 3)) (ht : (pc : Int) + off = (tgt : Int)) (hq : (if lt32 b a = true then P1 else P2) = some z) (k1 : P2 = some z → XG g d hp lv st tgt) (k2 : P1 = some z → XG g d hp lv st (pc + 3)) : XG g d hp lv (iV b :: iV a :: st) pc := by
  intro H locs ls h1 h2 h3
  refine lv_icmp_le C.x C.b dg ht (fun h => ?_) (fun h => ?_)
  · refine (?_ : XG g d hp lv st tgt) H locs ls h1 h2 h3
    have e := (le32_i a b).mp h
    rw [if_neg (by rw [e]; decide)] at hq
    exact k1 hq
  · refine (?_ : XG g d hp lv st (pc + 3)) H locs ls h1 h2 h3
    have e : lt32 b a = true := eq_true_of_ne_false (fun q => h ((le32_i a b).mpr q))
    rw [if_pos e] at hq
    exact k2 hq
theorem x_if_le (C : CX g cc nL ret own) {a : Int} {off : Int} {tgt : Nat} {α : Type} {P1 P2 : Option α} {z : α} (dg : decode cc pc = .ok (.ifCond .le off, 3)) (ht : (pc : Int) + off = (tgt : Int)) (hq : (if lt32 0 a = true then P1 else P2) = some z) (k1 : P2 = some z → XG g d hp lv st tgt) (k2 : P1 = some z → XG g d hp lv st (pc + 3)) : XG g d hp lv (iV a :: st) pc := by
  intro H locs ls h1 h2 h3
  refine lv_if_le C.x C.b dg ht (fun h => ?_) (fun h => ?_)
  · refine (?_ : XG g d hp lv st tgt) H locs ls h1 h2 h3
    have e := (le32_i a 0).mp h
    rw [if_neg (by rw [e]; decide)] at hq
    exact k1 hq
  · refine (?_ : XG g d hp lv st (pc + 3)) H locs ls h1 h2 h3
    have e : lt32 0 a = true := eq_true_of_ne_false (fun q => h ((le32_i a 0).mpr q))
    rw [if_pos e] at hq
    exact k2 hq
theorem x_icmp_eq (C : CX g cc nL ret own) {a b : Int} {off : Int} {tgt : Nat} {α : Type} {P1 P2 : Option α} {z : α} (dg : decode cc pc = .ok (.if_icmp .eq off, 3)) (ht : (pc : Int) + off = (tgt : Int)) (hq : (if eq32 a b = true then P1 else P2) = some z) (k1 : P1 = some z → XG g d hp lv st tgt) (k2 : P2 = some z → XG g d hp lv st (pc + 3)) : XG g d hp lv (iV b :: iV a :: st) pc := by
  intro H locs ls h1 h2 h3
  refine lv_icmp_eq C.x C.b dg ht (fun h => ?_) (fun h => ?_)
  · refine (?_ : XG g d hp lv st tgt) H locs ls h1 h2 h3
    have e := (eq32_i a b).mp h
    rw [if_pos e] at hq
    exact k1 hq
  · refine (?_ : XG g d hp lv st (pc + 3)) H locs ls h1 h2 h3
    have e : ¬ (eq32 a b = true) := fun e => h ((eq32_i a b).mpr e)
    rw [if_neg e] at hq
    exact k2 hq
theorem x_if_eq (C : CX g cc nL ret own) {a : Int} {off : Int} {tgt : Nat} {α : Type} {P1 P2 : Option α} {z : α} (dg : decode cc pc = .ok (.ifCond .eq off, 3)) (ht : (pc : Int) + off = (tgt : Int)) (hq : (if eq32 a 0 = true then P1 else P2) = some z) (k1 : P1 = some z → XG g d hp lv st tgt) (k2 : P2 = some z → XG g d hp lv st (pc + 3)) : XG g d hp lv (iV a :: st) pc := by
  intro H locs ls h1 h2 h3
  refine lv_if_eq C.x C.b dg ht (fun h => ?_) (fun h => ?_)
  · refine (?_ : XG g d hp lv st tgt) H locs ls h1 h2 h3
    have e := (eq32_i a 0).mp h
    rw [if_pos e] at hq
    exact k1 hq
  · refine (?_ : XG g d hp lv st (pc + 3)) H locs ls h1 h2 h3
    have e : ¬ (eq32 a 0 = true) := fun e => h ((eq32_i a 0).mpr e)
    rw [if_neg e] at hq
    exact k2 hq
theorem x_icmp_ne (C : CX g cc nL ret own) {a b : Int} {off : Int} {tgt : Nat} {α : Type} {P1 P2 : Option α} {z : α} (dg : decode cc pc = .ok (.if_icmp .ne off, 3)) (ht : (pc : Int) + off = (tgt : Int)) (hq : (if eq32 a b = true then P1 else P2) = some z) (k1 : P2 = some z → XG g d hp lv st tgt) (k2 : P1 = some z → XG g d hp lv st (pc + 3)) : XG g d hp lv (iV b :: iV a :: st) pc := by
  intro H locs ls h1 h2 h3
  refine lv_icmp_ne C.x C.b dg ht (fun h => ?_) (fun h => ?_)
  · refine (?_ : XG g d hp lv st tgt) H locs ls h1 h2 h3
    have e : ¬ (eq32 a b = true) := fun e => h ((eq32_i a b).mpr e)
    rw [if_neg e] at hq
    exact k1 hq
  · refine (?_ : XG g d hp lv st (pc + 3)) H locs ls h1 h2 h3
    have e : eq32 a b = true := (eq32_i a b).mp h
    rw [if_pos e] at hq
    exact k2 hq
theorem x_if_ne (C : CX g cc nL ret own) {a : Int} {off : Int} {tgt : Nat} {α : Type} {P1 P2 : Option α} {z : α} (dg : decode cc pc = .ok (.ifCond .ne off, 3)) (ht : (pc : Int) + off = (tgt : Int)) (hq : (if eq32 a 0 = true then P1 else P2) = some z) (k1 : P2 = some z → XG g d hp lv st tgt) (k2 : P1 = some z → XG g d hp lv st (pc + 3)) : XG g d hp lv (iV a :: st) pc := by
  intro H locs ls h1 h2 h3
  refine lv_if_ne C.x C.b dg ht (fun h => ?_) (fun h => ?_)
  · refine (?_ : XG g d hp lv st tgt) H locs ls h1 h2 h3
    have e : ¬ (eq32 a 0 = true) := fun e => h ((eq32_i a 0).mpr e)
    rw [if_neg e] at hq
    exact k1 hq
  · refine (?_ : XG g d hp lv st (pc + 3)) H locs ls h1 h2 h3
    have e : eq32 a 0 = true := (eq32_i a 0).mp h
    rw [if_pos e] at hq
    exact k2 hq
theorem x_iand (C : CX g cc nL ret own) {a b : Int} (dg : decode cc pc = .ok (.iand, 1)) (k : XG g d hp lv (iV (an32 a b) :: st) (pc + 1)) : XG g d hp lv (iV b :: iV a :: st) pc := fun H locs ls h1 h2 h3 => lv_iand C.x C.b dg (by have e := k H locs ls h1 h2 h3; unfold iV an32 at e; rw [ofInt_toInt] at e; exact e)
theorem x_ior (C : CX g cc nL ret own) {a b : Int} (dg : decode cc pc = .ok (.ior, 1)) (k : XG g d hp lv (iV (or32 a b) :: st) (pc + 1)) : XG g d hp lv (iV b :: iV a :: st) pc := fun H locs ls h1 h2 h3 => lv_ior C.x C.b dg (by have e := k H locs ls h1 h2 h3; unfold iV or32 at e; rw [ofInt_toInt] at e; exact e)
theorem x_ixor (C : CX g cc nL ret own) {a b : Int} (dg : decode cc pc = .ok (.ixor, 1)) (k : XG g d hp lv (iV (xo32 a b) :: st) (pc + 1)) : XG g d hp lv (iV b :: iV a :: st) pc := fun H locs ls h1 h2 h3 => lv_ixor C.x C.b dg (by have e := k H locs ls h1 h2 h3; unfold iV xo32 at e; rw [ofInt_toInt] at e; exact e)
theorem x_ishl (C : CX g cc nL ret own) {a b : Int} (dg : decode cc pc = .ok (.ishl, 1)) (k : XG g d hp lv (iV (sl32 a b) :: st) (pc + 1)) : XG g d hp lv (iV b :: iV a :: st) pc := fun H locs ls h1 h2 h3 => lv_ishl C.x C.b dg (by have e := k H locs ls h1 h2 h3; unfold iV sl32 at e; rw [ofInt_toInt] at e; exact e)
theorem x_ishr (C : CX g cc nL ret own) {a b : Int} (dg : decode cc pc = .ok (.ishr, 1)) (k : XG g d hp lv (iV (sr32 a b) :: st) (pc + 1)) : XG g d hp lv (iV b :: iV a :: st) pc := fun H locs ls h1 h2 h3 => lv_ishr C.x C.b dg (by have e := k H locs ls h1 h2 h3; unfold iV sr32 at e; rw [ofInt_toInt] at e; exact e)
theorem x_iushr (C : CX g cc nL ret own) {a b : Int} (dg : decode cc pc = .ok (.iushr, 1)) (k : XG g d hp lv (iV (us32 a b) :: st) (pc + 1)) : XG g d hp lv (iV b :: iV a :: st) pc := fun H locs ls h1 h2 h3 => lv_iushr C.x C.b dg rfl (by have e := k H locs ls h1 h2 h3; unfold iV us32 at e; rw [ofInt_toInt] at e; exact e)
theorem dv32_i (a b : Int) : Int32.ofInt a / Int32.ofInt b = Int32.ofInt (dv32 a b) := by
  rw [← Int32.toInt_inj, Int32.toInt_div, w32_toInt, w32_toInt, w32_toInt]; rfl
theorem x_idiv (C : CX g cc nL ret own) {a b : Int} (hne : eq32 b 0 = false) (dg : decode cc pc = .ok (.idiv, 1)) (k : XG g d hp lv (iV (dv32 a b) :: st) (pc + 1)) : XG g d hp lv (iV b :: iV a :: st) pc := fun H locs ls h1 h2 h3 => lv_idiv C.x C.b dg (fun e => absurd ((eq32_i b 0).mp e) (by rw [hne]; decide)) (by rw [dv32_i]; exact k H locs ls h1 h2 h3)
theorem x_irem (C : CX g cc nL ret own) {a b : Int} (hne : eq32 b 0 = false) (dg : decode cc pc = .ok (.irem, 1)) (k : XG g d hp lv (iV (rm32 a b) :: st) (pc + 1)) : XG g d hp lv (iV b :: iV a :: st) pc := fun H locs ls h1 h2 h3 => lv_irem C.x C.b dg (fun e => absurd ((eq32_i b 0).mp e) (by rw [hne]; decide)) (by
    have e := k H locs ls h1 h2 h3
    unfold iV rm32 at e
    rw [Int32.ofInt_sub, Int32.ofInt_mul, ofw32, ofw32, ← dv32_i] at e
    exact e)
theorem x_i2l (C : CX g cc nL ret own) {a : Int} (dg : decode cc pc = .ok (.i2l, 1)) (k : XG g d hp lv (jV (w32 a) :: st) (pc + 1)) : XG g d hp lv (iV a :: st) pc := fun H locs ls h1 h2 h3 => lv_i2l C.x C.b dg (i2l32 a) (k H locs ls h1 h2 h3)
theorem x_i2b (C : CX g cc nL ret own) {a : Int} (dg : decode cc pc = .ok (.i2b, 1)) (k : XG g d hp lv (iV (i8 a) :: st) (pc + 1)) : XG g d hp lv (iV a :: st) pc := fun H locs ls h1 h2 h3 => lv_i2b C.x C.b dg (i8_i a) (k H locs ls h1 h2 h3)
theorem x_dup (C : CX g cc nL ret own) {v : Value} (hv : v.category = 1) (dg : decode cc pc = .ok (.dup, 1)) (k : XG g d hp lv (v :: v :: st) (pc + 1)) : XG g d hp lv (v :: st) pc := fun H locs ls h1 h2 h3 => lv_dup C.x C.b dg hv (k H locs ls h1 h2 h3)
theorem x_dup2 (C : CX g cc nL ret own) {v u : Value} (hv : v.category = 1) (hu : u.category = 1) (dg : decode cc pc = .ok (.dup2, 1)) (k : XG g d hp lv (v :: u :: v :: u :: st) (pc + 1)) : XG g d hp lv (v :: u :: st) pc := fun H locs ls h1 h2 h3 => lv_dup2_11 C.x C.b dg hv hu (k H locs ls h1 h2 h3)
theorem x_lconst (C : CX g cc nL ret own) {n : Fin 2} (dg : decode cc pc = .ok (.lconst n, 1)) (k : XG g d hp lv (jV ((n : Nat) : Int) :: st) (pc + 1)) : XG g d hp lv st pc := fun H locs ls h1 h2 h3 => lv_lconst C.x C.b dg (by rw [← Int64.ofInt_eq_ofNat]) (k H locs ls h1 h2 h3)
theorem x_lload_n (C : CX g cc nL ret own) {f : Fin 4} {x : Int} (i : Nat) (dg : decode cc pc = .ok (.lload_n f, 1)) (hl : lv[i]? = some ((f : Nat), jV x)) (k : XG g d hp lv (jV x :: st) (pc + 1)) : XG g d hp lv st pc := fun H locs ls h1 h2 h3 => lv_lload_n C.x C.b dg rfl (lv_at h3 i hl) (k H locs ls h1 h2 h3)
theorem x_lload (C : CX g cc nL ret own) {f : Nat} {x : Int} (i : Nat) (dg : decode cc pc = .ok (.lload f, 2)) (hl : lv[i]? = some (f, jV x)) (k : XG g d hp lv (jV x :: st) (pc + 2)) : XG g d hp lv st pc := fun H locs ls h1 h2 h3 => lv_lload C.x C.b dg (lv_at h3 i hl) (k H locs ls h1 h2 h3)
theorem lcm64_i (a b : Int) : lg_cmp (Int64.ofInt a) (Int64.ofInt b) = Int32.ofInt (lcm64 a b) := by
  unfold lg_cmp lcm64
  simp only [gt_iff_lt, Int64.lt_iff_toInt_lt, ← Int64.toInt_inj, w64_toInt]
  by_cases h : w64 a < w64 b
  · rw [if_neg (by omega), if_neg (by omega), if_pos h]; rfl
  · by_cases h2 : w64 b < w64 a
    · rw [if_pos h2, if_neg h, if_pos h2]; rfl
    · rw [if_neg h2, if_pos (by omega), if_neg h, if_neg h2]; rfl
theorem x_lcmp (C : CX g cc nL ret own) {a b : Int} (dg : decode cc pc = .ok (.lcmp, 1)) (k : XG g d hp lv (iV (lcm64 a b) :: st) (pc + 1)) : XG g d hp lv (jV b :: jV a :: st) pc := fun H locs ls h1 h2 h3 => W.lcmp C.x C.b dg (by rw [lcm64_i]; exact k H locs ls h1 h2 h3)
end XB
/-! ===== further calls ===== -/
section XC7
variable {g : Cx} {d : Dl} {cc : ByteArray} {nL : Nat} {ret : Option FieldType} {own : String} {w : Wd} {lv : List (Nat × Value)} {st : List Value} {pc : Nat}
theorem x_callVv (C : CX g cc nL ret own) {rmO : Room} (hA : ∀ q : Nat, g.s.heap.size ≤ q → g.A q) (hR : g.R = rmO) {y : MethodName} {cc' : ByteArray} {nL' n index : Nat} {ret' : Option FieldType} {rm : Room} {o K : Nat} {T : u_T} {As rest stk : List Value} {α : Type} {pv : Option Wd} {Kt : Wd → Option α} {res : α}
    (hf : mfV y cc' nL' ret' n) (hlk : Cond.methodLink own index y ∈ lw_tg) (hcl : vwCl[K - 1]? = some (y.cls, T, nf (K - 1))) (hk : isK d.na g.dm K o) (hK : 0 < K ∧ K ≤ 10) (hrm : rm.cells = 0 ∧ rm.slots = 0) (hrr : rm.frames + 1 ≤ rmO.frames ∧ 8 + (nL' + 11) + rm.locals ≤ rmO.locals)
    (hst : stk = As.reverse ++ .ref (d.ad o) :: rest) (hn : As.length = n) (hro : (rest.map fun v => v.category).sum ≤ 8) (hce : d.ce ≤ g.R.cells ∧ d.so ≤ g.R.slots) (dg : decode cc pc = .ok (.invokevirtual index, 3))
    (hq : pv.bind Kt = some res) (hM : ∀ w', pv = some w' → mV g.l y cc' nL' ret' rm g.G g.dm d.na d.ad (.ref (d.ad o) :: As) w w')
    (k' : ∀ w', pv = some w' → Kt w' = some res → XG g d (hP g d w') lv rest (pc + 3)) : XG g d (hP g d w) lv stk pc := by
  intro H locs ls h1 h2 h3
  obtain ⟨w', hpv, hq⟩ := Option.bind_eq_some_iff.mp hq
  obtain ⟨f1, f2, f3, f4, f5, f6, f7⟩ := hf
  have hF := wdH.rg h1 h2 hA
  refine va_callv (va_runV (C := y.cls) (As := As) (rest := rest) ⟨C.x, C.b, C.ml, C.o, C.t⟩ (hM w' hpv H.size)
    ⟨callB_of n C.t (good_tg f4) rfl hrm.1 hrm.2 (C.t _ f3) (C.t _ hlk) ⟨f5, f6, f7⟩ (by rw [hR]; exact hrr), C.t _ f1, C.t _ f2⟩
    ⟨preS.blind, xrecv_of C h1 hk hK hcl, pre_of C h1⟩ rfl hn (by show ls.size = nL; rw [h3.1, C.n]) hst (lv_room hro) dg ⟨hce.1, hce.2⟩) h2 (fun q _ h => hF q h) hF (fun u t H1 locs1 ht hvm hw hB hz1 hk1 hS => ?_)
  have hB : wdH g.G g.dm d.na d.ad w' (rg g.dm d.na d.ad H.size) t.heap := hB
  rw [ht] at hB
  exact k' w' hpv hq H1 locs1 ls (hB.weaken hF) hS h3
theorem x_callSi (C : CX g cc nL ret own) {rmO : Room} (hA : ∀ q : Nat, g.s.heap.size ≤ q → g.A q) (hR : g.R = rmO) {y : MethodName} {cc' : ByteArray} {nL' n index : Nat} {ret' : Option FieldType} {rm : Room} {As rest stk : List Value} {α : Type} {pv : Option (Int × Wd)} {Kt : Int × Wd → Option α} {res : α}
    (hf : mfS y cc' nL' ret' n) (hlk : Cond.methodLink own index y ∈ lw_tg) (hrm : rm.cells = 0 ∧ rm.slots = 0) (hrr : rm.frames + 1 ≤ rmO.frames ∧ 8 + (nL' + 11) + rm.locals ≤ rmO.locals)
    (hst : stk = As.reverse ++ rest) (hn : As.length = n) (hro : (rest.map fun v => v.category).sum ≤ 8) (hce : d.ce ≤ g.R.cells ∧ d.so ≤ g.R.slots) (dg : decode cc pc = .ok (.invokestatic index, 3))
    (hq : pv.bind Kt = some res) (hM : ∀ r w', pv = some (r, w') → mI g.l y cc' nL' ret' rm g.G g.dm d.na d.ad As w r w')
    (k' : ∀ r w', pv = some (r, w') → Kt (r, w') = some res → XG g d (hP g d w') lv (iV r :: rest) (pc + 3)) : XG g d (hP g d w) lv stk pc := by
  intro H locs ls h1 h2 h3
  obtain ⟨⟨r, w'⟩, hpv, hq⟩ := Option.bind_eq_some_iff.mp hq
  obtain ⟨f1, f3, f4, f5, f6, f7⟩ := hf
  have hF := wdH.rg h1 h2 hA
  refine va_calli (va_runS (As := As) (rest := rest) ⟨C.x, C.b, C.ml, C.o, C.t⟩ (hM r w' hpv H.size)
    ⟨callB_of n C.t (good_tg f4) rfl hrm.1 hrm.2 (C.t _ f3) (C.t _ hlk) ⟨f5, f6, f7⟩ (by rw [hR]; exact hrr), C.t _ f1⟩
    ⟨preS.blind, pre_of C h1⟩ rfl hn (by show ls.size = nL; rw [h3.1, C.n]) hst (lv_room hro) dg ⟨hce.1, hce.2⟩) h2 (fun q _ h => hF q h) hF (fun v u t H1 locs1 ht hvm hw hB hz1 hk1 hS => ?_)
  have hB : wdH g.G g.dm d.na d.ad w' (rg g.dm d.na d.ad H.size) t.heap := hB
  rw [ht] at hB
  rw [hw]
  exact k' r w' hpv hq H1 locs1 ls (hB.weaken hF) hS h3
theorem x_callSv (C : CX g cc nL ret own) {rmO : Room} (hA : ∀ q : Nat, g.s.heap.size ≤ q → g.A q) (hR : g.R = rmO) {y : MethodName} {cc' : ByteArray} {nL' n index : Nat} {ret' : Option FieldType} {rm : Room} {As rest stk : List Value} {α : Type} {pv : Option Wd} {Kt : Wd → Option α} {res : α}
    (hf : mfS y cc' nL' ret' n) (hlk : Cond.methodLink own index y ∈ lw_tg) (hrm : rm.cells = 0 ∧ rm.slots = 0) (hrr : rm.frames + 1 ≤ rmO.frames ∧ 8 + (nL' + 11) + rm.locals ≤ rmO.locals)
    (hst : stk = As.reverse ++ rest) (hn : As.length = n) (hro : (rest.map fun v => v.category).sum ≤ 8) (hce : d.ce ≤ g.R.cells ∧ d.so ≤ g.R.slots) (dg : decode cc pc = .ok (.invokestatic index, 3))
    (hq : pv.bind Kt = some res) (hM : ∀ w', pv = some w' → mV g.l y cc' nL' ret' rm g.G g.dm d.na d.ad As w w')
    (k' : ∀ w', pv = some w' → Kt w' = some res → XG g d (hP g d w') lv rest (pc + 3)) : XG g d (hP g d w) lv stk pc := by
  intro H locs ls h1 h2 h3
  obtain ⟨w', hpv, hq⟩ := Option.bind_eq_some_iff.mp hq
  obtain ⟨f1, f3, f4, f5, f6, f7⟩ := hf
  have hF := wdH.rg h1 h2 hA
  refine va_callv (va_runS (As := As) (rest := rest) ⟨C.x, C.b, C.ml, C.o, C.t⟩ (hM w' hpv H.size)
    ⟨callB_of n C.t (good_tg f4) rfl hrm.1 hrm.2 (C.t _ f3) (C.t _ hlk) ⟨f5, f6, f7⟩ (by rw [hR]; exact hrr), C.t _ f1⟩
    ⟨preS.blind, pre_of C h1⟩ rfl hn (by show ls.size = nL; rw [h3.1, C.n]) hst (lv_room hro) dg ⟨hce.1, hce.2⟩) h2 (fun q _ h => hF q h) hF (fun u t H1 locs1 ht hvm hw hB hz1 hk1 hS => ?_)
  have hB : wdH g.G g.dm d.na d.ad w' (rg g.dm d.na d.ad H.size) t.heap := hB
  rw [ht] at hB
  exact k' w' hpv hq H1 locs1 ls (hB.weaken hF) hS h3
theorem x_callVf (C : CX g cc nL ret own) {rmO : Room} (hA : ∀ q : Nat, g.s.heap.size ≤ q → g.A q) (hR : g.R = rmO) {y : MethodName} {cc' : ByteArray} {nL' n index : Nat} {ret' : Option FieldType} {rm : Room} {o K : Nat} {T : u_T} {As rest stk : List Value} {α : Type} {pv : Option (UInt32 × Wd)} {Kt : UInt32 × Wd → Option α} {res : α}
    (hf : mfV y cc' nL' ret' n) (hlk : Cond.methodLink own index y ∈ lw_tg) (hcl : vwCl[K - 1]? = some (y.cls, T, nf (K - 1))) (hk : isK d.na g.dm K o) (hK : 0 < K ∧ K ≤ 10) (hrm : rm.cells = 0 ∧ rm.slots = 0) (hrr : rm.frames + 1 ≤ rmO.frames ∧ 8 + (nL' + 11) + rm.locals ≤ rmO.locals)
    (hst : stk = As.reverse ++ .ref (d.ad o) :: rest) (hn : As.length = n) (hro : (rest.map fun v => v.category).sum ≤ 8) (hce : d.ce ≤ g.R.cells ∧ d.so ≤ g.R.slots) (dg : decode cc pc = .ok (.invokevirtual index, 3))
    (hq : pv.bind Kt = some res) (hM : ∀ r w', pv = some (r, w') → mF g.l y cc' nL' ret' rm g.G g.dm d.na d.ad (.ref (d.ad o) :: As) w r w')
    (k' : ∀ r w', pv = some (r, w') → Kt (r, w') = some res → XG g d (hP g d w') lv (.float r :: rest) (pc + 3)) : XG g d (hP g d w) lv stk pc := by
  intro H locs ls h1 h2 h3
  obtain ⟨⟨r, w'⟩, hpv, hq⟩ := Option.bind_eq_some_iff.mp hq
  obtain ⟨f1, f2, f3, f4, f5, f6, f7⟩ := hf
  have hF := wdH.rg h1 h2 hA
  refine va_callf (va_runV (C := y.cls) (As := As) (rest := rest) ⟨C.x, C.b, C.ml, C.o, C.t⟩ (hM r w' hpv H.size)
    ⟨callB_of n C.t (good_tg f4) rfl hrm.1 hrm.2 (C.t _ f3) (C.t _ hlk) ⟨f5, f6, f7⟩ (by rw [hR]; exact hrr), C.t _ f1, C.t _ f2⟩
    ⟨preS.blind, xrecv_of C h1 hk hK hcl, pre_of C h1⟩ rfl hn (by show ls.size = nL; rw [h3.1, C.n]) hst (lv_room hro) dg ⟨hce.1, hce.2⟩) h2 (fun q _ h => hF q h) hF (fun v u t H1 locs1 ht hvm hw hB hz1 hk1 hS => ?_)
  have hB : wdH g.G g.dm d.na d.ad w' (rg g.dm d.na d.ad H.size) t.heap := hB
  rw [ht] at hB
  rw [hw]
  exact k' r w' hpv hq H1 locs1 ls (hB.weaken hF) hS h3
theorem x_callVd (C : CX g cc nL ret own) {rmO : Room} (hA : ∀ q : Nat, g.s.heap.size ≤ q → g.A q) (hR : g.R = rmO) {y : MethodName} {cc' : ByteArray} {nL' n index : Nat} {ret' : Option FieldType} {rm : Room} {o K : Nat} {T : u_T} {As rest stk : List Value} {α : Type} {pv : Option (UInt64 × Wd)} {Kt : UInt64 × Wd → Option α} {res : α}
    (hf : mfV y cc' nL' ret' n) (hlk : Cond.methodLink own index y ∈ lw_tg) (hcl : vwCl[K - 1]? = some (y.cls, T, nf (K - 1))) (hk : isK d.na g.dm K o) (hK : 0 < K ∧ K ≤ 10) (hrm : rm.cells = 0 ∧ rm.slots = 0) (hrr : rm.frames + 1 ≤ rmO.frames ∧ 8 + (nL' + 11) + rm.locals ≤ rmO.locals)
    (hst : stk = As.reverse ++ .ref (d.ad o) :: rest) (hn : As.length = n) (hro : (rest.map fun v => v.category).sum ≤ 8) (hce : d.ce ≤ g.R.cells ∧ d.so ≤ g.R.slots) (dg : decode cc pc = .ok (.invokevirtual index, 3))
    (hq : pv.bind Kt = some res) (hM : ∀ r w', pv = some (r, w') → mD g.l y cc' nL' ret' rm g.G g.dm d.na d.ad (.ref (d.ad o) :: As) w r w')
    (k' : ∀ r w', pv = some (r, w') → Kt (r, w') = some res → XG g d (hP g d w') lv (.double r :: rest) (pc + 3)) : XG g d (hP g d w) lv stk pc := by
  intro H locs ls h1 h2 h3
  obtain ⟨⟨r, w'⟩, hpv, hq⟩ := Option.bind_eq_some_iff.mp hq
  obtain ⟨f1, f2, f3, f4, f5, f6, f7⟩ := hf
  have hF := wdH.rg h1 h2 hA
  refine va_calld (va_runV (C := y.cls) (As := As) (rest := rest) ⟨C.x, C.b, C.ml, C.o, C.t⟩ (hM r w' hpv H.size)
    ⟨callB_of n C.t (good_tg f4) rfl hrm.1 hrm.2 (C.t _ f3) (C.t _ hlk) ⟨f5, f6, f7⟩ (by rw [hR]; exact hrr), C.t _ f1, C.t _ f2⟩
    ⟨preS.blind, xrecv_of C h1 hk hK hcl, pre_of C h1⟩ rfl hn (by show ls.size = nL; rw [h3.1, C.n]) hst (lv_room hro) dg ⟨hce.1, hce.2⟩) h2 (fun q _ h => hF q h) hF (fun v u t H1 locs1 ht hvm hw hB hz1 hk1 hS => ?_)
  have hB : wdH g.G g.dm d.na d.ad w' (rg g.dm d.na d.ad H.size) t.heap := hB
  rw [ht] at hB
  rw [hw]
  exact k' r w' hpv hq H1 locs1 ls (hB.weaken hF) hS h3

theorem mx32_i (a b : Int) : (if Int32.ofInt a < Int32.ofInt b then Int32.ofInt b else Int32.ofInt a) = Int32.ofInt (mx32 a b) := by
  unfold mx32
  by_cases h : Int32.ofInt a < Int32.ofInt b
  · rw [if_pos h, if_pos ((lt32_i a b).mp h)]
  · rw [if_neg h, if_neg (fun e => h ((lt32_i a b).mpr e))]
theorem mn32_i (a b : Int) : (if Int32.ofInt b < Int32.ofInt a then Int32.ofInt b else Int32.ofInt a) = Int32.ofInt (mn32 a b) := by
  unfold mn32
  by_cases h : Int32.ofInt b < Int32.ofInt a
  · rw [if_pos h, if_pos ((lt32_i b a).mp h)]
  · rw [if_neg h, if_neg (fun e => h ((lt32_i b a).mpr e))]
theorem x_max (C : CX g cc nL ret own) {rmO : Room} (hR : g.R = rmO) {hp : Heap → Prop} {index : Nat} {a b : Int} (hlk : Cond.methodLink own index Lib.Math.max.name ∈ lw_tg) (hs : Cond.static Lib.Math.max.name ∈ lw_tg) (hi : Cond.initialized "java/lang/Math" ∈ lw_tg) (hcd : Cond.code Lib.Math.max.name Lib.Math.max.code 2 (some .int) ∈ lw_tg)
    (hrr : 1 ≤ rmO.frames ∧ (st.map fun v => v.category).sum + 13 ≤ rmO.locals) (hce : d.ce ≤ g.R.cells ∧ d.so ≤ g.R.slots) (dg : decode cc pc = .ok (.invokestatic index, 3)) (k : XG g d hp lv (iV (mx32 a b) :: st) (pc + 3)) : XG g d hp lv (iV b :: iV a :: st) pc :=
  fun H locs ls h1 h2 h3 => va_mmax C.x C.b (by rw [C.ml, h3.1, C.n]) C.o (C.t _ hlk) (C.t _ hs) (C.t _ hi) (C.t _ hcd) (by rw [hR]; exact hrr.1) (by rw [hR]; exact hrr.2) hce.1 hce.2 dg (by rw [mx32_i]; exact k H locs ls h1 h2 h3)
theorem x_min (C : CX g cc nL ret own) {rmO : Room} (hR : g.R = rmO) {hp : Heap → Prop} {index : Nat} {a b : Int} (hlk : Cond.methodLink own index Lib.Math.min.name ∈ lw_tg) (hs : Cond.static Lib.Math.min.name ∈ lw_tg) (hi : Cond.initialized "java/lang/Math" ∈ lw_tg) (hcd : Cond.code Lib.Math.min.name Lib.Math.min.code 2 (some .int) ∈ lw_tg)
    (hrr : 1 ≤ rmO.frames ∧ (st.map fun v => v.category).sum + 13 ≤ rmO.locals) (hce : d.ce ≤ g.R.cells ∧ d.so ≤ g.R.slots) (dg : decode cc pc = .ok (.invokestatic index, 3)) (k : XG g d hp lv (iV (mn32 a b) :: st) (pc + 3)) : XG g d hp lv (iV b :: iV a :: st) pc :=
  fun H locs ls h1 h2 h3 => va_mmin C.x C.b (by rw [C.ml, h3.1, C.n]) C.o (C.t _ hlk) (C.t _ hs) (C.t _ hi) (C.t _ hcd) (by rw [hR]; exact hrr.1) (by rw [hR]; exact hrr.2) hce.1 hce.2 dg (by rw [mn32_i]; exact k H locs ls h1 h2 h3)
theorem isK_lit {na dm K o : Nat} (hd : g.dm = dm) (h1 : kd na o = K) (h2 : dmo o = dm) : isK na g.dm K o := ⟨h1, by rw [hd]; exact h2⟩
end XC7
