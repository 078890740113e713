/-! ===== the pure side: what a call owes ===== -/
theorem lcm64_self (a : Int) : lcm64 a a = 0 := by
  unfold lcm64; rw [if_neg (Int.lt_irrefl _), if_neg (Int.lt_irrefl _)]
theorem eq32_self (a : Int) : eq32 a a = true := decide_eq_true rfl
theorem e00 : eq32 0 0 = true := by decide +kernel
theorem e10 : ¬ eq32 1 0 = true := by decide +kernel
theorem e20 : ¬ eq32 2 0 = true := by decide +kernel
theorem thrown_eq {w : Wd} : p_X9_thrown w = some (gF w 50 0, w) := rfl
/-- a call through a wrapper: both sides end, with the same exception number, and with the same answer if there is none -/
theorem wop {P : Nat × Wd × Wd → Prop} {pL : Option (Int × Nat × Wd)} {pM : Option (Int × Wd)} {c : Int} {na' : Nat} {wC' : Wd} {r : Int} {wM' : Wd}
    (hL : pL = some (c, na', wC')) (hM : pM = some (r, wM')) (ht : gF wM' 50 0 = c) (hc : c = 0 ∨ c = 1 ∨ c = 2) (hv : c = 0 → gA wC' 34 0 = w32 r) (hP : P (na', wC', wM')) :
    ∃ z, (pL.bind fun z1 => pM.bind fun m3 => (p_X9_thrown m3.2).bind fun m4 => if eq32 m4.1 z1.1 = true then (if eq32 z1.1 0 = true then (if eq32 (lcm64 (gA z1.2.2 34 0) (w32 m3.1)) 0 = true then (some (z1.2.1, z1.2.2, m4.2)) else (none)) else (some (z1.2.1, z1.2.2, m4.2))) else (none)) = some z ∧ P z := by
  refine ⟨_, ?_, hP⟩
  rw [hL, hM, Option.bind_some, Option.bind_some, thrown_eq, Option.bind_some]
  show (if eq32 (gF wM' 50 0) c = true then _ else _) = _
  rw [ht, if_pos (eq32_self c)]
  rcases hc with rfl | rfl | rfl
  · refine (if_pos e00).trans ?_
    show (if eq32 (lcm64 (gA wC' 34 0) (w32 r)) 0 = true then _ else _) = _
    rw [hv rfl, lcm64_self]
    exact if_pos e00
  · exact if_neg e10
  · exact if_neg e20
/-- a wrapper's own end -/
theorem wrap_l {p8 : Option Rz} {h : Nat → Option Int} {f : Int → Wd → Wd} {r : Int} {na' : Nat} {wC' : Wd} (h8 : p8 = some (.inl r, na', wC')) : p8.bind (wrL h f) = some (0, na', f r wC') := by
  rw [h8]; rfl
theorem wrap_r {p8 : Option Rz} {h : Nat → Option Int} {f : Int → Wd → Wd} {k : Nat} {c : Int} {na' : Nat} {wC' : Wd} (h8 : p8 = some (.inr k, na', wC')) (hk : h k = some c) : p8.bind (wrL h f) = some (c, na', wC') := by
  rw [h8]
  show (h k).map (fun c => (c, na', wC')) = _
  rw [hk]; rfl
/-- a call without a wrapper -/
theorem dop {P : Nat × Wd × Wd → Prop} {p8 pM : Option (Int × Wd)} {na : Nat} {r : Int} {wC' wM' : Wd} (h8 : p8 = some (r, wC')) (hM : pM = some (r, wM')) (hP : P (na, wC', wM')) :
    ∃ z, (p8.bind fun m1 => pM.bind fun m2 => if eq32 m1.1 m2.1 = true then (some (na, m1.2, m2.2)) else (none)) = some z ∧ P z := by
  refine ⟨_, ?_, hP⟩
  rw [h8, hM, Option.bind_some, Option.bind_some]
  show (if eq32 r r = true then _ else _) = _
  rw [if_pos (eq32_self r)]
