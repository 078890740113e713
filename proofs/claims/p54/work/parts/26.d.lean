/-! ===== the pure side: numbers that are in range, answers 0 and 1, sums, loops, frames ===== -/
theorem lt32_o {a b : Int} (h : -2147483648 ≤ a ∧ a < 2147483648 ∧ -2147483648 ≤ b ∧ b < 2147483648) : (lt32 a b = true) = (a < b) := by
  rw [lt32_r ⟨h.1, h.2.1⟩ ⟨h.2.2.1, h.2.2.2⟩, decide_eq_true_eq]
theorem eq32_o {a b : Int} (h : -2147483648 ≤ a ∧ a < 2147483648 ∧ -2147483648 ≤ b ∧ b < 2147483648) : (eq32 a b = true) = (a = b) := by
  rw [eq32_r ⟨h.1, h.2.1⟩ ⟨h.2.2.1, h.2.2.2⟩, decide_eq_true_eq]
theorem mn32_o {a b : Int} (h : -2147483648 ≤ a ∧ a < 2147483648 ∧ -2147483648 ≤ b ∧ b < 2147483648) : mn32 a b = min a b := by
  rw [mn32_r ⟨h.1, h.2.1⟩ ⟨h.2.2.1, h.2.2.2⟩]; split <;> omega
theorem mx32_o {a b : Int} (h : -2147483648 ≤ a ∧ a < 2147483648 ∧ -2147483648 ≤ b ∧ b < 2147483648) : mx32 a b = max a b := by
  rw [mx32_r ⟨h.1, h.2.1⟩ ⟨h.2.2.1, h.2.2.2⟩]; split <;> omega
theorem w32_o {x : Int} (h : -2147483648 ≤ x ∧ x < 2147483648) : w32 x = x := w32_id h.1 h.2
theorem inb_f {i : Int} {n : Nat} (h : 0 ≤ i ∧ i < n) : (inb i n = false) = False := by
  rw [inb_t h]; exact eq_false (by decide)
theorem dv2_o {a : Int} (h : 0 ≤ a ∧ a < 2147483648) : dv32 a 2 = a / 2 := by
  unfold dv32
  rw [w32_id (by omega) h.2, w32_id (by decide) (by decide)]
  exact Int.tdiv_eq_ediv_of_nonneg h.1
/-- an answer of two -/
def b2 (b : Bool) : Int := if b then 1 else 0
theorem b2_t : b2 true = 1 := rfl
theorem b2_f : b2 false = 0 := rfl
theorem eq32_b2 (b : Bool) : (eq32 (b2 b) 0 = true) = (b = false) := by
  cases b
  · exact propext ⟨fun _ => rfl, fun _ => by decide +kernel⟩
  · exact propext ⟨fun h => absurd h (by decide +kernel), fun h => absurd h (by decide)⟩
theorem eq32_b2n {p : Bool} : eq32 (b2 p) 0 = !p := by
  cases p <;> decide +kernel
theorem b2_rng (b : Bool) : 0 ≤ b2 b ∧ b2 b ≤ 1 := by cases b <;> decide
theorem b2_w {b : Bool} : w32 (b2 b) = b2 b := w32_id (by have := b2_rng b; omega) (by have := b2_rng b; omega)
theorem zr_b2 (b : Bool) (w : Wd) : zr (b2 b) w = some (b2 b, w) := by cases b <;> rfl
theorem zrG_b2 (b : Bool) (na : Nat) (w : Wd) : zrG (b2 b) na w = some (Sum.inl (b2 b), na, w) := by cases b <;> rfl
theorem in_o {x lo hi : Int} {w : Wd} (h : -9223372036854775808 ≤ x ∧ x < 9223372036854775808 ∧ -9223372036854775808 ≤ lo ∧ lo < 9223372036854775808 ∧ -9223372036854775808 ≤ hi ∧ hi < 9223372036854775808) :
    p_X9_in x lo hi w = some (b2 (decide (lo ≤ x ∧ x ≤ hi)), w) := by
  unfold p_X9_in lcm64
  rw [w64_id h.1 h.2.1, w64_id h.2.2.1 h.2.2.2.1, w64_id h.2.2.2.2.1 h.2.2.2.2.2]
  by_cases c1 : x < lo
  · rw [if_pos c1, if_pos (by decide +kernel), decide_eq_false (by omega)]; rfl
  · rw [if_neg c1]
    rw [if_neg (show ¬ lt32 (if lo < x then 1 else 0) 0 = true by split <;> decide +kernel)]
    by_cases c2 : hi < x
    · rw [if_neg (show ¬ x < hi by omega), if_pos c2, if_pos (by decide +kernel), decide_eq_false (by omega)]; rfl
    · rw [if_neg (show ¬ lt32 0 (if x < hi then -1 else if hi < x then 1 else 0) = true by
        rw [if_neg c2]; split <;> decide +kernel), decide_eq_true (by omega)]; rfl
theorem p26 {s : Int} {w : Wd} : p_X9_passes3_26 s w = if eq32 s 0 = true then some (1, sF w 50 0 s) else some (0, sF w 50 0 s) := by
  unfold p_X9_passes3_26; rw [show gF (sF w 50 0 s) 50 0 = s from rfl]
theorem e30 : ¬ eq32 3 0 = true := by decide +kernel
theorem passes_o {p : Bool} {w : Wd} : p_X9_passes (b2 p) w = some (b2 p, sF w 50 0 (b2 (!p))) := by
  unfold p_X9_passes p_X9_passes3
  cases p
  · rw [if_pos (show eq32 (b2 false) 0 = true by decide +kernel), p26, if_neg e10]; rfl
  · rw [if_neg (show ¬ eq32 (b2 true) 0 = true by decide +kernel), if_neg e10, if_neg e10, p26, if_pos e00]; rfl
theorem passes2_o {p q : Bool} {w : Wd} : p_X9_passes2 (b2 p) (b2 q) w = some (b2 (p && q), sF w 50 0 (if p then (if q then 0 else 2) else 1)) := by
  unfold p_X9_passes2 p_X9_passes3
  cases p
  · rw [if_pos (show eq32 (b2 false) 0 = true by decide +kernel), p26, if_neg e10]; rfl
  · rw [if_neg (show ¬ eq32 (b2 true) 0 = true by decide +kernel)]
    cases q
    · rw [if_pos (show eq32 (b2 false) 0 = true by decide +kernel), p26, if_neg e20]; rfl
    · rw [if_neg (show ¬ eq32 (b2 true) 0 = true by decide +kernel), if_neg e10, p26, if_pos e00]; rfl
theorem passes2_l {q : Bool} {w : Wd} : p_X9_passes2 1 (b2 q) w = some (b2 q, sF w 50 0 (if q then 0 else 2)) := passes2_o (p := true)
theorem passes2_r {p : Bool} {w : Wd} : p_X9_passes2 (b2 p) 1 w = some (b2 p, sF w 50 0 (b2 (!p))) := by
  have h := passes2_o (p := p) (q := true) (w := w)
  rw [b2_t] at h
  rw [h]; cases p <;> rfl
theorem bfF {b : Bool} (h : ¬ b = true) : b = false := by cases b with | false => rfl | true => exact absurd rfl h
theorem FU_s : ∃ q, FU = q + 1 ∧ 900000 ≤ q := ⟨999999, rfl, by decide⟩
/-! sums -/
def sm (g : Int → Int) : Nat → Int
  | 0 => 0
  | n + 1 => sm g n + g n
theorem sm_step {g : Int → Int} {x : Int} (h : 0 ≤ x) : sm g (x + 1).toNat = sm g x.toNat + g x := by
  have e : (x + 1).toNat = x.toNat + 1 := by omega
  rw [e]
  show sm g x.toNat + g (x.toNat : Int) = _
  rw [Int.toNat_of_nonneg h]
theorem sm_congr {g g' : Int → Int} : ∀ n : Nat, (∀ i : Int, 0 ≤ i → i < n → g i = g' i) → sm g n = sm g' n := by
  intro n
  induction n with
  | zero => intro _; rfl
  | succ n ih =>
    intro h
    show sm g n + g n = sm g' n + g' n
    rw [ih (fun i h1 h2 => h i h1 (by omega)), h n (by omega) (by omega)]
theorem sm_nonneg {g : Int → Int} : ∀ n : Nat, (∀ i : Int, 0 ≤ i → i < n → 0 ≤ g i) → 0 ≤ sm g n := by
  intro n
  induction n with
  | zero => intro _; exact Int.le_refl _
  | succ n ih =>
    intro h
    have h1 := ih (fun i h1 h2 => h i h1 (by omega))
    have h2 := h n (by omega) (by omega)
    show 0 ≤ sm g n + g n
    omega
theorem sm_mono {g : Int → Int} {m : Nat} : ∀ n : Nat, m ≤ n → (∀ i : Int, 0 ≤ i → i < n → 0 ≤ g i) → sm g m ≤ sm g n := by
  intro n
  induction n with
  | zero => intro h _; rw [show m = 0 by omega]; exact Int.le_refl _
  | succ n ih =>
    intro hm h
    by_cases c : m = n + 1
    · rw [c]; exact Int.le_refl _
    · have h1 := ih (by omega) (fun i h1 h2 => h i h1 (by omega))
      have h2 := h n (by omega) (by omega)
      show sm g m ≤ sm g n + g n
      omega
theorem sm_le {g : Int → Int} {c : Int} : ∀ n : Nat, (∀ i : Int, 0 ≤ i → i < n → g i ≤ c) → sm g n ≤ c * n := by
  intro n
  induction n with
  | zero => intro _; show (0 : Int) ≤ c * ((0 : Nat) : Int); omega
  | succ n ih =>
    intro h
    have h1 := ih (fun i h1 h2 => h i h1 (by omega))
    have h2 := h n (by omega) (by omega)
    show sm g n + g n ≤ c * ((n + 1 : Nat) : Int)
    rw [Int.natCast_add, Int.mul_add]
    omega
theorem sm_ge {g : Int → Int} : ∀ n : Nat, (∀ i : Int, 0 ≤ i → i < n → 1 ≤ g i) → (n : Int) ≤ sm g n := by
  intro n
  induction n with
  | zero => intro _; exact Int.le_refl _
  | succ n ih =>
    intro h
    have h1 := ih (fun i h1 h2 => h i h1 (by omega))
    have h2 := h n (by omega) (by omega)
    show ((n + 1 : Nat) : Int) ≤ sm g n + g n
    omega
theorem sum_loop {lp : Nat → Int → Int → Option (Int × Wd)} {g : Int → Int} {b : Int} {w : Wd}
    (hs : ∀ (n : Nat) (x s : Int), 0 ≤ x → x < b → lp (n + 1) x s = lp n (x + 1) (s + g x)) (he : ∀ (n : Nat) (x s : Int), x = b → lp (n + 1) x s = some (s, w)) :
    ∀ (n : Nat) (x s : Int), 0 ≤ x → x ≤ b → b - x < n → lp n x s = some (s + (sm g b.toNat - sm g x.toNat), w) := by
  intro n
  induction n with
  | zero => intro x s h0 h1 h2; exact absurd h2 (by omega)
  | succ n ih =>
    intro x s h0 h1 h2
    by_cases c : x = b
    · rw [he n x s c, c]; exact congrArg some (Prod.ext (by show s = s + (_ - _); omega) rfl)
    · rw [hs n x s h0 (by omega), ih (x + 1) (s + g x) (by omega) (by omega) (by omega), sm_step h0]
      exact congrArg some (Prod.ext (by show s + g x + (_ - (_ + _)) = s + (_ - _); omega) rfl)
/-- all of so many from x on -/
def allb (p : Int → Bool) : Nat → Int → Bool
  | 0, _ => true
  | n + 1, x => p x && allb p n (x + 1)
theorem allb_iff {p : Int → Bool} : ∀ (n : Nat) (x : Int), allb p n x = true ↔ ∀ i, x ≤ i → i < x + n → p i = true := by
  intro n
  induction n with
  | zero => intro x; exact ⟨fun _ i h1 h2 => absurd h2 (by omega), fun _ => rfl⟩
  | succ n ih =>
    intro x
    show (p x && allb p n (x + 1)) = true ↔ _
    rw [Bool.and_eq_true, ih]
    constructor
    · rintro ⟨h1, h2⟩ i h3 h4
      by_cases c : i = x
      · rw [c]; exact h1
      · exact h2 i (by omega) (by omega)
    · intro h
      exact ⟨h x (by omega) (by omega), fun i h3 h4 => h i (by omega) (by omega)⟩
/-- the first of so many from x on; else -1 -/
def fnd (p : Int → Bool) : Nat → Int → Int
  | 0, _ => -1
  | n + 1, x => if p x then x else fnd p n (x + 1)
theorem fnd_spec {p : Int → Bool} : ∀ (n : Nat) (x : Int), (fnd p n x = -1 ∧ ∀ i, x ≤ i → i < x + n → p i = false) ∨ (x ≤ fnd p n x ∧ fnd p n x < x + n ∧ p (fnd p n x) = true) := by
  intro n
  induction n with
  | zero => intro x; exact Or.inl ⟨rfl, fun i h1 h2 => absurd h2 (by omega)⟩
  | succ n ih =>
    intro x
    show (((if p x then x else fnd p n (x + 1)) = -1 ∧ _) ∨ (x ≤ (if p x then x else fnd p n (x + 1)) ∧ (if p x then x else fnd p n (x + 1)) < _ ∧ p (if p x then x else fnd p n (x + 1)) = true))
    by_cases c : p x = true
    · rw [if_pos c]; exact Or.inr ⟨by omega, by omega, c⟩
    · rw [if_neg c]
      rcases ih (x + 1) with ⟨h1, h2⟩ | ⟨h1, h2, h3⟩
      · refine Or.inl ⟨h1, fun i h3 h4 => ?_⟩
        by_cases c2 : i = x
        · rw [c2]; exact bfF c
        · exact h2 i (by omega) (by omega)
      · exact Or.inr ⟨by omega, by omega, h3⟩
theorem fnd_congr {p q : Int → Bool} : ∀ (n : Nat) (x : Int), (∀ i, x ≤ i → i < x + n → p i = q i) → fnd p n x = fnd q n x := by
  intro n
  induction n with
  | zero => intro x _; rfl
  | succ n ih =>
    intro x h
    show (if p x then x else fnd p n (x + 1)) = (if q x then x else fnd q n (x + 1))
    rw [h x (by omega) (by omega), ih (x + 1) (fun i h1 h2 => h i (by omega) (by omega))]
/-- loops, by what holds ahead of each turn -/
theorem loop_up {α σ : Type} {lp : Nat → Int → σ → α} {fin : σ → α} {b : Int} {I : Int → σ → Prop}
    (hs : ∀ (n : Nat) (x : Int) (s : σ), x < b → I x s → ∃ s', lp (n + 1) x s = lp n (x + 1) s' ∧ I (x + 1) s')
    (he : ∀ (n : Nat) (s : σ), I b s → lp (n + 1) b s = fin s) :
    ∀ (n : Nat) (x : Int) (s : σ), x ≤ b → I x s → b - x < n → ∃ s', lp n x s = fin s' ∧ I b s' := by
  intro n
  induction n with
  | zero => intro x s h0 _ h2; exact absurd h2 (by omega)
  | succ n ih =>
    intro x s h0 hI h2
    by_cases c : x = b
    · subst c; exact ⟨s, he n s hI, hI⟩
    · obtain ⟨s', h3, h4⟩ := hs n x s (by omega) hI
      obtain ⟨s2, h5, h6⟩ := ih (x + 1) s' (by omega) h4 (by omega)
      exact ⟨s2, h3.trans h5, h6⟩
/-- downwards -/
theorem loop_dn {α σ : Type} {lp : Nat → Int → σ → α} {fin : σ → α} {b : Int} {I : Int → σ → Prop}
    (hs : ∀ (n : Nat) (x : Int) (s : σ), b ≤ x → I x s → ∃ s', lp (n + 1) x s = lp n (x - 1) s' ∧ I (x - 1) s')
    (he : ∀ (n : Nat) (s : σ), I (b - 1) s → lp (n + 1) (b - 1) s = fin s) :
    ∀ (n : Nat) (x : Int) (s : σ), b - 1 ≤ x → I x s → x - b + 1 < n → ∃ s', lp n x s = fin s' ∧ I (b - 1) s' := by
  intro n
  induction n with
  | zero => intro x s h0 _ h2; exact absurd h2 (by omega)
  | succ n ih =>
    intro x s h0 hI h2
    by_cases c : x = b - 1
    · subst c; exact ⟨s, he n s hI, hI⟩
    · obtain ⟨s', h3, h4⟩ := hs n x s (by omega) hI
      obtain ⟨s2, h5, h6⟩ := ih (x - 1) s' (by omega) h4 (by omega)
      exact ⟨s2, h3.trans h5, h6⟩
/-- a loop that copies from array to array -/
theorem cp_loop {α : Type} {lp : Nat → Int → Wd → α} {fin : Wd → α} {dst src : Nat} {od os b : Int} {w : Wd} (hne : src ≠ dst)
    (hs : ∀ (n : Nat) (x : Int) (f : Int → Int), 0 ≤ x → x < b → lp (n + 1) x (setR w dst f) = lp n (x + 1) (sA (setR w dst f) dst (od + x) (gA (setR w dst f) src (os + x))))
    (he : ∀ (n : Nat) (f : Int → Int), lp (n + 1) b (setR w dst f) = fin (setR w dst f)) (n : Nat) (hb : 0 ≤ b) (hn : b < n) :
    lp n 0 w = fin (setR w dst (fun j => if od ≤ j ∧ j < od + b then gA w src (os + (j - od)) else gA w dst j)) := by
  have h := loop_up (lp := lp) (fin := fin) (b := b) (I := fun x w' => 0 ≤ x ∧ w' = setR w dst (fun j => if od ≤ j ∧ j < od + x then gA w src (os + (j - od)) else gA w dst j))
    (fun n x w' hx hI => by
      obtain ⟨h0, rfl⟩ := hI
      refine ⟨_, hs n x _ h0 hx, by omega, ?_⟩
      rw [sA_setR, setR_setR]
      refine setR_ext fun j => ?_
      show (if j = od + x then _ else _) = _
      rw [gA_setR, gA_setR, if_neg hne, if_pos rfl]
      by_cases c : j = od + x
      · rw [if_pos c, if_pos (by omega), show os + (j - od) = os + x by omega]
      · rw [if_neg c]
        by_cases c2 : od ≤ j ∧ j < od + x
        · rw [if_pos c2, if_pos (by omega)]
        · rw [if_neg c2, if_neg (by omega)])
    (fun n w' hI => by obtain ⟨_, rfl⟩ := hI; exact he n _) n 0 w hb
    ⟨by omega, (setR_self fun j => if_neg (by omega)).symm⟩ (by omega)
  obtain ⟨w', h1, _, rfl⟩ := h
  exact h1
/-! frames: what a run leaves as it was -/
def frm (S : Nat → Nat → Prop) (T : Nat → Prop) (w w' : Wd) : Prop := (∀ o k, ¬ S o k → gF w' o k = gF w o k) ∧ (∀ o, ¬ T o → ∀ i, gA w' o i = gA w o i) ∧ (∀ o i, gP w' o i = gP w o i)
theorem frm_refl {S : Nat → Nat → Prop} {T : Nat → Prop} (w : Wd) : frm S T w w := ⟨fun _ _ _ => rfl, fun _ _ _ => rfl, fun _ _ => rfl⟩
theorem frm_trans {S : Nat → Nat → Prop} {T : Nat → Prop} {w w1 w2 : Wd} (h : frm S T w w1) (h' : frm S T w1 w2) : frm S T w w2 :=
  ⟨fun o k hh => (h'.1 o k hh).trans (h.1 o k hh), fun o hh i => (h'.2.1 o hh i).trans (h.2.1 o hh i), fun o i => (h'.2.2 o i).trans (h.2.2 o i)⟩
theorem frm_mono {S S' : Nat → Nat → Prop} {T T' : Nat → Prop} {w w1 : Wd} (h : frm S T w w1) (hS : ∀ o k, S o k → S' o k) (hT : ∀ o, T o → T' o) : frm S' T' w w1 :=
  ⟨fun o k hh => h.1 o k (fun q => hh (hS o k q)), fun o hh i => h.2.1 o (fun q => hh (hT o q)) i, h.2.2⟩
theorem frm_sF {S : Nat → Nat → Prop} {T : Nat → Prop} {w w1 : Wd} {o k : Nat} {v : Int} (h : frm S T w w1) (hs : S o k) : frm S T w (sF w1 o k v) :=
  ⟨fun o' k' hh => by rw [gF_sF, if_neg (fun q => hh (by rw [q.1, q.2]; exact hs))]; exact h.1 o' k' hh, h.2.1, h.2.2⟩
theorem frm_sA {S : Nat → Nat → Prop} {T : Nat → Prop} {w w1 : Wd} {o : Nat} {i v : Int} (h : frm S T w w1) (ht : T o) : frm S T w (sA w1 o i v) :=
  ⟨h.1, fun o' hh i' => by rw [gA_sA, if_neg (fun q => hh (by rw [q.1]; exact ht))]; exact h.2.1 o' hh i', h.2.2⟩
theorem frm_setR {S : Nat → Nat → Prop} {T : Nat → Prop} {w w1 : Wd} {o : Nat} {f : Int → Int} (h : frm S T w w1) (ht : T o) : frm S T w (setR w1 o f) :=
  ⟨h.1, fun o' hh i' => by rw [gA_setR, if_neg (fun q => hh (by rw [q]; exact ht))]; exact h.2.1 o' hh i', h.2.2⟩
