abbrev ifs_X9 : List Value := [iV 0, .null, .null, .null, .null, .null, iV 0, iV 0, iV 0, iV 0, iV 0, .null, .null, .null, .null, .null, iV 0, .null, iV 0, iV 0, iV 0, iV 0, iV 0, iV 0, iV 0, iV 0, iV 0, iV 0, .null, .null, .null, iV 0, .null, iV 0]
theorem idf_X9 : ∀ j, j < nf 9 → defaultValue (tyX9 j) = vp_V ifs_X9 j := fun j hj => match j, hj with | 0, _ => rfl | 1, _ => rfl | 2, _ => rfl | 3, _ => rfl | 4, _ => rfl | 5, _ => rfl | 6, _ => rfl | 7, _ => rfl | 8, _ => rfl | 9, _ => rfl | 10, _ => rfl | 11, _ => rfl | 12, _ => rfl | 13, _ => rfl | 14, _ => rfl | 15, _ => rfl | 16, _ => rfl | 17, _ => rfl | 18, _ => rfl | 19, _ => rfl | 20, _ => rfl | 21, _ => rfl | 22, _ => rfl | 23, _ => rfl | 24, _ => rfl | 25, _ => rfl | 26, _ => rfl | 27, _ => rfl | 28, _ => rfl | 29, _ => rfl | 30, _ => rfl | 31, _ => rfl | 32, _ => rfl | 33, _ => rfl | n + 34, h => absurd h (Nat.not_lt_of_le (Nat.le_add_left _ _))
theorem icl_X9 : clsW 9 RX9 TX9 tyX9 := ⟨rfl, (fun q hq => List.mem_filter.mpr ⟨(by decide +kernel : ∀ q ∈ u_ws RX9 TX9 (nf 9), q ∈ lw_tbl) q hq, (by decide +kernel : ∀ q ∈ u_ws RX9 TX9 (nf 9), goodWord q = true) q hq⟩), tyX9_ok, nmX9⟩
theorem ifl_X9_17 : Cond.fieldLink RX9 17 RX9 "net" "[I" ∈ lw_tg := in_tg 1282 (by decide +kernel) rfl
theorem ifl_X9_21 : Cond.fieldLink RX9 21 RX9 "draft" "[I" ∈ lw_tg := in_tg 1283 (by decide +kernel) rfl
theorem ifl_X9_24 : Cond.fieldLink RX9 24 RX9 "row" "[I" ∈ lw_tg := in_tg 1284 (by decide +kernel) rfl
theorem ifl_X9_27 : Cond.fieldLink RX9 27 RX9 "wordRow" "[I" ∈ lw_tg := in_tg 1285 (by decide +kernel) rfl
theorem ifl_X9_30 : Cond.fieldLink RX9 30 RX9 "wordColumn" "[I" ∈ lw_tg := in_tg 1286 (by decide +kernel) rfl
theorem ifl_X9_33 : Cond.fieldLink RX9 33 RX9 "aside" "[I" ∈ lw_tg := in_tg 1292 (by decide +kernel) rfl
theorem ifl_X9_36 : Cond.fieldLink RX9 36 RX9 "hand" "[I" ∈ lw_tg := in_tg 1293 (by decide +kernel) rfl
theorem ifl_X9_39 : Cond.fieldLink RX9 39 RX9 "keptRow" "[I" ∈ lw_tg := in_tg 1294 (by decide +kernel) rfl
theorem ifl_X9_42 : Cond.fieldLink RX9 42 RX9 "keptColumn" "[I" ∈ lw_tg := in_tg 1295 (by decide +kernel) rfl
theorem ifl_X9_45 : Cond.fieldLink RX9 45 RX9 "keptWords" "[I" ∈ lw_tg := in_tg 1296 (by decide +kernel) rfl
theorem ifl_X9_48 : Cond.fieldLink RX9 48 RX9 "input" "[B" ∈ lw_tg := in_tg 1298 (by decide +kernel) rfl
theorem ifl_X9_52 : Cond.fieldLink RX9 52 RX9 "errorPlace" "I" ∈ lw_tg := in_tg 1306 (by decide +kernel) rfl
theorem ifl_X9_55 : Cond.fieldLink RX9 55 RX9 "keeps" "[I" ∈ lw_tg := in_tg 1309 (by decide +kernel) rfl
theorem ifl_X9_58 : Cond.fieldLink RX9 58 RX9 "isFull" "[Z" ∈ lw_tg := in_tg 1310 (by decide +kernel) rfl
theorem ifl_X9_62 : Cond.fieldLink RX9 62 RX9 "past" "[I" ∈ lw_tg := in_tg 1311 (by decide +kernel) rfl
theorem ifl_X9_65 : Cond.fieldLink RX9 65 RX9 "output" "[B" ∈ lw_tg := in_tg 1313 (by decide +kernel) rfl
theorem met_N1 {l : Launch} {y : MethodName} {cc : ByteArray} {nL : Nat} {rm : Room} {G : Gd} {ci : Nat} {fs0 As : List Value} {b : Bool} {post : Nat → (Nat → Nat) → va_W} {mc ms : Nat} (dm : Nat) (lv0 : Nat → List (Nat × Value)) (hy : plainName y.cls = true) (hyn : y.name = "<init>") (hlen : ∀ h0, (lg_sl (.ref h0 :: As)).length ≤ nL) (hlv : ∀ h0, lv_args 0 (.ref h0 :: As) = lv0 h0)
    (body : ∀ (h0 : Nat) (g : Cx), g.dm = dm → CX g cc nL none y.cls → stI g l rm G b → rtN g cc mc ms post h0 → XG g (dz 0 0) (hL g [(h0, .inr (ci, fs0))]) (lv0 h0) [] 0) :
    mN l y cc nL rm G ci fs0 As b post mc ms := by
  intro h0 sz
  refine Met.ofW (cc := cc) (maxL := nL) (ret := none) hy rfl ?_
  intro p e s m args below meth c s₁ B hml hv
  obtain ⟨rfl, hsz, hP, hD0, hK, hN, hE, hAO⟩ := hv
  have hts := atoms_spec (ws := WSx y cc nL none) B.pre
  have hown : s.vm.findClass y.cls = some m.cls := findClass_of_methodNamed B.named
  have hin : meth.name = "<init>" := hyn ▸ (name_of_methodNamed B.named B.method).1
  have hl := lv_entry (.ref h0 :: As) (n := nL) (hlen h0)
  rw [lg_entry_eq]
  rw [hlv] at hl
  subst hsz
  have C : CX (p, l, e, rm, s, m, (Value.ref h0 :: As).toArray, below, meth, c, nL, MQ below (va_Qv (fun _ : Nat → Nat => True) (fun qs t => va_P G.1 vwCl (post h0 qs) t.heap ∧ va_D (va_A [(h0, .inr (ci, fs0))] s.heap.size) (post h0 qs)) (va_A [(h0, .inr (ci, fs0))] s.heap.size)) (Value.ref h0 :: As).toArray s mc ms (va_A [(h0, .inr (ci, fs0))] s.heap.size), G, va_A [(h0, .inr (ci, fs0))] s.heap.size, dm) cc nL none y.cls := ⟨B.exec, B.bytes, hml, rfl, B.returns, B.notSynchronized, hown, fun q hq => hts q (List.mem_cons_of_mem _ hq), hN, hK, hE⟩
  refine body h0 _ rfl C ⟨rfl, rfl, rfl, fun q hq => Or.inr hq, hin, hAO⟩ ?_ s.heap [] _ ⟨hP, hD0.self⟩ va_S.rf hl
  rintro d pc lv ws ⟨qs, rfl⟩ hmc hms dg H locs ls h1 h2 h3
  refine W.widen hmc hms ?_
  exact W.vret C.x C.b C.r (fun t ht hW => ⟨⟨qs, rfl, trivial, by rw [ht]; exact h1.1, h1.2⟩, h2.F ht⟩) h2.2.2 dg C.k
/-- the model's first world -/
def w9 : Wd := (fun o k => if o = 50 ∧ k = 25 then -1 else 0, fun _ _ => 0, fun o _ => if o = 50 then 51 else 0)
theorem okW9 : okW 0 w9 := by
  intro o i
  unfold okP
  by_cases c : o = 50
  · rw [if_pos c]; exact Or.inl (if_pos c)
  · rw [if_neg c]
    by_cases c2 : o = 32 ∨ o = 33
    · rw [if_pos c2]; exact Or.inl (if_neg c)
    · rw [if_neg c2]; trivial
def ad9 (h0 : Nat) (qs : Nat → Nat) : Nat → Nat := fun o => if o = 50 then h0 else qs (o - 51)
theorem OL10 : OL 1 0 = [50, 51, 52, 53, 54, 55, 56, 57, 58, 59, 60, 61, 62, 63, 64] := by decide +kernel
abbrev postX9 (G : Gd) : Nat → (Nat → Nat) → va_W := fun h0 qs => (h0, .inr (9, [iV 0, .ref (qs 0), .ref (qs 1), .ref (qs 0), .ref (qs 2), .ref (qs 3), iV 0, iV 0, iV 0, iV 0, iV 0, .ref (qs 4), .ref (qs 5), .ref (qs 6), .ref (qs 7), .ref (qs 8), iV 0, .ref (qs 9), iV 0, iV 0, iV 0, iV 0, iV 0, iV 0, iV 0, iV (-1), iV 0, iV 0, .ref (qs 10), .ref (qs 11), .ref (qs 12), iV 0, .ref (qs 13), iV 0])) :: ([((qs 0), .inl (G.cy 0, (1099, .inl fun _ => 0)))] ++ [((qs 1), .inl (G.cy 0, (1099, .inl fun _ => 0)))] ++ [((qs 2), .inl (G.cy 0, (60, .inl fun _ => 0)))] ++ [((qs 3), .inl (G.cy 0, (60, .inl fun _ => 0)))] ++ [((qs 4), .inl (G.cy 0, (1099, .inl fun _ => 0)))] ++ [((qs 5), .inl (G.cy 0, (780, .inl fun _ => 0)))] ++ [((qs 6), .inl (G.cy 0, (60, .inl fun _ => 0)))] ++ [((qs 7), .inl (G.cy 0, (60, .inl fun _ => 0)))] ++ [((qs 8), .inl (G.cy 0, (780, .inl fun _ => 0)))] ++ [((qs 9), .inl (G.cy 1, (500, .inl fun _ => 0)))] ++ [((qs 10), .inl (G.cy 0, (2198, .inl fun _ => 0)))] ++ [((qs 11), .inl (G.cy 2, (2, .inl fun _ => 0)))] ++ [((qs 12), .inl (G.cy 0, (6594, .inl fun _ => 0)))] ++ [((qs 13), .inl (G.cy 1, (1000, .inl fun _ => 0)))])
set_option maxRecDepth 100000 in
theorem hw_9 {G : Gd} {h0 : Nat} {qs : Nat → Nat} : postX9 G h0 qs = hw G 1 0 (ad9 h0 qs) w9 := by
  unfold hw; rw [OL10]; rfl
theorem c_X9_init (l : Launch) (G : Gd) {w' : Wd} (hq : p_X9_layPlain w9 = some w') : mN l yX9_init cX9_init 1 (rmv 1 21 14 15391) G 9 ifs_X9 [] false (fun h0 qs => hw G 1 0 (ad9 h0 qs) w') 14 15391 := by
  refine met_N1 1 (fun h0 => [(0, .ref h0)]) (by decide) rfl (fun h0 => Nat.le_of_ble_eq_true rfl) (fun h0 => rfl) (fun h0 g hdm C hS hR9 => ?_)
  obtain ⟨-, hR, hG, hA, hin, hAO⟩ := id hS
  refine x_aload_n C 0 dX9_init_0 rfl ?_
  refine x_nobj C hR ⟨Nat.le_of_ble_eq_true rfl, Nat.le_of_ble_eq_true rfl⟩ (in_tg 1276 (by decide +kernel) rfl) dX9_init_1 ?_
  refine x_aload_n C 0 dX9_init_4 rfl ?_
  refine x_sipush (v := 1099) C dX9_init_5 (by decide +kernel) ?_
  refine x_nnewa (i := 0) (n := 1099) (d1 := dz 1 1099) C hA hR (by simp) (acl_int) (by decide) (by decide) rfl dX9_init_8 (fun q8 => ?_)
  refine x_nputF (k := 1) (fs' := [iV 0, .ref q8, .null, .null, .null, .null, iV 0, iV 0, iV 0, iV 0, iV 0, .null, .null, .null, .null, .null, iV 0, .null, iV 0, iV 0, iV 0, iV 0, iV 0, iV 0, iV 0, iV 0, iV 0, iV 0, .null, .null, .null, iV 0, .null, iV 0]) C hin icl_X9 (by decide) ⟨rfl, rfl, rfl, rfl⟩ rfl (Or.inl ifl_X9_17) ifl_X9_17 ⟨rfl, rfl⟩ (Nat.le_of_ble_eq_true rfl) rfl dX9_init_10 ?_
  refine x_aload_n C 0 dX9_init_13 rfl ?_
  refine x_sipush (v := 1099) C dX9_init_14 (by decide +kernel) ?_
  refine x_nnewa (i := 0) (n := 1099) (d1 := dz 2 2198) C hA hR (by simp) (acl_int) (by decide) (by decide) rfl dX9_init_17 (fun q17 => ?_)
  refine x_nputF (k := 2) (fs' := [iV 0, .ref q8, .ref q17, .null, .null, .null, iV 0, iV 0, iV 0, iV 0, iV 0, .null, .null, .null, .null, .null, iV 0, .null, iV 0, iV 0, iV 0, iV 0, iV 0, iV 0, iV 0, iV 0, iV 0, iV 0, .null, .null, .null, iV 0, .null, iV 0]) C hin icl_X9 (by decide) ⟨rfl, rfl, rfl, rfl⟩ rfl (Or.inl ifl_X9_21) ifl_X9_21 ⟨rfl, rfl⟩ (Nat.le_of_ble_eq_true rfl) rfl dX9_init_19 ?_
  refine x_aload_n C 0 dX9_init_22 rfl ?_
  refine x_aload_n C 0 dX9_init_23 rfl ?_
  refine x_ngw (k := 1) (v := .ref q8) C [iV 0, .ref q8, .ref q17, .null, .null, .null, iV 0, iV 0, iV 0, iV 0, iV 0, .null, .null, .null, .null, .null, iV 0, .null, iV 0, iV 0, iV 0, iV 0, iV 0, iV 0, iV 0, iV 0, iV 0, iV 0, .null, .null, .null, iV 0, .null, iV 0] rfl icl_X9 (by decide) ⟨rfl, rfl, rfl⟩ ifl_X9_17 rfl dX9_init_24 ?_
  refine x_nput (k := 3) (fs' := [iV 0, .ref q8, .ref q17, .ref q8, .null, .null, iV 0, iV 0, iV 0, iV 0, iV 0, .null, .null, .null, .null, .null, iV 0, .null, iV 0, iV 0, iV 0, iV 0, iV 0, iV 0, iV 0, iV 0, iV 0, iV 0, .null, .null, .null, iV 0, .null, iV 0]) C icl_X9 (by decide) ⟨rfl, rfl, rfl, rfl⟩ (Or.inl ifl_X9_24) ⟨rfl, rfl⟩ (Nat.le_of_ble_eq_true rfl) rfl dX9_init_27 ?_
  refine x_aload_n C 0 dX9_init_30 rfl ?_
  refine x_bipush (v := 60) C dX9_init_31 (by decide +kernel) ?_
  refine x_nnewa (i := 0) (n := 60) (d1 := dz 3 2258) C hA hR (by simp) (acl_int) (by decide) (by decide) rfl dX9_init_33 (fun q33 => ?_)
  refine x_nputF (k := 4) (fs' := [iV 0, .ref q8, .ref q17, .ref q8, .ref q33, .null, iV 0, iV 0, iV 0, iV 0, iV 0, .null, .null, .null, .null, .null, iV 0, .null, iV 0, iV 0, iV 0, iV 0, iV 0, iV 0, iV 0, iV 0, iV 0, iV 0, .null, .null, .null, iV 0, .null, iV 0]) C hin icl_X9 (by decide) ⟨rfl, rfl, rfl, rfl⟩ rfl (Or.inl ifl_X9_27) ifl_X9_27 ⟨rfl, rfl⟩ (Nat.le_of_ble_eq_true rfl) rfl dX9_init_35 ?_
  refine x_aload_n C 0 dX9_init_38 rfl ?_
  refine x_bipush (v := 60) C dX9_init_39 (by decide +kernel) ?_
  refine x_nnewa (i := 0) (n := 60) (d1 := dz 4 2318) C hA hR (by simp) (acl_int) (by decide) (by decide) rfl dX9_init_41 (fun q41 => ?_)
  refine x_nputF (k := 5) (fs' := [iV 0, .ref q8, .ref q17, .ref q8, .ref q33, .ref q41, iV 0, iV 0, iV 0, iV 0, iV 0, .null, .null, .null, .null, .null, iV 0, .null, iV 0, iV 0, iV 0, iV 0, iV 0, iV 0, iV 0, iV 0, iV 0, iV 0, .null, .null, .null, iV 0, .null, iV 0]) C hin icl_X9 (by decide) ⟨rfl, rfl, rfl, rfl⟩ rfl (Or.inl ifl_X9_30) ifl_X9_30 ⟨rfl, rfl⟩ (Nat.le_of_ble_eq_true rfl) rfl dX9_init_43 ?_
  refine x_aload_n C 0 dX9_init_46 rfl ?_
  refine x_sipush (v := 1099) C dX9_init_47 (by decide +kernel) ?_
  refine x_nnewa (i := 0) (n := 1099) (d1 := dz 5 3417) C hA hR (by simp) (acl_int) (by decide) (by decide) rfl dX9_init_50 (fun q50 => ?_)
  refine x_nputF (k := 11) (fs' := [iV 0, .ref q8, .ref q17, .ref q8, .ref q33, .ref q41, iV 0, iV 0, iV 0, iV 0, iV 0, .ref q50, .null, .null, .null, .null, iV 0, .null, iV 0, iV 0, iV 0, iV 0, iV 0, iV 0, iV 0, iV 0, iV 0, iV 0, .null, .null, .null, iV 0, .null, iV 0]) C hin icl_X9 (by decide) ⟨rfl, rfl, rfl, rfl⟩ rfl (Or.inl ifl_X9_33) ifl_X9_33 ⟨rfl, rfl⟩ (Nat.le_of_ble_eq_true rfl) rfl dX9_init_52 ?_
  refine x_aload_n C 0 dX9_init_55 rfl ?_
  refine x_sipush (v := 780) C dX9_init_56 (by decide +kernel) ?_
  refine x_nnewa (i := 0) (n := 780) (d1 := dz 6 4197) C hA hR (by simp) (acl_int) (by decide) (by decide) rfl dX9_init_59 (fun q59 => ?_)
  refine x_nputF (k := 12) (fs' := [iV 0, .ref q8, .ref q17, .ref q8, .ref q33, .ref q41, iV 0, iV 0, iV 0, iV 0, iV 0, .ref q50, .ref q59, .null, .null, .null, iV 0, .null, iV 0, iV 0, iV 0, iV 0, iV 0, iV 0, iV 0, iV 0, iV 0, iV 0, .null, .null, .null, iV 0, .null, iV 0]) C hin icl_X9 (by decide) ⟨rfl, rfl, rfl, rfl⟩ rfl (Or.inl ifl_X9_36) ifl_X9_36 ⟨rfl, rfl⟩ (Nat.le_of_ble_eq_true rfl) rfl dX9_init_61 ?_
  refine x_aload_n C 0 dX9_init_64 rfl ?_
  refine x_bipush (v := 60) C dX9_init_65 (by decide +kernel) ?_
  refine x_nnewa (i := 0) (n := 60) (d1 := dz 7 4257) C hA hR (by simp) (acl_int) (by decide) (by decide) rfl dX9_init_67 (fun q67 => ?_)
  refine x_nputF (k := 13) (fs' := [iV 0, .ref q8, .ref q17, .ref q8, .ref q33, .ref q41, iV 0, iV 0, iV 0, iV 0, iV 0, .ref q50, .ref q59, .ref q67, .null, .null, iV 0, .null, iV 0, iV 0, iV 0, iV 0, iV 0, iV 0, iV 0, iV 0, iV 0, iV 0, .null, .null, .null, iV 0, .null, iV 0]) C hin icl_X9 (by decide) ⟨rfl, rfl, rfl, rfl⟩ rfl (Or.inl ifl_X9_39) ifl_X9_39 ⟨rfl, rfl⟩ (Nat.le_of_ble_eq_true rfl) rfl dX9_init_69 ?_
  refine x_aload_n C 0 dX9_init_72 rfl ?_
  refine x_bipush (v := 60) C dX9_init_73 (by decide +kernel) ?_
  refine x_nnewa (i := 0) (n := 60) (d1 := dz 8 4317) C hA hR (by simp) (acl_int) (by decide) (by decide) rfl dX9_init_75 (fun q75 => ?_)
  refine x_nputF (k := 14) (fs' := [iV 0, .ref q8, .ref q17, .ref q8, .ref q33, .ref q41, iV 0, iV 0, iV 0, iV 0, iV 0, .ref q50, .ref q59, .ref q67, .ref q75, .null, iV 0, .null, iV 0, iV 0, iV 0, iV 0, iV 0, iV 0, iV 0, iV 0, iV 0, iV 0, .null, .null, .null, iV 0, .null, iV 0]) C hin icl_X9 (by decide) ⟨rfl, rfl, rfl, rfl⟩ rfl (Or.inl ifl_X9_42) ifl_X9_42 ⟨rfl, rfl⟩ (Nat.le_of_ble_eq_true rfl) rfl dX9_init_77 ?_
  refine x_aload_n C 0 dX9_init_80 rfl ?_
  refine x_sipush (v := 780) C dX9_init_81 (by decide +kernel) ?_
  refine x_nnewa (i := 0) (n := 780) (d1 := dz 9 5097) C hA hR (by simp) (acl_int) (by decide) (by decide) rfl dX9_init_84 (fun q84 => ?_)
  refine x_nputF (k := 15) (fs' := [iV 0, .ref q8, .ref q17, .ref q8, .ref q33, .ref q41, iV 0, iV 0, iV 0, iV 0, iV 0, .ref q50, .ref q59, .ref q67, .ref q75, .ref q84, iV 0, .null, iV 0, iV 0, iV 0, iV 0, iV 0, iV 0, iV 0, iV 0, iV 0, iV 0, .null, .null, .null, iV 0, .null, iV 0]) C hin icl_X9 (by decide) ⟨rfl, rfl, rfl, rfl⟩ rfl (Or.inl ifl_X9_45) ifl_X9_45 ⟨rfl, rfl⟩ (Nat.le_of_ble_eq_true rfl) rfl dX9_init_86 ?_
  refine x_aload_n C 0 dX9_init_89 rfl ?_
  refine x_sipush (v := 500) C dX9_init_90 (by decide +kernel) ?_
  refine x_nnewa (i := 1) (n := 500) (d1 := dz 10 5597) C hA hR (by simp) (acl_byte) (by decide) (by decide) rfl dX9_init_93 (fun q93 => ?_)
  refine x_nputF (k := 17) (fs' := [iV 0, .ref q8, .ref q17, .ref q8, .ref q33, .ref q41, iV 0, iV 0, iV 0, iV 0, iV 0, .ref q50, .ref q59, .ref q67, .ref q75, .ref q84, iV 0, .ref q93, iV 0, iV 0, iV 0, iV 0, iV 0, iV 0, iV 0, iV 0, iV 0, iV 0, .null, .null, .null, iV 0, .null, iV 0]) C hin icl_X9 (by decide) ⟨rfl, rfl, rfl, rfl⟩ rfl (Or.inl ifl_X9_48) ifl_X9_48 ⟨rfl, rfl⟩ (Nat.le_of_ble_eq_true rfl) rfl dX9_init_95 ?_
  refine x_aload_n C 0 dX9_init_98 rfl ?_
  refine x_iconst C dX9_init_99 ?_
  refine x_nput (k := 25) (fs' := [iV 0, .ref q8, .ref q17, .ref q8, .ref q33, .ref q41, iV 0, iV 0, iV 0, iV 0, iV 0, .ref q50, .ref q59, .ref q67, .ref q75, .ref q84, iV 0, .ref q93, iV 0, iV 0, iV 0, iV 0, iV 0, iV 0, iV 0, iV (-1), iV 0, iV 0, .null, .null, .null, iV 0, .null, iV 0]) C icl_X9 (by decide) ⟨rfl, rfl, rfl, rfl⟩ (Or.inl ifl_X9_52) ⟨rfl, rfl⟩ (Nat.le_of_ble_eq_true rfl) rfl dX9_init_100 ?_
  refine x_aload_n C 0 dX9_init_103 rfl ?_
  refine x_sipush (v := 2198) C dX9_init_104 (by decide +kernel) ?_
  refine x_nnewa (i := 0) (n := 2198) (d1 := dz 11 7795) C hA hR (by simp) (acl_int) (by decide) (by decide) rfl dX9_init_107 (fun q107 => ?_)
  refine x_nputF (k := 28) (fs' := [iV 0, .ref q8, .ref q17, .ref q8, .ref q33, .ref q41, iV 0, iV 0, iV 0, iV 0, iV 0, .ref q50, .ref q59, .ref q67, .ref q75, .ref q84, iV 0, .ref q93, iV 0, iV 0, iV 0, iV 0, iV 0, iV 0, iV 0, iV (-1), iV 0, iV 0, .ref q107, .null, .null, iV 0, .null, iV 0]) C hin icl_X9 (by decide) ⟨rfl, rfl, rfl, rfl⟩ rfl (Or.inl ifl_X9_55) ifl_X9_55 ⟨rfl, rfl⟩ (Nat.le_of_ble_eq_true rfl) rfl dX9_init_109 ?_
  refine x_aload_n C 0 dX9_init_112 rfl ?_
  refine x_iconst C dX9_init_113 ?_
  refine x_nnewa (i := 2) (n := 2) (d1 := dz 12 7797) C hA hR (by simp) (acl_boolean) (by decide) (by decide) rfl dX9_init_114 (fun q114 => ?_)
  refine x_nputF (k := 29) (fs' := [iV 0, .ref q8, .ref q17, .ref q8, .ref q33, .ref q41, iV 0, iV 0, iV 0, iV 0, iV 0, .ref q50, .ref q59, .ref q67, .ref q75, .ref q84, iV 0, .ref q93, iV 0, iV 0, iV 0, iV 0, iV 0, iV 0, iV 0, iV (-1), iV 0, iV 0, .ref q107, .ref q114, .null, iV 0, .null, iV 0]) C hin icl_X9 (by decide) ⟨rfl, rfl, rfl, rfl⟩ rfl (Or.inl ifl_X9_58) ifl_X9_58 ⟨rfl, rfl⟩ (Nat.le_of_ble_eq_true rfl) rfl dX9_init_116 ?_
  refine x_aload_n C 0 dX9_init_119 rfl ?_
  refine x_sipush (v := 6594) C dX9_init_120 (by decide +kernel) ?_
  refine x_nnewa (i := 0) (n := 6594) (d1 := dz 13 14391) C hA hR (by simp) (acl_int) (by decide) (by decide) rfl dX9_init_123 (fun q123 => ?_)
  refine x_nputF (k := 30) (fs' := [iV 0, .ref q8, .ref q17, .ref q8, .ref q33, .ref q41, iV 0, iV 0, iV 0, iV 0, iV 0, .ref q50, .ref q59, .ref q67, .ref q75, .ref q84, iV 0, .ref q93, iV 0, iV 0, iV 0, iV 0, iV 0, iV 0, iV 0, iV (-1), iV 0, iV 0, .ref q107, .ref q114, .ref q123, iV 0, .null, iV 0]) C hin icl_X9 (by decide) ⟨rfl, rfl, rfl, rfl⟩ rfl (Or.inl ifl_X9_62) ifl_X9_62 ⟨rfl, rfl⟩ (Nat.le_of_ble_eq_true rfl) rfl dX9_init_125 ?_
  refine x_aload_n C 0 dX9_init_128 rfl ?_
  refine x_sipush (v := 1000) C dX9_init_129 (by decide +kernel) ?_
  refine x_nnewa (i := 1) (n := 1000) (d1 := dz 14 15391) C hA hR (by simp) (acl_byte) (by decide) (by decide) rfl dX9_init_132 (fun q132 => ?_)
  refine x_nputF (k := 32) (fs' := [iV 0, .ref q8, .ref q17, .ref q8, .ref q33, .ref q41, iV 0, iV 0, iV 0, iV 0, iV 0, .ref q50, .ref q59, .ref q67, .ref q75, .ref q84, iV 0, .ref q93, iV 0, iV 0, iV 0, iV 0, iV 0, iV 0, iV 0, iV (-1), iV 0, iV 0, .ref q107, .ref q114, .ref q123, iV 0, .ref q132, iV 0]) C hin icl_X9 (by decide) ⟨rfl, rfl, rfl, rfl⟩ rfl (Or.inl ifl_X9_65) ifl_X9_65 ⟨rfl, rfl⟩ (Nat.le_of_ble_eq_true rfl) rfl dX9_init_134 ?_
  intro H locs ls h1 h2 h3
  generalize hqs : (fun i : Nat => [q8, q17, q33, q41, q50, q59, q67, q75, q84, q93, q107, q114, q123, q132].getD i 0) = qs
  have h1 : hL g (postX9 g.G h0 qs) H := by subst hqs; exact h1
  rw [hw_9] at h1
  have hcp : 14 ≤ g.R.cells ∧ 15391 ≤ g.R.slots := by rw [hR]; exact ⟨Nat.le_refl _, Nat.le_refl _⟩
  have key : XG g (0, ad9 h0 qs, 14, 15391) (hP g (0, ad9 h0 qs, 14, 15391) w9) [(0, .ref h0)] [] 137 := by
    refine x_aload_n C 0 dX9_init_137 rfl ?_
    refine x_callVv (K := 10) (o := 50) (rm := rmv 0 0 0 0) (As := []) (rest := []) (pv := p_X9_layPlain w9) (Kt := fun w => some w) C hA hR mf_X9_layPlain lk_X9_68 rfl (isK_lit hdm rfl rfl) (by decide) ⟨rfl, rfl⟩ ⟨Nat.le_of_ble_eq_true rfl, Nat.le_of_ble_eq_true rfl⟩ rfl rfl (Nat.le_of_ble_eq_true rfl) hcp dX9_init_138 (by rw [hq]; rfl) (fun _ h => c_X9_layPlain g.l g.G hdm h) (fun w3 hw3 hq3 => ?_)
    cases hq3
    intro H locs ls h1 h2 h3
    refine hR9 (0, ad9 h0 qs, 14, 15391) 141 _ (hw g.G 1 0 (ad9 h0 qs) w') ⟨qs, by subst hG; rfl⟩ (Nat.le_refl _) (Nat.le_refl _) dX9_init_141 H locs ls ?_ h2 h3
    have h1 : wdH g.G g.dm 0 (ad9 h0 qs) w' g.A H := h1
    rw [hdm] at h1
    exact ⟨h1.1, h1.2.1⟩
  refine key H locs ls ?_ h2 h3
  show wdH g.G g.dm 0 (ad9 h0 qs) w9 g.A H
  rw [hdm]
  exact ⟨h1.1, h1.2, okW9⟩
