section
-- ===== PART A: goes FIRST, ahead of the names: the tables' words, and 'selects' of the private methods out of them =====
/-- a private method of a class that the tables say can be made, by its rows of tables_1 -/
def lw_okq (q : MethodName × Nat) : Prop := (q.1.cls ≠ "java/lang/invoke/MethodHandle" ∧ q.1.cls ≠ "java/lang/invoke/VarHandle") ∧ Cond.instantiable q.1.cls q.2 ∈ tables_1 ∧ Cond.privateMethod q.1 ∈ tables_1 ∧ Cond.instanceMethod q.1 ∈ tables_1
theorem lw_p0 : lw_okq (⟨"java/lang/Throwable", "fillInStackTrace", "(I)Ljava/lang/Throwable;"⟩, 6) := ⟨⟨by decide +kernel, by decide +kernel⟩, List.mem_of_getElem? (i := 364) (by decide +kernel), List.mem_of_getElem? (i := 362) (by decide +kernel), List.mem_of_getElem? (i := 363) (by decide +kernel)⟩
theorem lw_p1 : lw_okq (⟨"SlabCutter", "needWord", "(I)V"⟩, 11) := ⟨⟨by decide +kernel, by decide +kernel⟩, List.mem_of_getElem? (i := 29) (by decide +kernel), List.mem_of_getElem? (i := 393) (by decide +kernel), List.mem_of_getElem? (i := 394) (by decide +kernel)⟩
theorem lw_p2 : lw_okq (⟨"SlabCutter", "strokesOfWord", "(I)I"⟩, 11) := ⟨⟨by decide +kernel, by decide +kernel⟩, List.mem_of_getElem? (i := 29) (by decide +kernel), List.mem_of_getElem? (i := 417) (by decide +kernel), List.mem_of_getElem? (i := 418) (by decide +kernel)⟩
theorem lw_p3 : lw_okq (⟨"SlabCutter", "carvedOfWord", "(I)I"⟩, 11) := ⟨⟨by decide +kernel, by decide +kernel⟩, List.mem_of_getElem? (i := 29) (by decide +kernel), List.mem_of_getElem? (i := 430) (by decide +kernel), List.mem_of_getElem? (i := 431) (by decide +kernel)⟩
theorem lw_p4 : lw_okq (⟨"SlabCutter$Parser", "readSize", "(LSlabCutter$Slab;)Z"⟩, 7) := ⟨⟨by decide +kernel, by decide +kernel⟩, List.mem_of_getElem? (i := 92) (by decide +kernel), List.mem_of_getElem? (i := 807) (by decide +kernel), List.mem_of_getElem? (i := 808) (by decide +kernel)⟩
theorem lw_p5 : lw_okq (⟨"SlabCutter$Parser", "fail", "(I)Z"⟩, 7) := ⟨⟨by decide +kernel, by decide +kernel⟩, List.mem_of_getElem? (i := 92) (by decide +kernel), List.mem_of_getElem? (i := 818) (by decide +kernel), List.mem_of_getElem? (i := 819) (by decide +kernel)⟩
theorem lw_p6 : lw_okq (⟨"SlabCutter$Parser", "readNumber", "(II)Z"⟩, 7) := ⟨⟨by decide +kernel, by decide +kernel⟩, List.mem_of_getElem? (i := 92) (by decide +kernel), List.mem_of_getElem? (i := 823) (by decide +kernel), List.mem_of_getElem? (i := 824) (by decide +kernel)⟩
theorem lw_p7 : lw_okq (⟨"SlabCutter$Parser", "checkNumber", "(II)Z"⟩, 7) := ⟨⟨by decide +kernel, by decide +kernel⟩, List.mem_of_getElem? (i := 92) (by decide +kernel), List.mem_of_getElem? (i := 827) (by decide +kernel), List.mem_of_getElem? (i := 828) (by decide +kernel)⟩
theorem lw_p8 : lw_okq (⟨"SlabCutter$Parser", "readEnd", "()Z"⟩, 7) := ⟨⟨by decide +kernel, by decide +kernel⟩, List.mem_of_getElem? (i := 92) (by decide +kernel), List.mem_of_getElem? (i := 852) (by decide +kernel), List.mem_of_getElem? (i := 853) (by decide +kernel)⟩
theorem lw_p9 : lw_okq (⟨"SlabCutter$Parser", "readStatement", "(LSlabCutter$Slab;)Z"⟩, 7) := ⟨⟨by decide +kernel, by decide +kernel⟩, List.mem_of_getElem? (i := 92) (by decide +kernel), List.mem_of_getElem? (i := 857) (by decide +kernel), List.mem_of_getElem? (i := 858) (by decide +kernel)⟩
theorem lw_p10 : lw_okq (⟨"SlabCutter$Parser", "readFlaws", "(LSlabCutter$Slab;)Z"⟩, 7) := ⟨⟨by decide +kernel, by decide +kernel⟩, List.mem_of_getElem? (i := 92) (by decide +kernel), List.mem_of_getElem? (i := 862) (by decide +kernel), List.mem_of_getElem? (i := 863) (by decide +kernel)⟩
theorem lw_p11 : lw_okq (⟨"SlabCutter$Parser", "readFlaw", "(LSlabCutter$Slab;)Z"⟩, 7) := ⟨⟨by decide +kernel, by decide +kernel⟩, List.mem_of_getElem? (i := 92) (by decide +kernel), List.mem_of_getElem? (i := 866) (by decide +kernel), List.mem_of_getElem? (i := 867) (by decide +kernel)⟩
theorem lw_p12 : lw_okq (⟨"SlabCutter$Parser", "readGap", "(LSlabCutter$Slab;)Z"⟩, 7) := ⟨⟨by decide +kernel, by decide +kernel⟩, List.mem_of_getElem? (i := 92) (by decide +kernel), List.mem_of_getElem? (i := 881) (by decide +kernel), List.mem_of_getElem? (i := 882) (by decide +kernel)⟩
theorem lw_p13 : lw_okq (⟨"SlabCutter$Parser", "readChisel", "(LSlabCutter$Slab;)Z"⟩, 7) := ⟨⟨by decide +kernel, by decide +kernel⟩, List.mem_of_getElem? (i := 92) (by decide +kernel), List.mem_of_getElem? (i := 886) (by decide +kernel), List.mem_of_getElem? (i := 887) (by decide +kernel)⟩
theorem lw_p14 : lw_okq (⟨"SlabCutter$Parser", "readPart", "(LSlabCutter$Slab;I)Z"⟩, 7) := ⟨⟨by decide +kernel, by decide +kernel⟩, List.mem_of_getElem? (i := 92) (by decide +kernel), List.mem_of_getElem? (i := 892) (by decide +kernel), List.mem_of_getElem? (i := 893) (by decide +kernel)⟩
theorem lw_p15 : lw_okq (⟨"SlabCutter$Parser", "readWord", "(LSlabCutter$Slab;)Z"⟩, 7) := ⟨⟨by decide +kernel, by decide +kernel⟩, List.mem_of_getElem? (i := 92) (by decide +kernel), List.mem_of_getElem? (i := 900) (by decide +kernel), List.mem_of_getElem? (i := 901) (by decide +kernel)⟩
def lw_privs_1 : List (MethodName × Nat) := [(⟨"java/lang/Throwable", "fillInStackTrace", "(I)Ljava/lang/Throwable;"⟩, 6), (⟨"SlabCutter", "needWord", "(I)V"⟩, 11), (⟨"SlabCutter", "strokesOfWord", "(I)I"⟩, 11), (⟨"SlabCutter", "carvedOfWord", "(I)I"⟩, 11), (⟨"SlabCutter$Parser", "readSize", "(LSlabCutter$Slab;)Z"⟩, 7), (⟨"SlabCutter$Parser", "fail", "(I)Z"⟩, 7), (⟨"SlabCutter$Parser", "readNumber", "(II)Z"⟩, 7), (⟨"SlabCutter$Parser", "checkNumber", "(II)Z"⟩, 7), (⟨"SlabCutter$Parser", "readEnd", "()Z"⟩, 7), (⟨"SlabCutter$Parser", "readStatement", "(LSlabCutter$Slab;)Z"⟩, 7), (⟨"SlabCutter$Parser", "readFlaws", "(LSlabCutter$Slab;)Z"⟩, 7), (⟨"SlabCutter$Parser", "readFlaw", "(LSlabCutter$Slab;)Z"⟩, 7), (⟨"SlabCutter$Parser", "readGap", "(LSlabCutter$Slab;)Z"⟩, 7), (⟨"SlabCutter$Parser", "readChisel", "(LSlabCutter$Slab;)Z"⟩, 7), (⟨"SlabCutter$Parser", "readPart", "(LSlabCutter$Slab;I)Z"⟩, 7), (⟨"SlabCutter$Parser", "readWord", "(LSlabCutter$Slab;)Z"⟩, 7)]
theorem lw_r1 : ∀ q ∈ lw_privs_1, lw_okq q := List.forall_mem_cons.mpr ⟨lw_p0, List.forall_mem_cons.mpr ⟨lw_p1, List.forall_mem_cons.mpr ⟨lw_p2, List.forall_mem_cons.mpr ⟨lw_p3, List.forall_mem_cons.mpr ⟨lw_p4, List.forall_mem_cons.mpr ⟨lw_p5, List.forall_mem_cons.mpr ⟨lw_p6, List.forall_mem_cons.mpr ⟨lw_p7, List.forall_mem_cons.mpr ⟨lw_p8, List.forall_mem_cons.mpr ⟨lw_p9, List.forall_mem_cons.mpr ⟨lw_p10, List.forall_mem_cons.mpr ⟨lw_p11, List.forall_mem_cons.mpr ⟨lw_p12, List.forall_mem_cons.mpr ⟨lw_p13, List.forall_mem_cons.mpr ⟨lw_p14, List.forall_mem_cons.mpr ⟨lw_p15, fun _ h => absurd h List.not_mem_nil⟩⟩⟩⟩⟩⟩⟩⟩⟩⟩⟩⟩⟩⟩⟩⟩
theorem lw_p16 : lw_okq (⟨"SlabCutter", "settle", "()V"⟩, 11) := ⟨⟨by decide +kernel, by decide +kernel⟩, List.mem_of_getElem? (i := 29) (by decide +kernel), List.mem_of_getElem? (i := 914) (by decide +kernel), List.mem_of_getElem? (i := 915) (by decide +kernel)⟩
theorem lw_p17 : lw_okq (⟨"SlabCutter$Past", "oldestToEnd", "()V"⟩, 2) := ⟨⟨by decide +kernel, by decide +kernel⟩, List.mem_of_getElem? (i := 259) (by decide +kernel), List.mem_of_getElem? (i := 922) (by decide +kernel), List.mem_of_getElem? (i := 923) (by decide +kernel)⟩
theorem lw_p18 : lw_okq (⟨"SlabCutter", "layAnew", "()V"⟩, 11) := ⟨⟨by decide +kernel, by decide +kernel⟩, List.mem_of_getElem? (i := 29) (by decide +kernel), List.mem_of_getElem? (i := 941) (by decide +kernel), List.mem_of_getElem? (i := 942) (by decide +kernel)⟩
theorem lw_p19 : lw_okq (⟨"SlabCutter$Layout", "layWords", "(LSlabCutter$Slab;I)V"⟩, 8) := ⟨⟨by decide +kernel, by decide +kernel⟩, List.mem_of_getElem? (i := 218) (by decide +kernel), List.mem_of_getElem? (i := 949) (by decide +kernel), List.mem_of_getElem? (i := 950) (by decide +kernel)⟩
theorem lw_p20 : lw_okq (⟨"SlabCutter$Layout", "layWord", "(LSlabCutter$Slab;I)Z"⟩, 8) := ⟨⟨by decide +kernel, by decide +kernel⟩, List.mem_of_getElem? (i := 218) (by decide +kernel), List.mem_of_getElem? (i := 953) (by decide +kernel), List.mem_of_getElem? (i := 954) (by decide +kernel)⟩
theorem lw_p21 : lw_okq (⟨"SlabCutter$Layout", "centre", "(LSlabCutter$Slab;II)V"⟩, 8) := ⟨⟨by decide +kernel, by decide +kernel⟩, List.mem_of_getElem? (i := 218) (by decide +kernel), List.mem_of_getElem? (i := 961) (by decide +kernel), List.mem_of_getElem? (i := 962) (by decide +kernel)⟩
theorem lw_p22 : lw_okq (⟨"SlabCutter$Layout", "centreRow", "(LSlabCutter$Slab;II)V"⟩, 8) := ⟨⟨by decide +kernel, by decide +kernel⟩, List.mem_of_getElem? (i := 218) (by decide +kernel), List.mem_of_getElem? (i := 965) (by decide +kernel), List.mem_of_getElem? (i := 966) (by decide +kernel)⟩
theorem lw_p23 : lw_okq (⟨"SlabCutter", "takeInputWords", "(I)I"⟩, 11) := ⟨⟨by decide +kernel, by decide +kernel⟩, List.mem_of_getElem? (i := 29) (by decide +kernel), List.mem_of_getElem? (i := 1004) (by decide +kernel), List.mem_of_getElem? (i := 1005) (by decide +kernel)⟩
theorem lw_p24 : lw_okq (⟨"SlabCutter", "needPart", "(I)V"⟩, 11) := ⟨⟨by decide +kernel, by decide +kernel⟩, List.mem_of_getElem? (i := 29) (by decide +kernel), List.mem_of_getElem? (i := 1020) (by decide +kernel), List.mem_of_getElem? (i := 1021) (by decide +kernel)⟩
theorem lw_p25 : lw_okq (⟨"SlabCutter", "tryWithout", "(I)V"⟩, 11) := ⟨⟨by decide +kernel, by decide +kernel⟩, List.mem_of_getElem? (i := 29) (by decide +kernel), List.mem_of_getElem? (i := 1024) (by decide +kernel), List.mem_of_getElem? (i := 1025) (by decide +kernel)⟩
theorem lw_p26 : lw_okq (⟨"SlabCutter", "needCarvedStay", "()V"⟩, 11) := ⟨⟨by decide +kernel, by decide +kernel⟩, List.mem_of_getElem? (i := 29) (by decide +kernel), List.mem_of_getElem? (i := 1039) (by decide +kernel), List.mem_of_getElem? (i := 1040) (by decide +kernel)⟩
theorem lw_p27 : lw_okq (⟨"SlabCutter", "carvedStay", "()Z"⟩, 11) := ⟨⟨by decide +kernel, by decide +kernel⟩, List.mem_of_getElem? (i := 29) (by decide +kernel), List.mem_of_getElem? (i := 1043) (by decide +kernel), List.mem_of_getElem? (i := 1044) (by decide +kernel)⟩
theorem lw_p28 : lw_okq (⟨"SlabCutter", "sameOnTrial", "(I)Z"⟩, 11) := ⟨⟨by decide +kernel, by decide +kernel⟩, List.mem_of_getElem? (i := 29) (by decide +kernel), List.mem_of_getElem? (i := 1047) (by decide +kernel), List.mem_of_getElem? (i := 1048) (by decide +kernel)⟩
theorem lw_p29 : lw_okq (⟨"SlabCutter", "tryMoved", "(II)V"⟩, 11) := ⟨⟨by decide +kernel, by decide +kernel⟩, List.mem_of_getElem? (i := 29) (by decide +kernel), List.mem_of_getElem? (i := 1063) (by decide +kernel), List.mem_of_getElem? (i := 1064) (by decide +kernel)⟩
theorem lw_p30 : lw_okq (⟨"SlabCutter", "needCell", "(II)V"⟩, 11) := ⟨⟨by decide +kernel, by decide +kernel⟩, List.mem_of_getElem? (i := 29) (by decide +kernel), List.mem_of_getElem? (i := 1077) (by decide +kernel), List.mem_of_getElem? (i := 1078) (by decide +kernel)⟩
theorem lw_p31 : lw_okq (⟨"SlabCutter", "needRow", "(I)V"⟩, 11) := ⟨⟨by decide +kernel, by decide +kernel⟩, List.mem_of_getElem? (i := 29) (by decide +kernel), List.mem_of_getElem? (i := 1081) (by decide +kernel), List.mem_of_getElem? (i := 1082) (by decide +kernel)⟩
def lw_privs_2 : List (MethodName × Nat) := [(⟨"SlabCutter", "settle", "()V"⟩, 11), (⟨"SlabCutter$Past", "oldestToEnd", "()V"⟩, 2), (⟨"SlabCutter", "layAnew", "()V"⟩, 11), (⟨"SlabCutter$Layout", "layWords", "(LSlabCutter$Slab;I)V"⟩, 8), (⟨"SlabCutter$Layout", "layWord", "(LSlabCutter$Slab;I)Z"⟩, 8), (⟨"SlabCutter$Layout", "centre", "(LSlabCutter$Slab;II)V"⟩, 8), (⟨"SlabCutter$Layout", "centreRow", "(LSlabCutter$Slab;II)V"⟩, 8), (⟨"SlabCutter", "takeInputWords", "(I)I"⟩, 11), (⟨"SlabCutter", "needPart", "(I)V"⟩, 11), (⟨"SlabCutter", "tryWithout", "(I)V"⟩, 11), (⟨"SlabCutter", "needCarvedStay", "()V"⟩, 11), (⟨"SlabCutter", "carvedStay", "()Z"⟩, 11), (⟨"SlabCutter", "sameOnTrial", "(I)Z"⟩, 11), (⟨"SlabCutter", "tryMoved", "(II)V"⟩, 11), (⟨"SlabCutter", "needCell", "(II)V"⟩, 11), (⟨"SlabCutter", "needRow", "(I)V"⟩, 11)]
theorem lw_r2 : ∀ q ∈ lw_privs_2, lw_okq q := List.forall_mem_cons.mpr ⟨lw_p16, List.forall_mem_cons.mpr ⟨lw_p17, List.forall_mem_cons.mpr ⟨lw_p18, List.forall_mem_cons.mpr ⟨lw_p19, List.forall_mem_cons.mpr ⟨lw_p20, List.forall_mem_cons.mpr ⟨lw_p21, List.forall_mem_cons.mpr ⟨lw_p22, List.forall_mem_cons.mpr ⟨lw_p23, List.forall_mem_cons.mpr ⟨lw_p24, List.forall_mem_cons.mpr ⟨lw_p25, List.forall_mem_cons.mpr ⟨lw_p26, List.forall_mem_cons.mpr ⟨lw_p27, List.forall_mem_cons.mpr ⟨lw_p28, List.forall_mem_cons.mpr ⟨lw_p29, List.forall_mem_cons.mpr ⟨lw_p30, List.forall_mem_cons.mpr ⟨lw_p31, fun _ h => absurd h List.not_mem_nil⟩⟩⟩⟩⟩⟩⟩⟩⟩⟩⟩⟩⟩⟩⟩⟩
theorem lw_p32 : lw_okq (⟨"SlabCutter", "needGap", "(I)V"⟩, 11) := ⟨⟨by decide +kernel, by decide +kernel⟩, List.mem_of_getElem? (i := 29) (by decide +kernel), List.mem_of_getElem? (i := 1094) (by decide +kernel), List.mem_of_getElem? (i := 1095) (by decide +kernel)⟩
def lw_privs_3 : List (MethodName × Nat) := [(⟨"SlabCutter", "needGap", "(I)V"⟩, 11)]
theorem lw_r3 : ∀ q ∈ lw_privs_3, lw_okq q := List.forall_mem_cons.mpr ⟨lw_p32, fun _ h => absurd h List.not_mem_nil⟩
def lw_privs : List (MethodName × Nat) := lw_privs_1 ++ (lw_privs_2 ++ (lw_privs_3))
def lw_tbl : List Cond := k2_sels lw_privs ++ tables_1
theorem lw_privs_ok : ∀ q ∈ lw_privs, lw_okq q := by
  show ∀ q ∈ lw_privs_1 ++ (lw_privs_2 ++ (lw_privs_3)), lw_okq q
  exact List.forall_mem_append.mpr ⟨lw_r1, List.forall_mem_append.mpr ⟨lw_r2, lw_r3⟩⟩
/-- the streams that the claim lets the run draw from -/
abbrev lw_cs : List Choice := [Jvm.Choice.named "NaN.bits"]
theorem lw_bits : nanBits ∈ lw_cs := by first | decide | exact List.mem_cons_self | simp [lw_cs, nanBits]
-- ===== end of PART A; then your names; then what follows =====
end
section
/-! ===== BEGIN words of one list among another's, by their places ===== -/
theorem goodIn_r {big : List Cond} (ws : List Cond) (ps : List Nat) (hp : ws = ps.filterMap (fun i => big[i]?)) (h : ws.all goodWord = true) : GoodIn big ws := by
  intro w hw
  have h1 := List.all_eq_true.mp h w hw
  rw [hp] at hw
  obtain ⟨i, -, hi⟩ := List.mem_filterMap.mp hw
  have hm : w ∈ big := by first | exact List.mem_of_getElem? hi | exact List.getElem?_mem hi
  exact ⟨hm, good_of_word h1⟩
theorem goodIn_app {big a b : List Cond} (ha : GoodIn big a) (hb : GoodIn big b) : GoodIn big (a ++ b) := fun w h => (List.mem_append.mp h).elim (ha w) (hb w)
theorem goodIn_ca {big a b : List Cond} {c : Cond} (ha : GoodIn big (c :: a)) (hb : GoodIn big b) : GoodIn big (c :: (a ++ b)) := fun w h => (List.mem_cons.mp h).elim (fun e => ha w (List.mem_cons.mpr (Or.inl e))) (fun h => (List.mem_append.mp h).elim (fun h => ha w (List.mem_cons.mpr (Or.inr h))) (hb w))
theorem goodIn_sub {big ws : List Cond} (hm : ∀ w ∈ ws, w ∈ big) (h : ws.all goodWord = true) : GoodIn big ws := fun w hw => ⟨hm w hw, good_of_word (List.all_eq_true.mp h w hw)⟩
/-! ===== END ===== -/
/-! ===== BEGIN exceptions that leave a method, and their catching by the caller (launches without stack traces) ===== -/
section VXA
/-! The laws vx_back, vx_callV, vx_callS, vx_callSW, vx_throw0, vx_throwS follow proofs of the library, with one case more: JvmDerived/Free/Laws.lean (Back.of_free), Shelf42/LK1.lean (callV, callS), Shelf/KitTraced.lean (throwNew0V, throwNewS). -/
/-- where a method has thrown q: the class by its name, the cell, what was written, the world -/
def vx_T (XC : String → State → State → Prop) (st : State) (q : Addr) (t : State) (mc ms : Nat) (free : Addr → Prop) : Prop :=
  ∃ (E : String) (ce : Cell) (L : List Loc), XC E st t ∧ t.heap[q]? = some ce ∧ ce.vm = .none ∧ st.vm.findClass E = some ce.cls ∧ st.WarmedH t.vm ∧ st.sameButNew ({ t with vm := st.vm } : State) L mc ms ∧ ∀ z ∈ L, free z.base
def vx_Q (Qc : Array Value → State → Outcome → State → Prop) (XC : String → State → State → Prop) (mc ms : Nat) (free : Addr → Prop) : Array Value → State → Outcome → State → Prop := fun a st o t =>
  (Qc a st o t ∧ ∃ L, FrameEnd st o t L mc ms ∧ ∀ q ∈ L, free q.base) ∨ ∃ q, o = .threw q ∧ vx_T XC st q t mc ms free
/-- a callee that returns or throws -/
def vx_Met (l : Launch) (y : MethodName) (ws : List Cond) (rm : Room) (Pc : Array Value → State → Prop) (Qc : Array Value → State → Outcome → State → Prop) (XC : String → State → State → Prop) (mc ms : Nat) (free : Addr → Prop) : Prop :=
  MetFree l y (headSpec ws rm) Pc (fun _ _ _ _ _ => True) (vx_Q Qc XC mc ms free)
def vx_Post (XC : String → State → State → Prop) (mc ms : Nat) (free : Addr → Prop) : Pt → Array Value → Addr → Pt → Prop := fun A a q B =>
  ∃ (g : JFrame) (mk : MethodId) (t : State) (L : List Loc) (E : String) (ce : Cell), B.U.heap = t.heap ∧ B.U.vm = t.vm ∧ XC E (A.U.calling g mk a) t ∧ t.heap[q]? = some ce ∧ ce.vm = .none ∧ A.U.vm.findClass E = some ce.cls ∧ B.locs = A.locs ++ L ∧ (∀ z ∈ L, free z.base) ∧ B.cells = A.cells + mc ∧ B.slots = A.slots + ms
def vx_Back (l : Launch) (R : Room) (p : Program) (e : Env) (below : List Frame) (s : State) (sargs : Array Value) (y : MethodName) (len W9 : Nat)
    (Pre : Pt → Array Value → Prop) (Post : Pt → Array Value → Option Value → Pt → Prop) (PostX : Pt → Array Value → Addr → Pt → Prop) : Prop :=
  ∀ (m : MethodId) (meth : Method) (c : Code) (A : Pt) (g : JFrame) (ig : Instr) (mk : MethodId) (a : Array Value),
    Stand p l e R s m sargs below meth c A.U A.locs A.cells A.slots → g.method = m → g.locals.size = c.maxLocals → decode c.code g.pc = .ok (ig, len) →
    2 * g.monitorRoom + (g.stack.map fun v => v.category).sum ≤ W9 → A.U.methodNamed? y = some mk → Pre A a →
    (∃ (v : Option Value) (B : Pt), Stand p l e R s m sargs below meth c B.U B.locs B.cells B.slots ∧ Post A a v B ∧
      Steps p.tables e below (doInvoke e (A.U.setTop g) [] mk a).1 (B.U.setTop { g with pc := g.pc + len, stack := v.toList ++ g.stack })) ∨
    (∃ (q : Addr) (B : Pt), Stand p l e R s m sargs below meth c B.U B.locs B.cells B.slots ∧ PostX A a q B ∧
      Steps p.tables e below (doInvoke e (A.U.setTop g) [] mk a).1 ((B.U.setTop g).pushFrame (.throwing q)))
section Payer
variable {l : Launch} {R : Room} {p : Program} {e : Env} {below : List Frame} {s : State} {sargs : Array Value} {y : MethodName} {len W9 : Nat}
theorem vx_back {ws : List Cond} {rm : Room} {Pc : Array Value → State → Prop} {Qc : Array Value → State → Outcome → State → Prop} {XC : String → State → State → Prop} {mc ms : Nat} {free : Addr → Prop} {bytes : ByteArray} {maxL : Nat} {ret : Option FieldType}
    (hM : vx_Met l y ws rm Pc Qc XC mc ms free) (hblind : FrameBlind Pc) (hrc : rm.cells = mc) (hrs : rm.slots = ms)
    (hframes : rm.frames + 1 ≤ R.frames) (hlocals : W9 + (maxL + 11) + rm.locals ≤ R.locals)
    (hws : ∀ w ∈ ws, ∀ a' U, s.WarmedH U.vm → w.before a' U = true) (hcode : Cond.code y bytes maxL ret ∈ ws) (hinit : ∀ a' U, s.WarmedH U.vm → (Cond.initialized y.cls).before a' U = true) :
    vx_Back l R p e below s sargs y len W9 (PreOf R mc ms Pc) (PostOf Qc mc ms free) (vx_Post XC mc ms free) := by
  intro m meth c A g ig mk a X hg hsize hdg hW hn hp
  have h1 : (headSpec ws rm).pre.before a A.U = true := atoms_intro fun w hw => hws w hw _ _ X.warmed
  have h2 : (Cond.code y bytes maxL ret).before a A.U = true := hws _ hcode _ _ X.warmed
  have h3 : (Cond.initialized y.cls).before a A.U = true := hinit _ _ X.warmed
  have h4 : A.cells + (headSpec ws rm).room.cells ≤ R.cells := by rw [show (headSpec ws rm).room.cells = mc from hrc]; exact hp.1
  have h5 : A.slots + (headSpec ws rm).room.slots ≤ R.slots := by rw [show (headSpec ws rm).room.slots = ms from hrs]; exact hp.2.1
  have hPc : Pc a (A.U.calling g mk a) := hblind _ _ _ _ hp.2.2
  obtain ⟨U, Ls, c0, s0⟩ := A
  dsimp only [Pt.U, Pt.locs, Pt.cells, Pt.slots] at h1 h2 h3 h4 h5 X hn hPc ⊢
  obtain ⟨methY, cY, hmY, hcY, -, hlY, -, -, -, -⟩ := Cond.code_spec hn h2
  obtain ⟨kY, hkY, -⟩ := className_of_methodNamed hn
  have hinitY : kY.init = .initialized := Cond.initialized_spec (findClass_of_methodNamed hn) hkY h3
  have h : At U g.method c below := by rw [hg]; exact X.here
  have hlocals9 : W9 + (maxL + 11) + (headSpec ws rm).room.locals ≤ R.locals := hlocals
  have happ : (headSpec ws rm).appliesLoose y e.platform (U.calling g mk a) = true :=
    Spec.appliesLoose_calling (g := g) h hdg hn hkY hinitY
      (X.room_calling (g := g) (R' := (headSpec ws rm).room) hsize hmY hcY hframes (by rw [hlY]; omega) h4 h5) h1
  obtain ⟨mid, hmid⟩ := h.above
  have hfr : (U.setTop g).frames = (.java g :: mid) ++ below := by rw [State.frames_setTop' g h.top, hmid]; rfl
  obtain ⟨o, s₂, hsteps, -, hend, hq⟩ := Steps.callFree hM p X.admits X.cas X.clock (acts := []) hfr happ hPc trivial
  have hq' : vx_Q Qc XC mc ms free a (U.calling g mk a) o s₂ := hq
  rw [State.frames_setTop' g h.top] at hend
  obtain ⟨g₀, hg0⟩ := Option.isSome_iff_exists.mp h.top
  obtain ⟨r, hr⟩ := State.topJava?_eq_some.mp hg0
  have hr' : (({ U with heap := s₂.heap, slotsUsed := s₂.slotsUsed } : State).setVm s₂.vm).frames = .java g₀ :: r := hr
  rcases hq' with ⟨hqc, L, hfe, hL⟩ | ⟨q, rfl, E, ce, L, hx, hce, hcv, hcl, hW₂, hsm, hL⟩
  · obtain ⟨⟨v, rfl⟩, hW₂, e2, q2, q3, q4, q5, q6⟩ := id hfe
    have e3 : s₂ = ({ (U.calling g mk a).setFrames s₂.frames with heap := s₂.heap, slotsUsed := s₂.slotsUsed } : State).setVm s₂.vm := by
      have : s₂ = ({ s₂ with vm := (U.calling g mk a).vm } : State).setVm s₂.vm := rfl
      rw [e2] at this
      exact this
    obtain ⟨c₂, i₂, len₂, hc₂, hd₂, hf₂⟩ := hend
    have hW' : U.WarmedH s₂.vm := hW₂
    have hcc : c₂ = c := by
      have h1 : s₂.code? g.method = U.code? g.method := by
        rw [State.code?_eq, State.code?_eq, hW'.alike.method?]
      exact Option.some.inj (hc₂.symm.trans (h1.trans h.code))
    subst hcc
    have hlen : len₂ = len := by rw [hdg] at hd₂; cases hd₂; rfl
    subst hlen
    have hs₂ : s₂ = (({ U with heap := s₂.heap, slotsUsed := s₂.slotsUsed } : State).setVm s₂.vm).setTop { g with pc := g.pc + len₂, stack := v.toList ++ g.stack } := by
      refine e3.trans ?_
      rw [hf₂, State.calling_eq h.top, State.setFrames_setFrames, State.setTop_of_frames _ hr', hr]
      rfl
    have hsame : U.sameButNew ({ U with heap := s₂.heap, slotsUsed := s₂.slotsUsed } : State) L mc ms := by
      refine ⟨?_, q2, q3, q4, q5, q6⟩
      obtain ⟨t, ht, -⟩ := State.frames_cons hr
      show ({ U with heap := s₂.heap, slotsUsed := s₂.slotsUsed } : State) = { U.setFrames U.frames with heap := s₂.heap, slotsUsed := s₂.slotsUsed }
      rw [State.setFrames_self ht]
    subst hg
    refine Or.inl ⟨v, ⟨(({ U with heap := s₂.heap, slotsUsed := s₂.slotsUsed } : State).setVm s₂.vm), Ls ++ L, c0 + mc, s0 + ms⟩,
      ⟨X.admits, X.cas, X.clock, X.frames, X.room, X.hears, X.method, X.code, (X.here.setHeapUsed s₂.heap s₂.slotsUsed).setVm hW'.alike, X.tail, State.WarmedH.trans X.warmed hW', X.limits, X.bytes, X.same.trans (hsame.setVm s.vm)⟩,
      ⟨g, mk, s₂, L, rfl, rfl, hqc, rfl, hL, rfl, rfl⟩, ?_⟩
    show Steps p.tables e below _ ((({ U with heap := s₂.heap, slotsUsed := s₂.slotsUsed } : State).setVm s₂.vm).setTop { g with pc := g.pc + len₂, stack := v.toList ++ g.stack })
    rw [← hs₂]
    exact hsteps
  · obtain ⟨e2, q2, q3, q4, q5, q6⟩ := id hsm
    have e3 : s₂ = ({ (U.calling g mk a).setFrames s₂.frames with heap := s₂.heap, slotsUsed := s₂.slotsUsed } : State).setVm s₂.vm := by
      have : s₂ = ({ s₂ with vm := (U.calling g mk a).vm } : State).setVm s₂.vm := rfl
      rw [e2] at this
      exact this
    have hf₂ : s₂.frames = .throwing q :: .java g :: U.frames.tail := hend
    have hW' : U.WarmedH s₂.vm := hW₂
    have hs₂ : s₂ = ((({ U with heap := s₂.heap, slotsUsed := s₂.slotsUsed } : State).setVm s₂.vm).setTop g).pushFrame (.throwing q) := by
      refine e3.trans ?_
      rw [hf₂, State.calling_eq h.top, State.setFrames_setFrames, State.pushFrame, State.frames_setTop _ hr', State.setTop_of_frames _ hr', State.setFrames_setFrames, hr]
      rfl
    have hsame : U.sameButNew ({ U with heap := s₂.heap, slotsUsed := s₂.slotsUsed } : State) L mc ms := by
      refine ⟨?_, q2, q3, q4, q5, q6⟩
      obtain ⟨t, ht, -⟩ := State.frames_cons hr
      show ({ U with heap := s₂.heap, slotsUsed := s₂.slotsUsed } : State) = { U.setFrames U.frames with heap := s₂.heap, slotsUsed := s₂.slotsUsed }
      rw [State.setFrames_self ht]
    subst hg
    refine Or.inr ⟨q, ⟨(({ U with heap := s₂.heap, slotsUsed := s₂.slotsUsed } : State).setVm s₂.vm), Ls ++ L, c0 + mc, s0 + ms⟩,
      ⟨X.admits, X.cas, X.clock, X.frames, X.room, X.hears, X.method, X.code, (X.here.setHeapUsed s₂.heap s₂.slotsUsed).setVm hW'.alike, X.tail, State.WarmedH.trans X.warmed hW', X.limits, X.bytes, X.same.trans (hsame.setVm s.vm)⟩,
      ⟨g, mk, s₂, L, E, ce, rfl, rfl, hx, hce, hcv, hcl, rfl, hL, rfl, rfl⟩, ?_⟩
    show Steps p.tables e below _ (((({ U with heap := s₂.heap, slotsUsed := s₂.slotsUsed } : State).setVm s₂.vm).setTop g).pushFrame (.throwing q))
    rw [← hs₂]
    exact hsteps
end Payer
section Calls
variable {p : Program} {l : Launch} {e : Env} {R : Room} {s : State} {m : MethodId} {args : Array Value} {below : List Frame} {meth : Method} {c : Code} {T : State} {locs : List Loc} {cells slots : Nat}
theorem vx_callV (X : Stand p l e R s m args below meth c T locs cells slots) (hexec : p.tables.exec = Jvm.exec) {own C : String} {index : Nat} {y : MethodName} {bytes : ByteArray} {maxL : Nat} {ret : Option FieldType}
    (hown : s.vm.findClass own = some m.cls) (hlink : (Cond.methodLink own index y).before args s = true) (hinst : (Cond.instanceMethod y).before args s = true) (hsel : (Cond.selects C y y).before args s = true)
    (hcode : (Cond.code y bytes maxL ret).before args s = true) (hy : y.cls ≠ "java/lang/invoke/MethodHandle" ∧ y.cls ≠ "java/lang/invoke/VarHandle")
    {W9 : Nat} {Pre : Pt → Array Value → Prop} {Post : Pt → Array Value → Option Value → Pt → Prop} {PostX : Pt → Array Value → Addr → Pt → Prop} (hK : vx_Back l R p e below s args y 3 W9 Pre Post PostX)
    {b : Addr} {cellB : Cell} (hcell : T.heap[b]? = some cellB) (hobj : cellB.vm.isStatics = false) (hcls : s.vm.findClass C = some cellB.cls)
    {g : JFrame} (hg : g.method = m) (hsize : g.locals.size = c.maxLocals) {argsL rest : List Value} (hlen : ∀ sig, parseMethodDescriptor y.desc = some sig → argsL.length = sig.parameters.length)
    (hstack : g.stack = argsL.reverse ++ .ref b :: rest) (hW : 2 * g.monitorRoom + (rest.map fun v => v.category).sum ≤ W9) (hdg : decode c.code g.pc = .ok (.invokevirtual index, 3))
    (hpre : ∀ vm₁, s.WarmedH vm₁ → Pre ⟨T.setVm vm₁, locs, cells, slots⟩ (Value.ref b :: argsL).toArray) :
    (∃ (v : Option Value) (vm₁ : Vm) (B : Pt), s.WarmedH vm₁ ∧ Stand p l e R s m args below meth c B.U B.locs B.cells B.slots ∧ Post ⟨T.setVm vm₁, locs, cells, slots⟩ (Value.ref b :: argsL).toArray v B ∧
      ∀ target, Steps p.tables e below (B.U.setTop { g with pc := g.pc + 3, stack := v.toList ++ rest }) target → Steps p.tables e below (T.setTop g) target) ∨
    (∃ (q : Addr) (vm₁ : Vm) (B : Pt), s.WarmedH vm₁ ∧ Stand p l e R s m args below meth c B.U B.locs B.cells B.slots ∧ PostX ⟨T.setVm vm₁, locs, cells, slots⟩ (Value.ref b :: argsL).toArray q B ∧
      Steps p.tables e below (T.setTop g) ((B.U.setTop { g with stack := rest }).pushFrame (.throwing q))) := by
  obtain ⟨mk, methM, hnamed, hmethM, hstM, habM⟩ := Cond.instanceMethod_spec hinst
  obtain ⟨methM', cM, hmethM', -, -, -, -, -, -, hsigM⟩ := Cond.code_spec hnamed hcode
  cases hmethM.symm.trans hmethM'
  obtain ⟨c2, r2, m2, q1, q2, q3, q4, kP, hkP, hkPi⟩ := Cond.selects_spec hsel
  cases hcls.symm.trans q1
  cases (State.methodFound?_of_named hnamed hy).symm.trans q2
  cases hnamed.symm.trans q3
  have hselP : selectMethod e.platform s.vm cellB.cls mk = .method mk := by rw [Launch.admits_selectMethod X.admits]; exact q4
  obtain ⟨vm₁, X₁, hstep₁⟩ := X.invokevirtual hexec hown hlink hnamed hmethM hstM hkP hkPi hy (a := b) (cell := cellB) hcell
    (fun z h => by rw [h] at hobj; cases hobj) hselP hmethM habM hkP hkPi (g := g) hg (argsL := argsL) (rest := rest) (hlen _ hsigM) hstack hdg
  rcases hK m meth c ⟨T.setVm vm₁, locs, cells, slots⟩ { g with stack := rest } (.invokevirtual index) mk (Value.ref b :: argsL).toArray X₁ hg hsize hdg hW (X₁.named hnamed) (hpre vm₁ X₁.warmed) with ⟨v, B, X', hpost, hsteps⟩ | ⟨q, B, X', hpost, hsteps⟩
  · exact Or.inl ⟨v, vm₁, B, X₁.warmed, X', hpost, fun target h => hstep₁ _ fun acts => by rw [doInvoke_state]; exact hsteps.trans h⟩
  · exact Or.inr ⟨q, vm₁, B, X₁.warmed, X', hpost, hstep₁ _ fun acts => by rw [doInvoke_state]; exact hsteps⟩
theorem vx_callS (X : Stand p l e R s m args below meth c T locs cells slots) (hexec : p.tables.exec = Jvm.exec) {own : String} {index : Nat} {y : MethodName} {bytes : ByteArray} {maxL : Nat} {ret : Option FieldType}
    (hown : s.vm.findClass own = some m.cls) (hlink : (Cond.methodLink own index y).before args s = true) (hstat : (Cond.static y).before args s = true) (hinit : (Cond.initialized y.cls).before args s = true)
    (hcode : (Cond.code y bytes maxL ret).before args s = true) (hy : y.cls ≠ "java/lang/invoke/MethodHandle" ∧ y.cls ≠ "java/lang/invoke/VarHandle")
    {W9 : Nat} {Pre : Pt → Array Value → Prop} {Post : Pt → Array Value → Option Value → Pt → Prop} {PostX : Pt → Array Value → Addr → Pt → Prop} (hK : vx_Back l R p e below s args y 3 W9 Pre Post PostX)
    {g : JFrame} (hg : g.method = m) (hsize : g.locals.size = c.maxLocals) {argsL rest : List Value} (hlen : ∀ sig, parseMethodDescriptor y.desc = some sig → argsL.length = sig.parameters.length)
    (hstack : g.stack = argsL.reverse ++ rest) (hW : 2 * g.monitorRoom + (rest.map fun v => v.category).sum ≤ W9) (hdg : decode c.code g.pc = .ok (.invokestatic index, 3))
    (hpre : ∀ vm₁, s.WarmedH vm₁ → Pre ⟨T.setVm vm₁, locs, cells, slots⟩ argsL.toArray) :
    (∃ (v : Option Value) (vm₁ : Vm) (B : Pt), s.WarmedH vm₁ ∧ Stand p l e R s m args below meth c B.U B.locs B.cells B.slots ∧ Post ⟨T.setVm vm₁, locs, cells, slots⟩ argsL.toArray v B ∧
      ∀ target, Steps p.tables e below (B.U.setTop { g with pc := g.pc + 3, stack := v.toList ++ rest }) target → Steps p.tables e below (T.setTop g) target) ∨
    (∃ (q : Addr) (vm₁ : Vm) (B : Pt), s.WarmedH vm₁ ∧ Stand p l e R s m args below meth c B.U B.locs B.cells B.slots ∧ PostX ⟨T.setVm vm₁, locs, cells, slots⟩ argsL.toArray q B ∧
      Steps p.tables e below (T.setTop g) ((B.U.setTop { g with stack := rest }).pushFrame (.throwing q))) := by
  obtain ⟨mk, hnamed⟩ := Cond.code_named hcode
  obtain ⟨methM, cM, hmethM, -, -, -, -, -, -, hsigM⟩ := Cond.code_spec hnamed hcode
  have hstatic : methM.isStatic = true := Cond.static_spec hnamed hmethM hstat
  obtain ⟨kP, hkP, -⟩ := className_of_methodNamed hnamed
  have hinitP : kP.init = .initialized := Cond.initialized_spec (findClass_of_methodNamed hnamed) hkP hinit
  obtain ⟨vm₁, X₁, hstep₁⟩ := X.invokestatic hexec hown hlink hnamed hmethM hstatic hkP hinitP hy (g := g) hg (argsL := argsL) (rest := rest) (hlen _ hsigM) hstack hdg
  rcases hK m meth c ⟨T.setVm vm₁, locs, cells, slots⟩ { g with stack := rest } (.invokestatic index) mk argsL.toArray X₁ hg hsize hdg hW (X₁.named hnamed) (hpre vm₁ X₁.warmed) with ⟨v, B, X', hpost, hsteps⟩ | ⟨q, B, X', hpost, hsteps⟩
  · exact Or.inl ⟨v, vm₁, B, X₁.warmed, X', hpost, fun target h => hstep₁ _ fun acts => by rw [doInvoke_state]; exact hsteps.trans h⟩
  · exact Or.inr ⟨q, vm₁, B, X₁.warmed, X', hpost, hstep₁ _ fun acts => by rw [doInvoke_state]; exact hsteps⟩
end Calls
theorem vx_cls {s : State} {T : State} {vm₁ : Vm} {E : String} {k : ClassId} (hW : s.WarmedH vm₁) (h : (T.setVm vm₁).vm.findClass E = some k) : s.vm.findClass E = some k := by
  have h1 : vm₁.findClass E = some k := h
  rw [hW.alike.findClass] at h1
  exact h1
/-- the method's frame g, with q thrown over it -/
def vx_W (p : Program) (l : Launch) (e : Env) (R : Room) (s : State) (m : MethodId) (args : Array Value) (below : List Frame) (meth : Method) (c : Code) (H : Heap) (locs : List Loc) (cells slots : Nat) (Q : State → Prop) (g : JFrame) (q : Addr) : Prop :=
  ∀ T : State, T.heap = H → Stand p l e R s m args below meth c T locs cells slots → ∃ t, Steps p.tables e below ((T.setTop g).pushFrame (.throwing q)) t ∧ Q t
def vx_Run (p : Program) (l : Launch) (e : Env) (R : Room) (s : State) (m : MethodId) (args : Array Value) (below : List Frame) (meth : Method) (c : Code) (H : Heap) (locs : List Loc) (cells slots mc ms : Nat) (g : JFrame) (rest : List Value) (Qa : State → Outcome → State → Prop) (XC : String → State → State → Prop) (free : Addr → Prop) : Prop :=
  ∀ T : State, T.heap = H → Stand p l e R s m args below meth c T locs cells slots →
    (∃ (v : Option Value) (st₀ t T' : State) (L : List Loc), st₀.heap = H ∧ Stand p l e R s m args below meth c T' (locs ++ L) (cells + mc) (slots + ms) ∧ (∀ q ∈ L, free q.base) ∧ T'.heap = t.heap ∧ T'.vm = t.vm ∧ Qa st₀ (.returned v) t ∧
      Goes p e below T g T' { g with pc := g.pc + 3, stack := v.toList ++ rest }) ∨
    (∃ (q : Addr) (st₀ t T' : State) (L : List Loc) (E : String) (ce : Cell), st₀.heap = H ∧ Stand p l e R s m args below meth c T' (locs ++ L) (cells + mc) (slots + ms) ∧ (∀ z ∈ L, free z.base) ∧ T'.heap = t.heap ∧ T'.vm = t.vm ∧ XC E st₀ t ∧ t.heap[q]? = some ce ∧ ce.vm = .none ∧ s.vm.findClass E = some ce.cls ∧
      Steps p.tables e below (T.setTop g) ((T'.setTop { g with stack := rest }).pushFrame (.throwing q)))
def vx_X {S : Type} (px : S → Prop) (B : String → S → State → Prop) (A : Nat → Prop) : String → State → State → Prop := fun E st t => ∃ u : S, px u ∧ B E u t ∧ va_F A st t
section Runs
variable {p : Program} {l : Launch} {e : Env} {R : Room} {s : State} {m : MethodId} {args : Array Value} {below : List Frame} {meth : Method} {c : Code} {H : Heap} {locs : List Loc} {cells slots : Nat}
variable {y : MethodName} {bytes cc : ByteArray} {maxL nL mc ms n index : Nat} {ret : Option FieldType} {ws : List Cond} {rm : Room} {Pc : Array Value → State → Prop} {Qc : Array Value → State → Outcome → State → Prop} {XC : String → State → State → Prop} {free : Addr → Prop} {Ts : List Cond} {own C : String} {b : Addr} {As rest : List Value} {g : JFrame}
theorem vx_callBack (cb : CallB R s args own index y bytes maxL ret ws rm mc ms n) (hM : vx_Met l y ws rm Pc Qc XC mc ms free) (hbl : FrameBlind Pc) : vx_Back l R p e below s args y 3 8 (PreOf R mc ms Pc) (PostOf Qc mc ms free) (vx_Post XC mc ms free) := by
  obtain ⟨hrc, hrs, hfr, hlo, hws, hcw, -, hini, -⟩ := cb
  exact vx_back (bytes := bytes) (maxL := maxL) (ret := ret) hM hbl hrc hrs hfr hlo hws hcw (fun a' U hW => word_at hW (Or.inl (by first | rfl | simp [Cond.onTables, Cond.keeps, Cond.steady])) hini)
theorem vx_runV (S : CallFix p m c cc nL s args Ts own) (hM : vx_Met l y ws rm Pc Qc XC mc ms free) (cw : CallW R s args own C index y bytes maxL ret ws rm mc ms n) (hp : PreV s H C b Pc As)
    (hg : g.method = m) (hn : As.length = n) (hsize : g.locals.size = nL) (hstack : g.stack = As.reverse ++ .ref b :: rest) (hW : 2 * g.monitorRoom + (rest.map fun v => v.category).sum ≤ 8) (hdg : decode cc g.pc = .ok (.invokevirtual index, 3)) (hf : cells + mc ≤ R.cells ∧ slots + ms ≤ R.slots) :
    vx_Run p l e R s m args below meth c H locs cells slots mc ms g rest (Qc (Value.ref b :: As).toArray) XC free := by
  have hK : vx_Back l R p e below s args y 3 8 (PreOf R mc ms Pc) (PostOf Qc mc ms free) (vx_Post XC mc ms free) := vx_callBack cw.1 hM hp.1
  obtain ⟨⟨-, -, -, -, -, -, hcode, -, hy, hlen, hl⟩, hin, hse⟩ := cw
  obtain ⟨hx, hb, hml, ho, -⟩ := S
  obtain ⟨-, ⟨cellB, hcB, hoB, hclB⟩, hPc⟩ := hp
  intro T hT X
  rcases vx_callV X hx (C := C) (bytes := bytes) (maxL := maxL) (ret := ret) ho hl hin hse hcode hy hK (by rw [hT]; exact hcB) hoB hclB hg (hsize.trans hml.symm) (argsL := As) (rest := rest) (fun sig h => hn.trans (hlen sig h)) hstack hW (by rw [hb]; exact hdg)
    (fun vm₁ hW₁ => ⟨hf.1, hf.2, hPc (T.setVm vm₁) hT hW₁⟩) with ⟨v, vm₁, ⟨U', l2, c2, s2⟩, hW₁, X', ⟨g', mk, t, L, e1, e2, hq, h1, hL, h2, h3⟩, st⟩ | ⟨q, vm₁, ⟨U', l2, c2, s2⟩, hW₁, X', ⟨g', mk, t, L, E, ce, e1, e2, hq, hce, hcv, hcl, h1, hL, h2, h3⟩, st⟩
  · dsimp only [Pt.U, Pt.locs, Pt.cells, Pt.slots] at X' e1 e2 h1 h2 h3 st
    subst h1; subst h2; subst h3
    exact Or.inl ⟨v, (T.setVm vm₁).calling g' mk (Value.ref b :: As).toArray, t, U', L, hT, X', hL, e1, e2, hq, st⟩
  · dsimp only [Pt.U, Pt.locs, Pt.cells, Pt.slots] at X' e1 e2 h1 h2 h3 st hcl
    subst h1; subst h2; subst h3
    exact Or.inr ⟨q, (T.setVm vm₁).calling g' mk (Value.ref b :: As).toArray, t, U', L, E, ce, hT, X', hL, e1, e2, hq, hce, hcv, vx_cls hW₁ hcl, st⟩
theorem vx_runS (S : CallFix p m c cc nL s args Ts own) (hM : vx_Met l y ws rm Pc Qc XC mc ms free) (cw : CallB R s args own index y bytes maxL ret ws rm mc ms n ∧ (Cond.static y).before args s = true) (hp : PreS s H Pc As)
    (hg : g.method = m) (hn : As.length = n) (hsize : g.locals.size = nL) (hstack : g.stack = As.reverse ++ rest) (hW : 2 * g.monitorRoom + (rest.map fun v => v.category).sum ≤ 8) (hdg : decode cc g.pc = .ok (.invokestatic index, 3)) (hf : cells + mc ≤ R.cells ∧ slots + ms ≤ R.slots) :
    vx_Run p l e R s m args below meth c H locs cells slots mc ms g rest (Qc As.toArray) XC free := by
  have hK : vx_Back l R p e below s args y 3 8 (PreOf R mc ms Pc) (PostOf Qc mc ms free) (vx_Post XC mc ms free) := vx_callBack cw.1 hM hp.1
  obtain ⟨⟨-, -, -, -, -, -, hcode, hini, hy, hlen, hl⟩, hstt⟩ := cw
  obtain ⟨hx, hb, hml, ho, -⟩ := S
  intro T hT X
  rcases vx_callS X hx (bytes := bytes) (maxL := maxL) (ret := ret) ho hl hstt hini hcode hy hK hg (hsize.trans hml.symm) (argsL := As) (rest := rest) (fun sig h => hn.trans (hlen sig h)) hstack hW (by rw [hb]; exact hdg)
    (fun vm₁ hW₁ => ⟨hf.1, hf.2, hp.2 (T.setVm vm₁) hT hW₁⟩) with ⟨v, vm₁, ⟨U', l2, c2, s2⟩, hW₁, X', ⟨g', mk, t, L, e1, e2, hq, h1, hL, h2, h3⟩, st⟩ | ⟨q, vm₁, ⟨U', l2, c2, s2⟩, hW₁, X', ⟨g', mk, t, L, E, ce, e1, e2, hq, hce, hcv, hcl, h1, hL, h2, h3⟩, st⟩
  · dsimp only [Pt.U, Pt.locs, Pt.cells, Pt.slots] at X' e1 e2 h1 h2 h3 st
    subst h1; subst h2; subst h3
    exact Or.inl ⟨v, (T.setVm vm₁).calling g' mk As.toArray, t, U', L, hT, X', hL, e1, e2, hq, st⟩
  · dsimp only [Pt.U, Pt.locs, Pt.cells, Pt.slots] at X' e1 e2 h1 h2 h3 st hcl
    subst h1; subst h2; subst h3
    exact Or.inr ⟨q, (T.setVm vm₁).calling g' mk As.toArray, t, U', L, E, ce, hT, X', hL, e1, e2, hq, hce, hcv, vx_cls hW₁ hcl, st⟩
end Runs
section Rows
variable {p : Program} {l : Launch} {e : Env} {R : Room} {s : State} {m : MethodId} {args : Array Value} {below : List Frame} {meth : Method} {c : Code} {H : Heap} {locs : List Loc} {cells slots : Nat} {Q : State → Prop}
variable {mc ms : Nat} {free : Addr → Prop} {A0 A1 : Nat → Prop} {H0 : Heap} {a : Array Value} {pc : Nat} {ls : Array Slot} {st0 rest : List Value}
theorem vx_keep {st₀ t T' : State} {L : List Loc} (h0 : st₀.heap = H) (e1 : T'.heap = t.heap) (hS : va_S A0 H0 H locs) (hA : ∀ q, q < H.size → A1 q → A0 q) (hf : ∀ q, free q → A0 q) (hL : ∀ q ∈ L, free q.base) (hF : va_F A1 st₀ t) :
    H.size ≤ T'.heap.size ∧ (∀ q : Nat, q < H.size → ¬ A1 q → T'.heap[q]? = H[q]?) ∧ va_S A0 H0 T'.heap (locs ++ L) := by
  obtain ⟨hz, hk⟩ := hF
  rw [h0] at hz hk
  exact ⟨by rw [e1]; exact hz, fun q h1 h2 => by rw [e1]; exact hk q h1 h2,
    ⟨Nat.le_trans hS.1 (by rw [e1]; exact hz), fun q h1 h2 => by rw [e1, hk q (Nat.lt_of_lt_of_le h1 hS.1) (fun z => h2 (hA q (Nat.lt_of_lt_of_le h1 hS.1) z))]; exact hS.2.1 q h1 h2, fun q hq => by
      rcases List.mem_append.mp hq with h | h
      · exact hS.2.2 q h
      · exact hf _ (hL q h)⟩⟩
theorem vx_calli {S SX : Type} {post : Int32 → S → Prop} {px : SX → Prop} {B : S → State → Prop} {BX : String → SX → State → Prop} {AX : Nat → Prop} (hr : vx_Run p l e R s m args below meth c H locs cells slots mc ms (F0 m pc ls st0) rest (va_Qi post B A1 a) (vx_X px BX AX) free) (hS : va_S A0 H0 H locs) (hA : ∀ q, q < H.size → A1 q → A0 q) (hf : ∀ q, free q → A0 q) (hAX : ∀ q, q < H.size → AX q → A0 q)
    (kx : ∀ (E : String) (ce : Cell) (q9 : Addr) (u : SX) (t : State) (H1 : Heap) (locs1 : List Loc), t.heap = H1 → s.vm.Alike t.vm → px u → BX E u t → H.size ≤ H1.size → (∀ q : Nat, q < H.size → ¬ AX q → H1[q]? = H[q]?) → va_S A0 H0 H1 locs1 → H1[q9]? = some ce → ce.vm = .none → s.vm.findClass E = some ce.cls → vx_W p l e R s m args below meth c H1 locs1 (cells + mc) (slots + ms) Q (F0 m pc ls rest) q9)
    (kk : ∀ (r : Int32) (u : S) (t : State) (H1 : Heap) (locs1 : List Loc), t.heap = H1 → s.vm.Alike t.vm → post r u → B u t → H.size ≤ H1.size → (∀ q : Nat, q < H.size → ¬ A1 q → H1[q]? = H[q]?) → va_S A0 H0 H1 locs1 → W p l e R s m args below meth c H1 locs1 (cells + mc) (slots + ms) Q (F0 m (pc + 3) ls (.int r :: rest))) : W p l e R s m args below meth c H locs cells slots Q (F0 m pc ls st0) := by
  intro T hT X
  rcases hr T hT X with ⟨v, st₀, t, T', L, h0, X', hL, e1, e2, ⟨⟨r, u, hv, hp, hb⟩, hF⟩, st⟩ | ⟨q, st₀, t, T', L, E, ce, h0, X', hL, e1, e2, ⟨u, hp, hb, hF⟩, hce, hcv, hcl, st⟩
  · cases hv
    obtain ⟨k1, k2, k3⟩ := vx_keep h0 e1 hS hA hf hL hF
    obtain ⟨t2, a1, b1⟩ := kk r u t T'.heap (locs ++ L) e1.symm (by rw [← e2]; exact X'.warmed.alike) hp hb k1 k2 k3 T' rfl X'
    exact ⟨t2, st t2 a1, b1⟩
  · obtain ⟨k1, k2, k3⟩ := vx_keep h0 e1 hS hAX hf hL hF
    obtain ⟨t2, a1, b1⟩ := kx E ce q u t T'.heap (locs ++ L) e1.symm (by rw [← e2]; exact X'.warmed.alike) hp hb k1 k2 k3 (by rw [e1]; exact hce) hcv hcl T' rfl X'
    exact ⟨t2, st.trans a1, b1⟩
theorem vx_calll {S SX : Type} {post : Int64 → S → Prop} {px : SX → Prop} {B : S → State → Prop} {BX : String → SX → State → Prop} {AX : Nat → Prop} (hr : vx_Run p l e R s m args below meth c H locs cells slots mc ms (F0 m pc ls st0) rest (va_Ql post B A1 a) (vx_X px BX AX) free) (hS : va_S A0 H0 H locs) (hA : ∀ q, q < H.size → A1 q → A0 q) (hf : ∀ q, free q → A0 q) (hAX : ∀ q, q < H.size → AX q → A0 q)
    (kx : ∀ (E : String) (ce : Cell) (q9 : Addr) (u : SX) (t : State) (H1 : Heap) (locs1 : List Loc), t.heap = H1 → s.vm.Alike t.vm → px u → BX E u t → H.size ≤ H1.size → (∀ q : Nat, q < H.size → ¬ AX q → H1[q]? = H[q]?) → va_S A0 H0 H1 locs1 → H1[q9]? = some ce → ce.vm = .none → s.vm.findClass E = some ce.cls → vx_W p l e R s m args below meth c H1 locs1 (cells + mc) (slots + ms) Q (F0 m pc ls rest) q9)
    (kk : ∀ (r : Int64) (u : S) (t : State) (H1 : Heap) (locs1 : List Loc), t.heap = H1 → s.vm.Alike t.vm → post r u → B u t → H.size ≤ H1.size → (∀ q : Nat, q < H.size → ¬ A1 q → H1[q]? = H[q]?) → va_S A0 H0 H1 locs1 → W p l e R s m args below meth c H1 locs1 (cells + mc) (slots + ms) Q (F0 m (pc + 3) ls (.long r :: rest))) : W p l e R s m args below meth c H locs cells slots Q (F0 m pc ls st0) := by
  intro T hT X
  rcases hr T hT X with ⟨v, st₀, t, T', L, h0, X', hL, e1, e2, ⟨⟨r, u, hv, hp, hb⟩, hF⟩, st⟩ | ⟨q, st₀, t, T', L, E, ce, h0, X', hL, e1, e2, ⟨u, hp, hb, hF⟩, hce, hcv, hcl, st⟩
  · cases hv
    obtain ⟨k1, k2, k3⟩ := vx_keep h0 e1 hS hA hf hL hF
    obtain ⟨t2, a1, b1⟩ := kk r u t T'.heap (locs ++ L) e1.symm (by rw [← e2]; exact X'.warmed.alike) hp hb k1 k2 k3 T' rfl X'
    exact ⟨t2, st t2 a1, b1⟩
  · obtain ⟨k1, k2, k3⟩ := vx_keep h0 e1 hS hAX hf hL hF
    obtain ⟨t2, a1, b1⟩ := kx E ce q u t T'.heap (locs ++ L) e1.symm (by rw [← e2]; exact X'.warmed.alike) hp hb k1 k2 k3 (by rw [e1]; exact hce) hcv hcl T' rfl X'
    exact ⟨t2, st.trans a1, b1⟩
theorem vx_callf {S SX : Type} {post : UInt32 → S → Prop} {px : SX → Prop} {B : S → State → Prop} {BX : String → SX → State → Prop} {AX : Nat → Prop} (hr : vx_Run p l e R s m args below meth c H locs cells slots mc ms (F0 m pc ls st0) rest (va_Qf post B A1 a) (vx_X px BX AX) free) (hS : va_S A0 H0 H locs) (hA : ∀ q, q < H.size → A1 q → A0 q) (hf : ∀ q, free q → A0 q) (hAX : ∀ q, q < H.size → AX q → A0 q)
    (kx : ∀ (E : String) (ce : Cell) (q9 : Addr) (u : SX) (t : State) (H1 : Heap) (locs1 : List Loc), t.heap = H1 → s.vm.Alike t.vm → px u → BX E u t → H.size ≤ H1.size → (∀ q : Nat, q < H.size → ¬ AX q → H1[q]? = H[q]?) → va_S A0 H0 H1 locs1 → H1[q9]? = some ce → ce.vm = .none → s.vm.findClass E = some ce.cls → vx_W p l e R s m args below meth c H1 locs1 (cells + mc) (slots + ms) Q (F0 m pc ls rest) q9)
    (kk : ∀ (r : UInt32) (u : S) (t : State) (H1 : Heap) (locs1 : List Loc), t.heap = H1 → s.vm.Alike t.vm → post r u → B u t → H.size ≤ H1.size → (∀ q : Nat, q < H.size → ¬ A1 q → H1[q]? = H[q]?) → va_S A0 H0 H1 locs1 → W p l e R s m args below meth c H1 locs1 (cells + mc) (slots + ms) Q (F0 m (pc + 3) ls (.float r :: rest))) : W p l e R s m args below meth c H locs cells slots Q (F0 m pc ls st0) := by
  intro T hT X
  rcases hr T hT X with ⟨v, st₀, t, T', L, h0, X', hL, e1, e2, ⟨⟨r, u, hv, hp, hb⟩, hF⟩, st⟩ | ⟨q, st₀, t, T', L, E, ce, h0, X', hL, e1, e2, ⟨u, hp, hb, hF⟩, hce, hcv, hcl, st⟩
  · cases hv
    obtain ⟨k1, k2, k3⟩ := vx_keep h0 e1 hS hA hf hL hF
    obtain ⟨t2, a1, b1⟩ := kk r u t T'.heap (locs ++ L) e1.symm (by rw [← e2]; exact X'.warmed.alike) hp hb k1 k2 k3 T' rfl X'
    exact ⟨t2, st t2 a1, b1⟩
  · obtain ⟨k1, k2, k3⟩ := vx_keep h0 e1 hS hAX hf hL hF
    obtain ⟨t2, a1, b1⟩ := kx E ce q u t T'.heap (locs ++ L) e1.symm (by rw [← e2]; exact X'.warmed.alike) hp hb k1 k2 k3 (by rw [e1]; exact hce) hcv hcl T' rfl X'
    exact ⟨t2, st.trans a1, b1⟩
theorem vx_calld {S SX : Type} {post : UInt64 → S → Prop} {px : SX → Prop} {B : S → State → Prop} {BX : String → SX → State → Prop} {AX : Nat → Prop} (hr : vx_Run p l e R s m args below meth c H locs cells slots mc ms (F0 m pc ls st0) rest (va_Qd post B A1 a) (vx_X px BX AX) free) (hS : va_S A0 H0 H locs) (hA : ∀ q, q < H.size → A1 q → A0 q) (hf : ∀ q, free q → A0 q) (hAX : ∀ q, q < H.size → AX q → A0 q)
    (kx : ∀ (E : String) (ce : Cell) (q9 : Addr) (u : SX) (t : State) (H1 : Heap) (locs1 : List Loc), t.heap = H1 → s.vm.Alike t.vm → px u → BX E u t → H.size ≤ H1.size → (∀ q : Nat, q < H.size → ¬ AX q → H1[q]? = H[q]?) → va_S A0 H0 H1 locs1 → H1[q9]? = some ce → ce.vm = .none → s.vm.findClass E = some ce.cls → vx_W p l e R s m args below meth c H1 locs1 (cells + mc) (slots + ms) Q (F0 m pc ls rest) q9)
    (kk : ∀ (r : UInt64) (u : S) (t : State) (H1 : Heap) (locs1 : List Loc), t.heap = H1 → s.vm.Alike t.vm → post r u → B u t → H.size ≤ H1.size → (∀ q : Nat, q < H.size → ¬ A1 q → H1[q]? = H[q]?) → va_S A0 H0 H1 locs1 → W p l e R s m args below meth c H1 locs1 (cells + mc) (slots + ms) Q (F0 m (pc + 3) ls (.double r :: rest))) : W p l e R s m args below meth c H locs cells slots Q (F0 m pc ls st0) := by
  intro T hT X
  rcases hr T hT X with ⟨v, st₀, t, T', L, h0, X', hL, e1, e2, ⟨⟨r, u, hv, hp, hb⟩, hF⟩, st⟩ | ⟨q, st₀, t, T', L, E, ce, h0, X', hL, e1, e2, ⟨u, hp, hb, hF⟩, hce, hcv, hcl, st⟩
  · cases hv
    obtain ⟨k1, k2, k3⟩ := vx_keep h0 e1 hS hA hf hL hF
    obtain ⟨t2, a1, b1⟩ := kk r u t T'.heap (locs ++ L) e1.symm (by rw [← e2]; exact X'.warmed.alike) hp hb k1 k2 k3 T' rfl X'
    exact ⟨t2, st t2 a1, b1⟩
  · obtain ⟨k1, k2, k3⟩ := vx_keep h0 e1 hS hAX hf hL hF
    obtain ⟨t2, a1, b1⟩ := kx E ce q u t T'.heap (locs ++ L) e1.symm (by rw [← e2]; exact X'.warmed.alike) hp hb k1 k2 k3 (by rw [e1]; exact hce) hcv hcl T' rfl X'
    exact ⟨t2, st.trans a1, b1⟩
theorem vx_callv {S SX : Type} {post : S → Prop} {px : SX → Prop} {B : S → State → Prop} {BX : String → SX → State → Prop} {AX : Nat → Prop} (hr : vx_Run p l e R s m args below meth c H locs cells slots mc ms (F0 m pc ls st0) rest (va_Qv post B A1 a) (vx_X px BX AX) free) (hS : va_S A0 H0 H locs) (hA : ∀ q, q < H.size → A1 q → A0 q) (hf : ∀ q, free q → A0 q) (hAX : ∀ q, q < H.size → AX q → A0 q)
    (kx : ∀ (E : String) (ce : Cell) (q9 : Addr) (u : SX) (t : State) (H1 : Heap) (locs1 : List Loc), t.heap = H1 → s.vm.Alike t.vm → px u → BX E u t → H.size ≤ H1.size → (∀ q : Nat, q < H.size → ¬ AX q → H1[q]? = H[q]?) → va_S A0 H0 H1 locs1 → H1[q9]? = some ce → ce.vm = .none → s.vm.findClass E = some ce.cls → vx_W p l e R s m args below meth c H1 locs1 (cells + mc) (slots + ms) Q (F0 m pc ls rest) q9)
    (kk : ∀ (u : S) (t : State) (H1 : Heap) (locs1 : List Loc), t.heap = H1 → s.vm.Alike t.vm → post u → B u t → H.size ≤ H1.size → (∀ q : Nat, q < H.size → ¬ A1 q → H1[q]? = H[q]?) → va_S A0 H0 H1 locs1 → W p l e R s m args below meth c H1 locs1 (cells + mc) (slots + ms) Q (F0 m (pc + 3) ls (rest))) : W p l e R s m args below meth c H locs cells slots Q (F0 m pc ls st0) := by
  intro T hT X
  rcases hr T hT X with ⟨v, st₀, t, T', L, h0, X', hL, e1, e2, ⟨⟨u, hv, hp, hb⟩, hF⟩, st⟩ | ⟨q, st₀, t, T', L, E, ce, h0, X', hL, e1, e2, ⟨u, hp, hb, hF⟩, hce, hcv, hcl, st⟩
  · cases hv
    obtain ⟨k1, k2, k3⟩ := vx_keep h0 e1 hS hA hf hL hF
    obtain ⟨t2, a1, b1⟩ := kk u t T'.heap (locs ++ L) e1.symm (by rw [← e2]; exact X'.warmed.alike) hp hb k1 k2 k3 T' rfl X'
    exact ⟨t2, st t2 a1, b1⟩
  · obtain ⟨k1, k2, k3⟩ := vx_keep h0 e1 hS hAX hf hL hF
    obtain ⟨t2, a1, b1⟩ := kx E ce q u t T'.heap (locs ++ L) e1.symm (by rw [← e2]; exact X'.warmed.alike) hp hb k1 k2 k3 (by rw [e1]; exact hce) hcv hcl T' rfl X'
    exact ⟨t2, st.trans a1, b1⟩
/-- caught by the row x of this method's table; the rows ahead don't take it -/
theorem vx_catch {own name : String} {E : String} {ce : Cell} {q : Addr} (hown : s.vm.findClass own = some m.cls) (pre : List ExceptionTableEntry) (x : ExceptionTableEntry) (suf : List ExceptionTableEntry) (hsplit : c.exceptionTable.toList = pre ++ x :: suf)
    (hpass : ∀ z ∈ pre, covers z pc = false ∨ (z.catchType ≠ 0 ∧ ∃ nm : String, (Cond.classLink own z.catchType nm).before args s = true ∧ va_Nc E nm s)) (hx : covers x pc = true) (h0 : x.catchType ≠ 0)
    (hlink : (Cond.classLink own x.catchType name).before args s = true) (hcast : (Cond.castable E name).before args s = true) (hcell : H[q]? = some ce) (hv : ce.vm = .none) (hcl : s.vm.findClass E = some ce.cls)
    (kk : W p l e R s m args below meth c H locs cells slots Q (F0 m x.handlerPc ls [.ref q])) : vx_W p l e R s m args below meth c H locs cells slots Q (F0 m pc ls rest) q := by
  intro T hT X
  have hpl : e.platform.magicAccessors = ({} : Platform).magicAccessors := by rw [X.admits.platform]
  obtain ⟨c3, c4, hc3, hc4, hasg⟩ := Cond.castable_spec hcast
  cases Option.some.inj (hc3.symm.trans hcl)
  obtain ⟨c5, hc5, hcl5⟩ := Cond.classLink_spec hown hlink e.platform hpl
  cases Option.some.inj (hc4.symm.trans hc5)
  obtain ⟨vm', X', st⟩ := X.thenCaughtThrough q (g := F0 m pc ls rest) rfl (Steps.refl _) (by rw [hT]; exact hcell) (by rw [hv]; rfl) (by obtain ⟨k9, h9, -⟩ := Vm.findClass_spec hcl; exact ⟨k9, h9⟩) pre x suf hsplit
    (fun z hz => by
      rcases hpass z hz with h | ⟨hz0, nm, hl1, hn1⟩
      · exact Or.inl h
      · obtain ⟨c6, hc6, hcl6⟩ := Cond.classLink_spec hown hl1 e.platform hpl
        obtain ⟨a8, b8, h1, h2, h3⟩ := hn1
        cases Option.some.inj (h1.symm.trans hcl)
        cases Option.some.inj (h2.symm.trans hc6)
        exact Or.inr ⟨hz0, _, hcl6, h3⟩) hx (Or.inr ⟨h0, c4, hcl5, hasg⟩)
  obtain ⟨t, a1, b1⟩ := kk (T.setVm vm') hT X'
  exact ⟨t, st.trans a1, b1⟩
end Rows
section Ends
variable {p : Program} {l : Launch} {e : Env} {R : Room} {s : State} {m : MethodId} {args : Array Value} {below : List Frame} {meth : Method} {c : Code} {H : Heap} {locs : List Loc} {cells slots : Nat} {Q : State → Prop}
variable {mc ms : Nat} {free : Addr → Prop} {A0 A1 : Nat → Prop} {H0 : Heap} {a : Array Value} {ls : Array Slot} {st0 rest : List Value}
variable {Qc : Array Value → State → Outcome → State → Prop} {XC : String → State → State → Prop}
/-- what a body that may throw owes at its end -/
def vx_MQ (below : List Frame) (Qc : Array Value → State → Outcome → State → Prop) (XC : String → State → State → Prop) (a : Array Value) (s : State) (mc ms : Nat) (free : Addr → Prop) : State → Prop := fun t =>
  ∃ o, t.status = .running ∧ Ended t below o ∧ vx_Q Qc XC mc ms free a s o t
theorem vx_ret {g : JFrame} {mc ms : Nat} (k : W p l e R s m args below meth c H locs cells slots (MQ below Qc args s mc ms free) g) : W p l e R s m args below meth c H locs cells slots (vx_MQ below Qc XC args s mc ms free) g := by
  intro T hT X
  obtain ⟨t, a1, o, b1, b2, b3, b4⟩ := k T hT X
  exact ⟨t, a1, o, b1, b2, Or.inl ⟨b3, b4⟩⟩
/-- not caught here: it goes on to the caller -/
theorem vx_widen {g : JFrame} {q : Addr} {k n : Nat} (h1 : cells ≤ k) (h2 : slots ≤ n) (kk : vx_W p l e R s m args below meth c H locs k n Q g q) : vx_W p l e R s m args below meth c H locs cells slots Q g q := fun T hT X => kk T hT (stand_widen X h1 h2)
theorem vx_out {pc : Nat} {E : String} {ce : Cell} {q : Addr} {mc ms : Nat} (hout : ∀ x ∈ c.exceptionTable.toList, covers x pc = false) (hlocks : meth.locks = false) (hcell : H[q]? = some ce) (hv : ce.vm = .none) (hcl : s.vm.findClass E = some ce.cls)
    (hx : ∀ t : State, t.heap = H → s.vm.Alike t.vm → XC E s t) (hf : ∀ z ∈ locs, free z.base) (hc : cells ≤ mc) (hs : slots ≤ ms) :
    vx_W p l e R s m args below meth c H locs cells slots (vx_MQ below Qc XC args s mc ms free) (F0 m pc ls rest) q := by
  intro T hT X
  obtain ⟨st1, hrun, hend, hW, hsm⟩ := X.leaveThrown q (g := F0 m pc ls rest) rfl rfl rfl hout hlocks
  have hcell9 : (T.setFrames (.throwing q :: below)).heap[q]? = some ce := by
    show T.heap[q]? = some ce
    rw [hT]; exact hcell
  exact ⟨_, st1, .threw q, hrun, hend, Or.inr ⟨q, rfl, E, ce, locs, hx _ hT hW.alike, hcell9, hv, hcl, hW, hsm.mono hc hs, hf⟩⟩
theorem vx_frame {U : State} {k n : Nat} (h : s.sameButNew ({ U with vm := s.vm } : State) locs k n) : s.heap.size ≤ U.heap.size ∧ ∀ q : Nat, q < s.heap.size → (∀ z ∈ locs, z.base ≠ q) → U.heap[q]? = s.heap[q]? := by
  obtain ⟨-, h2, -, -, -, h6⟩ := h
  refine ⟨h2, fun q hq hz => ?_⟩
  obtain ⟨c9, e1, e2, e3, e4⟩ := h6 q _ (Array.getElem?_eq_getElem hq)
  have hs : c9.slots = (s.heap[q]).slots := Array.ext_getElem? fun i => e4 i fun hm => hz _ hm rfl
  have h9 : c9 = s.heap[q] := by
    rw [hs] at e2
    exact e2
  have e5 : U.heap[q]? = some c9 := e1
  rw [e5, h9, Array.getElem?_eq_getElem hq]
/-- the words of a throw but the four that speak of the heap -/
def vx_no (w : Cond) : Bool := decide (w ≠ .isRef (.static Bundle.tN "UNASSIGNED_STACK" Bundle.steD)) && decide (w ≠ .isRef (.static Bundle.tN "SUPPRESSED_SENTINEL" Bundle.listD)) && decide (w ≠ .laysStatic Bundle.tN "UNASSIGNED_STACK" Bundle.steD) && decide (w ≠ .laysStatic Bundle.tN "SUPPRESSED_SENTINEL" Bundle.listD)
def vx_at0 (own : String) (ic : Nat) (X : String) (names : List String) : List Cond := (Bundle.ownAtoms0 own ic X names).filter vx_no
def vx_atS (own : String) (ic : Nat) (X : String) (names : List String) : List Cond := (Bundle.ownAtoms own ic X names).filter vx_no
/-- a word that the tables alone decide, or a good one -/
def vx_ot (w : Cond) : Bool := w.onTables || goodWord w
theorem vx_ot_at {args a' : Array Value} {s U : State} {w : Cond} (hW : s.WarmedH U.vm) (hvm : s.vm = U.vm) (hg : vx_ot w = true) (h : w.before args s = true) : w.before a' U = true := by
  simp only [vx_ot, Bool.or_eq_true] at hg
  rcases hg with hg | hg
  · exact va_tabs hg hvm h
  · exact word_at hW (good_of_word hg) h
/-- a list's words: the good ones out of the method's own list, the others by premises of their own -/
theorem vx_hat {args : Array Value} {s : State} {L B : List Cond} (h1 : ∀ w ∈ L.filter goodWord, w.before args s = true) (h2 : ∀ w ∈ L.filter (fun w => !goodWord w), w ∈ B) (h3 : ∀ w ∈ B, w.before args s = true) : ∀ w ∈ L, w.before args s = true := by
  intro w hw
  by_cases g : goodWord w = true
  · exact h1 w (List.mem_filter.mpr ⟨hw, g⟩)
  · refine h3 w (h2 w (List.mem_filter.mpr ⟨hw, ?_⟩))
    show (!goodWord w) = true
    cases hgw : goodWord w
    · rfl
    · exact absurd hgw g
theorem vx_c {args : Array Value} {s : State} {w : Cond} {B : List Cond} (h : w.before args s = true) (t : ∀ w ∈ B, w.before args s = true) : ∀ w' ∈ w :: B, w'.before args s = true := fun w' h' => (List.mem_cons.mp h').elim (fun e => by rw [e]; exact h) (t w')
theorem vx_n {args : Array Value} {s : State} : ∀ w ∈ ([] : List Cond), w.before args s = true := fun _ h => nomatch h
theorem vx_own {args : Array Value} {s : State} {L : List Cond} (h1 : ∀ w ∈ L.filter vx_no, w.before args s = true)
    (hU : (Cond.isRef (.static Bundle.tN "UNASSIGNED_STACK" Bundle.steD)).before args s = true) (hN : (Cond.isRef (.static Bundle.tN "SUPPRESSED_SENTINEL" Bundle.listD)).before args s = true)
    (lU : (Cond.laysStatic Bundle.tN "UNASSIGNED_STACK" Bundle.steD).before args s = true) (lN : (Cond.laysStatic Bundle.tN "SUPPRESSED_SENTINEL" Bundle.listD).before args s = true) : ∀ w ∈ L, w.before args s = true := by
  intro w hw
  by_cases e1 : w = .isRef (.static Bundle.tN "UNASSIGNED_STACK" Bundle.steD)
  · rw [e1]; exact hU
  · by_cases e2 : w = .isRef (.static Bundle.tN "SUPPRESSED_SENTINEL" Bundle.listD)
    · rw [e2]; exact hN
    · by_cases e3 : w = .laysStatic Bundle.tN "UNASSIGNED_STACK" Bundle.steD
      · rw [e3]; exact lU
      · by_cases e4 : w = .laysStatic Bundle.tN "SUPPRESSED_SENTINEL" Bundle.listD
        · rw [e4]; exact lN
        · exact h1 w (List.mem_filter.mpr ⟨hw, by unfold vx_no; rw [decide_eq_true e1, decide_eq_true e2, decide_eq_true e3, decide_eq_true e4]; rfl⟩)
/-- where a static field lies, its class's statics cell in H -/
def vx_L (C n d : String) (A : Nat → Prop) (U : State) (H : Heap) : Prop := ∃ (c : ClassId) (k : Class) (i : Nat) (f : Field) (a : Nat) (cell : Cell), U.vm.findClass C = some c ∧ U.fieldFound? C n d = some (c, k, i, f) ∧ f.isStatic = true ∧ k.statics = some a ∧ H[a]? = some cell ∧ cell.vm.isStatics = true ∧ cell.cls = c ∧ f.slot < cell.slots.size ∧ k.staticTypes[f.slot]? = some f.type ∧ ¬ A a
theorem vx_L.moved {C n d : String} {A : Nat → Prop} {u U : State} {H : Heap} (hvm : u.vm.Alike U.vm) (h : vx_L C n d A u H) : vx_L C n d A U H := by
  obtain ⟨c, k, i, f, a, cell, h1, h2, h3, h4, h5, h6, h7, h8, h9, h10⟩ := h
  obtain ⟨k', hi', he⟩ := State.fieldFound?_setVm hvm h2
  exact ⟨c, k', i, f, a, cell, by rw [hvm.findClass]; exact h1, hi', h3, by rw [he]; exact h4, h5, h6, h7, h8, by rw [he]; exact h9, h10⟩
theorem vx_L.kept {C n d : String} {A : Nat → Prop} {U : State} {H H1 : Heap} (h : vx_L C n d A U H) (hq : ∀ a : Nat, a < H.size → ¬ A a → H1[a]? = H[a]?) : vx_L C n d A U H1 := by
  obtain ⟨c, k, i, f, a, cell, h1, h2, h3, h4, h5, h6, h7, h8, h9, h10⟩ := h
  exact ⟨c, k, i, f, a, cell, h1, h2, h3, h4, by rw [hq a (Array.getElem?_eq_some_iff.mp h5).1 h10]; exact h5, h6, h7, h8, h9, h10⟩
theorem vx_L.narrow {C n d : String} {A B : Nat → Prop} {U : State} {H : Heap} (h : vx_L C n d A U H) (hAB : ∀ q, B q → A q) : vx_L C n d B U H := by
  obtain ⟨c, k, i, f, a, cell, h1, h2, h3, h4, h5, h6, h7, h8, h9, h10⟩ := h
  exact ⟨c, k, i, f, a, cell, h1, h2, h3, h4, h5, h6, h7, h8, h9, fun z => h10 (hAB _ z)⟩
theorem vx_L.word {C n d : String} {A : Nat → Prop} {s : State} {args : Array Value} (h : vx_L C n d A s s.heap) : (Cond.laysStatic C n d).before args s = true := by
  obtain ⟨c, k, i, f, a, cell, h1, h2, h3, h4, h5, h6, h7, h8, h9, -⟩ := h
  show (Cond.laysStatic C n d).holds args s none s [] = true
  exact Cond.laysStatic_of h1 h2 h3 h4 h5 h6 h7 h8 h9
/-- .. and what it holds: null or some reference -/
def vx_Zq (C n d : String) (A : Nat → Prop) (U : State) (H : Heap) : Prop := va_Zq C n d A U H ∧ vx_L C n d A U H
theorem vx_Zq.moved {C n d : String} {A : Nat → Prop} {u U : State} {H : Heap} (hvm : u.vm.Alike U.vm) (h : vx_Zq C n d A u H) : vx_Zq C n d A U H := ⟨va_Zq.moved hvm h.1, vx_L.moved hvm h.2⟩
theorem vx_Zq.kept {C n d : String} {A : Nat → Prop} {U : State} {H H1 : Heap} (h : vx_Zq C n d A U H) (hq : ∀ a : Nat, a < H.size → ¬ A a → H1[a]? = H[a]?) : vx_Zq C n d A U H1 := ⟨va_Zq.kept h.1 hq, vx_L.kept h.2 hq⟩
theorem vx_Zq.narrow {C n d : String} {A B : Nat → Prop} {U : State} {H : Heap} (h : vx_Zq C n d A U H) (hAB : ∀ q, B q → A q) : vx_Zq C n d B U H := ⟨va_Zq.narrow h.1 hAB, vx_L.narrow h.2 hAB⟩
theorem vx_Zqof {args : Array Value} {s : State} {C n d : String} {A : Nat → Prop} (hl : (Cond.laysStatic C n d).before args s = true) (hini : (Cond.initialized C).before args s = true) (h : (Cond.isRef (.static C n d)).before args s = true) (hA : ∀ a : Nat, a < s.heap.size → ¬ A a) : vx_Zq C n d A s s.heap := by
  refine ⟨va_Zqof hl hini h hA, ?_⟩
  obtain ⟨c, k, i, f, a, cell, h1, h2, h3, h4, h5, h6, h7, h8, h9⟩ := Cond.laysStatic_spec hl
  exact ⟨c, k, i, f, a, cell, h1, h2, h3, h4, h5, h6, h7, h8, h9, hA a (Array.getElem?_eq_some_iff.mp h5).1⟩
theorem vx_isRef {C n d : String} {v : Value} {A : Nat → Prop} {s : State} {args : Array Value} (h : va_Z C n d v A s s.heap) (hv : v.isRef = true) : (Cond.isRef (.static C n d)).before args s = true := by
  obtain ⟨cf, kf, fi, f, a, cell, h1, h2, h3, h4, h5, h6, h7, -⟩ := h
  have he : (Term.static C n d).eval args s none [] s = some v := by
    simp [Term.eval, State.fieldNamed?, h1, h2, h4, h5, h6, h7]
  simp only [Cond.before, Cond.holds, Cond.value, he]
  cases v <;> simp_all [Value.isRef]
theorem vx_isRefq {C n d : String} {A : Nat → Prop} {s : State} {args : Array Value} (h : va_Zq C n d A s s.heap) : (Cond.isRef (.static C n d)).before args s = true := by
  rcases h with h | ⟨t, h⟩
  · exact vx_isRef h rfl
  · exact vx_isRef h rfl
/-- the same frame, seen from here: as if the method were called anew in this heap -/
theorem vx_rebase {T : State} (X : Stand p l e R s m args below meth c T locs cells slots) {R' : Room} (hf : R'.frames ≤ R.frames) (hl : R'.locals ≤ R.locals) (hc : cells + R'.cells ≤ R.cells) (hs : slots + R'.slots ≤ R.slots) :
    Stand p l e R' ((T.setVm s.vm).setFrames (.invoking m args :: below)) m args below meth c T [] 0 0 := by
  have htop : (T.setVm s.vm).topJava?.isSome := X.here.top
  have hF : ((T.setVm s.vm).setFrames (.invoking m args :: below)).frames = .invoking m args :: below := State.frames_setFrames _ (State.cur_lt_of_top htop)
  obtain ⟨g₀, hg0⟩ := Option.isSome_iff_exists.mp htop
  obtain ⟨r, hr⟩ := State.topJava?_eq_some.mp hg0
  have hl9 : e.platform.stackLimits (T.setVm s.vm).me = e.platform.stackLimits s.me := X.limits
  have hb9 : (T.setVm s.vm).me.stackBytes = s.me.stackBytes := X.bytes
  refine ⟨X.admits, X.cas, X.clock, hF, ?_, X.hears, X.method, X.code, X.here, X.tail, X.warmed, ?_, ?_, ?_⟩
  · have h := X.room
    have hU : ((T.setVm s.vm).setFrames (.invoking m args :: below)).localsInUse = s.localsInUse := by
      rw [State.localsInUse_invoking hF (meth := meth) (c := c) X.method X.code, State.localsInUse_invoking X.frames X.method X.code]
    simp only [State.hasRoom, Bool.and_eq_true, decide_eq_true_eq] at h ⊢
    obtain ⟨⟨⟨⟨h1, h2, h3, h4, h5, h6⟩, h7⟩, h8⟩, h9⟩ := h
    rw [X.frames, List.length_cons] at h2 h3
    have q1 := X.heapSize
    have q2 := X.used
    simp only [hF, hU, List.length_cons, State.stackLimits_setFrames, State.stackBytes_setFrames, hl9, hb9]
    refine ⟨⟨⟨⟨by omega, by omega, by omega, by omega, by omega, h6⟩, ?_⟩, ?_⟩, X.book⟩
    · show T.heap.size + R'.cells ≤ e.platform.maxCells
      omega
    · show T.slotsUsed + R'.slots ≤ e.platform.maxSlots
      omega
  · rw [State.stackLimits_setFrames]; rfl
  · rw [State.stackBytes_setFrames]; rfl
  · refine ⟨?_, Nat.le_refl _, Nat.le_refl _, ?_, ?_, fun a c9 h9 => ⟨c9, h9, rfl, rfl, fun _ _ => rfl⟩⟩
    · obtain ⟨t, ht, -⟩ := State.frames_cons hr
      show T.setVm s.vm = { ((T.setVm s.vm).setFrames (.invoking m args :: below)).setFrames (T.setVm s.vm).frames with heap := T.heap, slotsUsed := T.slotsUsed }
      rw [State.setFrames_setFrames, State.setFrames_self ht]
      rfl
    · show T.slotsUsed = T.slotsUsed + ((T.heap.toList.drop T.heap.size).map (·.slots.size)).sum
      rw [List.drop_eq_nil_of_le (Nat.le_of_eq Array.length_toList)]
      rfl
    · show ((T.heap.toList.drop T.heap.size).map (·.slots.size)).sum ≤ 0
      rw [List.drop_eq_nil_of_le (Nat.le_of_eq Array.length_toList)]
      exact Nat.le_refl _
/-- 'throw new E()': new; dup; invokespecial; athrow -/
theorem vx_throw0 {cc : ByteArray} {pc : Nat} (hexec : p.tables.exec = Jvm.exec) (hb : c.code = cc) (hl : l.stackTraces = false) {own cls : String} {names : List String} {ik ic mc ms : Nat} {A : Nat → Prop}
    (hown : s.vm.findClass own = some m.cls) (hcls : Bundle.fit cls = true) (hnames : ∀ n ∈ names, Bundle.fit n = true)
    (hk : (Cond.classLink own ik cls).before args s = true) (hini : (Cond.initialized cls).before args s = true) (hat : ∀ w ∈ vx_at0 own ic cls names, w.before args s = true)
    (hgood : ∀ w ∈ Cond.classLink own ik cls :: Cond.initialized cls :: vx_at0 own ic cls names, vx_ot w = true)
    (hU : vx_Zq Bundle.tN "UNASSIGNED_STACK" Bundle.steD A s s.heap) (hN : vx_Zq Bundle.tN "SUPPRESSED_SENTINEL" Bundle.listD A s s.heap) (hS : va_S A s.heap H locs) (hsize : ls.size = c.maxLocals)
    (d0 : decode cc pc = .ok (.new ik, 3)) (d3 : decode cc (pc + 3) = .ok (.dup, 1)) (d4 : decode cc (pc + 4) = .ok (.invokespecial ic, 3)) (d7 : decode cc (pc + 7) = .ok (.athrow, 1))
    (hout : ∀ x ∈ c.exceptionTable.toList, covers x (pc + 7) = false)
    (hRframes : names.length + 3 < R.frames) (hRlocals : (rest.map fun v => v.category).sum + (13 * (names.length + 1) + 42) ≤ R.locals) (hRcells : cells + 1 ≤ R.cells) (hRslots : slots + 6 ≤ R.slots) (hlocks : meth.locks = false)
    (hx : ∀ t : State, s.vm.Alike t.vm → H.size ≤ t.heap.size → (∀ q : Nat, q < H.size → t.heap[q]? = H[q]?) → XC cls s t)
    (hf : ∀ z ∈ locs, free z.base) (hc : cells + 1 ≤ mc) (hs : slots + 6 ≤ ms) :
    W p l e R s m args below meth c H locs cells slots (vx_MQ below Qc XC args s mc ms free) (F0 m pc ls rest) := by
  intro T hT X
  have htr : e.platform.stackTraces = false := (show e.platform.stackTraces = l.stackTraces by rw [X.admits.platform]).trans hl
  have Y := vx_rebase X (R' := { frames := R.frames, locals := R.locals, cells := 1, slots := 6 }) (Nat.le_refl _) (Nat.le_refl _) hRcells hRslots
  obtain ⟨s', hA⟩ : ∃ z, z = (T.setVm s.vm).setFrames (.invoking m args :: below) := ⟨_, rfl⟩
  rw [← hA] at Y
  have hvm : s'.vm = s.vm := by rw [hA]; rfl
  have hhp : s'.heap = H := by rw [hA]; exact hT
  have hW0 : s.WarmedH s'.vm := by rw [hvm]; exact State.WarmedH.refl s
  have hat' : ∀ w ∈ vx_at0 own ic cls names, w.before args s' = true := fun w hw => vx_ot_at hW0 hvm.symm (hgood w (List.mem_cons_of_mem _ (List.mem_cons_of_mem _ hw))) (hat w hw)
  have hk' : (Cond.classLink own ik cls).before args s' = true := vx_ot_at hW0 hvm.symm (hgood _ List.mem_cons_self) hk
  have hini' : (Cond.initialized cls).before args s' = true := vx_ot_at hW0 hvm.symm (hgood _ (List.mem_cons_of_mem _ List.mem_cons_self)) hini
  have hU' : vx_Zq Bundle.tN "UNASSIGNED_STACK" Bundle.steD A s' s'.heap := by rw [hhp]; exact vx_Zq.moved hW0.alike (hU.kept hS.2.1)
  have hN' : vx_Zq Bundle.tN "SUPPRESSED_SENTINEL" Bundle.listD A s' s'.heap := by rw [hhp]; exact vx_Zq.moved hW0.alike (hN.kept hS.2.1)
  have h : ∀ w ∈ Bundle.ownAtoms0 own ic cls names, w.before args s' = true := vx_own hat' (vx_isRefq hU'.1) (vx_isRefq hN'.1) hU'.2.word hN'.2.word
  have hown' : s'.vm.findClass own = some m.cls := by rw [hvm]; exact hown
  have hins : (Cond.instantiable cls 6).before args s' = true := h _ (by simp [Bundle.ownAtoms0])
  obtain ⟨vm₁, cX, kX, hfX, hkX, -, -, X₁, st1⟩ := Y.newCold hexec (own := own) (C := cls) (index := ik) (n := 6) hown' hk' hins hini'
    (g := F0 m pc ls rest) rfl (by rw [hb]; exact d0) (Nat.le_refl _) (Nat.le_refl _)
  generalize hT1 : (T.setVm vm₁).pushCell { cls := cX, slots := kX.instanceTypes.map defaultValue, vm := .none } = T1 at X₁ st1
  have hcat : (Value.ref T.heap.size).category = 1 := rfl
  have hcellA : T1.heap[T.heap.size]? = some (freshCell cX kX) := by rw [← hT1]; exact State.heap_pushCell_size _ _
  have d3' : decode c.code (pc + 3) = .ok (.dup, 1) := by rw [hb]; exact d3
  obtain ⟨U, hsteps, hrun, hend, hW, hsame, ce, hce, hO⟩ := X₁.ctorThrow0 hexec htr (own := own) (cls := cls) (names := names) (ic := ic) hown' hcls hnames h (fun x hx => nomatch hx) hfX hkX hcellA (by rw [hhp, hT]; exact Nat.le_refl _)
    (g := { method := m, pc := pc + 4, locals := ls, stack := .ref T.heap.size :: .ref T.heap.size :: rest, locked := none }) rfl hsize rfl rfl (rest := rest) rfl
    (by rw [hb]; exact d4) (by rw [hb]; exact d7) hout hRframes (by simp only [List.map_cons, List.sum_cons, hcat]; omega) hlocks
  obtain ⟨f1, f2⟩ := vx_frame hsame
  rw [hhp] at f1 f2
  have hWs : s.WarmedH U.vm := State.WarmedH.trans hW0 hW
  have hcl : s.vm.findClass cls = some ce.cls := by
    have h9 := hO.cls
    rw [hvm] at h9
    exact h9
  have hall : s.sameButNew ({ U with vm := s.vm } : State) locs mc ms := by
    subst hA
    obtain ⟨e1, e2⟩ := hsame
    rw [State.setFrames_setFrames] at e1
    have h2 : (T.setVm s.vm).sameButNew ({ U with vm := s.vm } : State) [] (0 + 1) (0 + 6) := ⟨e1, e2⟩
    have h3 := X.same.trans h2
    rw [List.append_nil] at h3
    exact h3.mono hc hs
  refine ⟨U, ?_, .threw T.heap.size, hrun, hend, Or.inr ⟨T.heap.size, rfl, cls, ce, locs, hx U hWs.alike f1 (fun q hq => f2 q hq (fun z hz => nomatch hz)), hce, hO.vm, hcl, hWs, hall, hf⟩⟩
  refine st1 _ ?_
  show Steps p.tables e below (T1.setTop { method := m, pc := pc + 3, locals := ls, stack := .ref T.heap.size :: rest, locked := none }) _
  jvm_step X₁.here [X₁.here.top, hexec, d3', Value.category]
  exact hsteps
/-- 'throw new E("text")': new; dup; ldc; invokespecial; athrow -/
theorem vx_throwS {cc : ByteArray} {pc : Nat} (hexec : p.tables.exec = Jvm.exec) (hb : c.code = cc) (hl : l.stackTraces = false) {own cls text : String} {names : List String} {ik is ic mc ms sa : Nat} {A : Nat → Prop}
    (hown : s.vm.findClass own = some m.cls) (hcls : Bundle.fit cls = true) (hnames : ∀ n ∈ names, Bundle.fit n = true)
    (hk : (Cond.classLink own ik cls).before args s = true) (hini : (Cond.initialized cls).before args s = true) (hstr : vk_R own is text sa s) (hat : ∀ w ∈ vx_atS own ic cls names, w.before args s = true)
    (hgood : ∀ w ∈ Cond.classLink own ik cls :: Cond.initialized cls :: vx_atS own ic cls names, vx_ot w = true)
    (hU : vx_Zq Bundle.tN "UNASSIGNED_STACK" Bundle.steD A s s.heap) (hN : vx_Zq Bundle.tN "SUPPRESSED_SENTINEL" Bundle.listD A s s.heap) (hS : va_S A s.heap H locs) (hsize : ls.size = c.maxLocals)
    (d0 : decode cc pc = .ok (.new ik, 3)) (d3 : decode cc (pc + 3) = .ok (.dup, 1)) (d4 : decode cc (pc + 4) = .ok (.ldc is, 2)) (d6 : decode cc (pc + 6) = .ok (.invokespecial ic, 3)) (d9 : decode cc (pc + 9) = .ok (.athrow, 1))
    (hout : ∀ x ∈ c.exceptionTable.toList, covers x (pc + 9) = false)
    (hRframes : names.length + 3 < R.frames) (hRlocals : (rest.map fun v => v.category).sum + (13 * (names.length + 1) + 43) ≤ R.locals) (hRcells : cells + 1 ≤ R.cells) (hRslots : slots + 6 ≤ R.slots) (hlocks : meth.locks = false)
    (hx : ∀ t : State, s.vm.Alike t.vm → H.size ≤ t.heap.size → (∀ q : Nat, q < H.size → t.heap[q]? = H[q]?) → XC cls s t)
    (hf : ∀ z ∈ locs, free z.base) (hc : cells + 1 ≤ mc) (hs : slots + 6 ≤ ms) :
    W p l e R s m args below meth c H locs cells slots (vx_MQ below Qc XC args s mc ms free) (F0 m pc ls rest) := by
  intro T hT X
  have htr : e.platform.stackTraces = false := (show e.platform.stackTraces = l.stackTraces by rw [X.admits.platform]).trans hl
  have Y := vx_rebase X (R' := { frames := R.frames, locals := R.locals, cells := 1, slots := 6 }) (Nat.le_refl _) (Nat.le_refl _) hRcells hRslots
  obtain ⟨s', hA⟩ : ∃ z, z = (T.setVm s.vm).setFrames (.invoking m args :: below) := ⟨_, rfl⟩
  rw [← hA] at Y
  have hvm : s'.vm = s.vm := by rw [hA]; rfl
  have hhp : s'.heap = H := by rw [hA]; exact hT
  have hW0 : s.WarmedH s'.vm := by rw [hvm]; exact State.WarmedH.refl s
  have hat' : ∀ w ∈ vx_atS own ic cls names, w.before args s' = true := fun w hw => vx_ot_at hW0 hvm.symm (hgood w (List.mem_cons_of_mem _ (List.mem_cons_of_mem _ hw))) (hat w hw)
  have hk' : (Cond.classLink own ik cls).before args s' = true := vx_ot_at hW0 hvm.symm (hgood _ List.mem_cons_self) hk
  have hini' : (Cond.initialized cls).before args s' = true := vx_ot_at hW0 hvm.symm (hgood _ (List.mem_cons_of_mem _ List.mem_cons_self)) hini
  have hU' : vx_Zq Bundle.tN "UNASSIGNED_STACK" Bundle.steD A s' s'.heap := by rw [hhp]; exact vx_Zq.moved hW0.alike (hU.kept hS.2.1)
  have hN' : vx_Zq Bundle.tN "SUPPRESSED_SENTINEL" Bundle.listD A s' s'.heap := by rw [hhp]; exact vx_Zq.moved hW0.alike (hN.kept hS.2.1)
  have h : ∀ w ∈ Bundle.ownAtoms own ic cls names, w.before args s' = true := vx_own hat' (vx_isRefq hU'.1) (vx_isRefq hN'.1) hU'.2.word hN'.2.word
  have hown' : s'.vm.findClass own = some m.cls := by rw [hvm]; exact hown
  have hins : (Cond.instantiable cls 6).before args s' = true := h _ (by simp [Bundle.ownAtoms])
  obtain ⟨vm₁, cX, kX, hfX, hkX, -, -, X₁, st1⟩ := Y.newCold hexec (own := own) (C := cls) (index := ik) (n := 6) hown' hk' hins hini'
    (g := F0 m pc ls rest) rfl (by rw [hb]; exact d0) (Nat.le_refl _) (Nat.le_refl _)
  generalize hT1 : (T.setVm vm₁).pushCell { cls := cX, slots := kX.instanceTypes.map defaultValue, vm := .none } = T1 at X₁ st1
  have hcat : (Value.ref T.heap.size).category = 1 := rfl
  have hcellA : T1.heap[T.heap.size]? = some (freshCell cX kX) := by rw [← hT1]; exact State.heap_pushCell_size _ _
  have d3' : decode c.code (pc + 3) = .ok (.dup, 1) := by rw [hb]; exact d3
  have d4' : decode c.code (pc + 4) = .ok (.ldc is, 2) := by rw [hb]; exact d4
  have hstr' : vk_R own is text sa s' := vk_R.warm hW0 hstr
  obtain ⟨U, hsteps, hrun, hend, hW, hsame, ce, hce, hO⟩ := X₁.ctorThrowS hexec htr (own := own) (cls := cls) (names := names) (ic := ic) hown' hcls hnames h (fun x hx => nomatch hx) hfX hkX hcellA (by rw [hhp, hT]; exact Nat.le_refl _) (msg := .ref sa) rfl
    (g := { method := m, pc := pc + 6, locals := ls, stack := .ref sa :: .ref T.heap.size :: .ref T.heap.size :: rest, locked := none }) rfl hsize rfl rfl (rest := rest) rfl
    (by rw [hb]; exact d6) (by rw [hb]; exact d9) hout hRframes (by simp only [List.map_cons, List.sum_cons, hcat]; omega) hlocks
  obtain ⟨f1, f2⟩ := vx_frame hsame
  rw [hhp] at f1 f2
  have hWs : s.WarmedH U.vm := State.WarmedH.trans hW0 hW
  have hcl : s.vm.findClass cls = some ce.cls := by
    have h9 := hO.cls
    rw [hvm] at h9
    exact h9
  have hall : s.sameButNew ({ U with vm := s.vm } : State) locs mc ms := by
    subst hA
    obtain ⟨e1, e2⟩ := hsame
    rw [State.setFrames_setFrames] at e1
    have h2 : (T.setVm s.vm).sameButNew ({ U with vm := s.vm } : State) [] (0 + 1) (0 + 6) := ⟨e1, e2⟩
    have h3 := X.same.trans h2
    rw [List.append_nil] at h3
    exact h3.mono hc hs
  refine ⟨U, ?_, .threw T.heap.size, hrun, hend, Or.inr ⟨T.heap.size, rfl, cls, ce, locs, hx U hWs.alike f1 (fun q hq => f2 q hq (fun z hz => nomatch hz)), hce, hO.vm, hcl, hWs, hall, hf⟩⟩
  refine st1 _ ?_
  show Steps p.tables e below (T1.setTop { method := m, pc := pc + 3, locals := ls, stack := .ref T.heap.size :: rest, locked := none }) _
  jvm_step X₁.here [X₁.here.top, hexec, d3', Value.category]
  exact X₁.ldcString hexec (own := own) (text := text) (index := is) (a := sa) hown' hstr'.1 hstr'.2
    (g := { method := m, pc := pc + 4, locals := ls, stack := .ref T.heap.size :: .ref T.heap.size :: rest, locked := none }) rfl d4' _ hsteps
/-- 'throw new E("text")', the text by a wide index -/
theorem vx_throwSW {cc : ByteArray} {pc : Nat} (hexec : p.tables.exec = Jvm.exec) (hb : c.code = cc) (hl : l.stackTraces = false) {own cls text : String} {names : List String} {ik is ic mc ms sa : Nat} {A : Nat → Prop}
    (hown : s.vm.findClass own = some m.cls) (hcls : Bundle.fit cls = true) (hnames : ∀ n ∈ names, Bundle.fit n = true)
    (hk : (Cond.classLink own ik cls).before args s = true) (hini : (Cond.initialized cls).before args s = true) (hstr : vk_R own is text sa s) (hat : ∀ w ∈ vx_atS own ic cls names, w.before args s = true)
    (hgood : ∀ w ∈ Cond.classLink own ik cls :: Cond.initialized cls :: vx_atS own ic cls names, vx_ot w = true)
    (hU : vx_Zq Bundle.tN "UNASSIGNED_STACK" Bundle.steD A s s.heap) (hN : vx_Zq Bundle.tN "SUPPRESSED_SENTINEL" Bundle.listD A s s.heap) (hS : va_S A s.heap H locs) (hsize : ls.size = c.maxLocals)
    (d0 : decode cc pc = .ok (.new ik, 3)) (d3 : decode cc (pc + 3) = .ok (.dup, 1)) (d4 : decode cc (pc + 4) = .ok (.ldc_w is, 3)) (d7 : decode cc (pc + 7) = .ok (.invokespecial ic, 3)) (d10 : decode cc (pc + 10) = .ok (.athrow, 1))
    (hout : ∀ x ∈ c.exceptionTable.toList, covers x (pc + 10) = false)
    (hRframes : names.length + 3 < R.frames) (hRlocals : (rest.map fun v => v.category).sum + (13 * (names.length + 1) + 43) ≤ R.locals) (hRcells : cells + 1 ≤ R.cells) (hRslots : slots + 6 ≤ R.slots) (hlocks : meth.locks = false)
    (hx : ∀ t : State, s.vm.Alike t.vm → H.size ≤ t.heap.size → (∀ q : Nat, q < H.size → t.heap[q]? = H[q]?) → XC cls s t)
    (hf : ∀ z ∈ locs, free z.base) (hc : cells + 1 ≤ mc) (hs : slots + 6 ≤ ms) :
    W p l e R s m args below meth c H locs cells slots (vx_MQ below Qc XC args s mc ms free) (F0 m pc ls rest) := by
  intro T hT X
  have htr : e.platform.stackTraces = false := (show e.platform.stackTraces = l.stackTraces by rw [X.admits.platform]).trans hl
  have Y := vx_rebase X (R' := { frames := R.frames, locals := R.locals, cells := 1, slots := 6 }) (Nat.le_refl _) (Nat.le_refl _) hRcells hRslots
  obtain ⟨s', hA⟩ : ∃ z, z = (T.setVm s.vm).setFrames (.invoking m args :: below) := ⟨_, rfl⟩
  rw [← hA] at Y
  have hvm : s'.vm = s.vm := by rw [hA]; rfl
  have hhp : s'.heap = H := by rw [hA]; exact hT
  have hW0 : s.WarmedH s'.vm := by rw [hvm]; exact State.WarmedH.refl s
  have hat' : ∀ w ∈ vx_atS own ic cls names, w.before args s' = true := fun w hw => vx_ot_at hW0 hvm.symm (hgood w (List.mem_cons_of_mem _ (List.mem_cons_of_mem _ hw))) (hat w hw)
  have hk' : (Cond.classLink own ik cls).before args s' = true := vx_ot_at hW0 hvm.symm (hgood _ List.mem_cons_self) hk
  have hini' : (Cond.initialized cls).before args s' = true := vx_ot_at hW0 hvm.symm (hgood _ (List.mem_cons_of_mem _ List.mem_cons_self)) hini
  have hU' : vx_Zq Bundle.tN "UNASSIGNED_STACK" Bundle.steD A s' s'.heap := by rw [hhp]; exact vx_Zq.moved hW0.alike (hU.kept hS.2.1)
  have hN' : vx_Zq Bundle.tN "SUPPRESSED_SENTINEL" Bundle.listD A s' s'.heap := by rw [hhp]; exact vx_Zq.moved hW0.alike (hN.kept hS.2.1)
  have h : ∀ w ∈ Bundle.ownAtoms own ic cls names, w.before args s' = true := vx_own hat' (vx_isRefq hU'.1) (vx_isRefq hN'.1) hU'.2.word hN'.2.word
  have hown' : s'.vm.findClass own = some m.cls := by rw [hvm]; exact hown
  have hins : (Cond.instantiable cls 6).before args s' = true := h _ (by simp [Bundle.ownAtoms])
  obtain ⟨vm₁, cX, kX, hfX, hkX, -, -, X₁, st1⟩ := Y.newCold hexec (own := own) (C := cls) (index := ik) (n := 6) hown' hk' hins hini'
    (g := F0 m pc ls rest) rfl (by rw [hb]; exact d0) (Nat.le_refl _) (Nat.le_refl _)
  generalize hT1 : (T.setVm vm₁).pushCell { cls := cX, slots := kX.instanceTypes.map defaultValue, vm := .none } = T1 at X₁ st1
  have hcat : (Value.ref T.heap.size).category = 1 := rfl
  have hcellA : T1.heap[T.heap.size]? = some (freshCell cX kX) := by rw [← hT1]; exact State.heap_pushCell_size _ _
  have d3' : decode c.code (pc + 3) = .ok (.dup, 1) := by rw [hb]; exact d3
  have d4' : decode c.code (pc + 4) = .ok (.ldc_w is, 3) := by rw [hb]; exact d4
  have hstr' : vk_R own is text sa s' := vk_R.warm hW0 hstr
  obtain ⟨U, hsteps, hrun, hend, hW, hsame, ce, hce, hO⟩ := X₁.ctorThrowS hexec htr (own := own) (cls := cls) (names := names) (ic := ic) hown' hcls hnames h (fun x hx => nomatch hx) hfX hkX hcellA (by rw [hhp, hT]; exact Nat.le_refl _) (msg := .ref sa) rfl
    (g := { method := m, pc := pc + 7, locals := ls, stack := .ref sa :: .ref T.heap.size :: .ref T.heap.size :: rest, locked := none }) rfl hsize rfl rfl (rest := rest) rfl
    (by rw [hb]; exact d7) (by rw [hb]; exact d10) hout hRframes (by simp only [List.map_cons, List.sum_cons, hcat]; omega) hlocks
  obtain ⟨f1, f2⟩ := vx_frame hsame
  rw [hhp] at f1 f2
  have hWs : s.WarmedH U.vm := State.WarmedH.trans hW0 hW
  have hcl : s.vm.findClass cls = some ce.cls := by
    have h9 := hO.cls
    rw [hvm] at h9
    exact h9
  have hall : s.sameButNew ({ U with vm := s.vm } : State) locs mc ms := by
    subst hA
    obtain ⟨e1, e2⟩ := hsame
    rw [State.setFrames_setFrames] at e1
    have h2 : (T.setVm s.vm).sameButNew ({ U with vm := s.vm } : State) [] (0 + 1) (0 + 6) := ⟨e1, e2⟩
    have h3 := X.same.trans h2
    rw [List.append_nil] at h3
    exact h3.mono hc hs
  refine ⟨U, ?_, .threw T.heap.size, hrun, hend, Or.inr ⟨T.heap.size, rfl, cls, ce, locs, hx U hWs.alike f1 (fun q hq => f2 q hq (fun z hz => nomatch hz)), hce, hO.vm, hcl, hWs, hall, hf⟩⟩
  refine st1 _ ?_
  show Steps p.tables e below (T1.setTop { method := m, pc := pc + 3, locals := ls, stack := .ref T.heap.size :: rest, locked := none }) _
  jvm_step X₁.here [X₁.here.top, hexec, d3', Value.category]
  exact X₁.ldcStringW hexec (own := own) (text := text) (index := is) (a := sa) hown' hstr'.1 hstr'.2
    (g := { method := m, pc := pc + 4, locals := ls, stack := .ref T.heap.size :: .ref T.heap.size :: rest, locked := none }) rfl d4' _ hsteps
end Ends
section Bodies
variable {l : Launch}
theorem vx_ofW {y : MethodName} {ws ws' : List Cond} {rm : Room} {Pc : Array Value → State → Prop} {Qc : Array Value → State → Outcome → State → Prop} {XC : String → State → State → Prop} {mc ms : Nat} {free : Addr → Prop} {cc : ByteArray} {maxL : Nat} {ret : Option FieldType}
    (hy : plainName y.cls = true) (hw : ws = Cond.code y cc maxL ret :: ws')
    (body : ∀ p e s m args below meth c s₁, BodyLoose p l y (headSpec ws rm) cc maxL ret e s m args below meth c s₁ → c.maxLocals = maxL → (∀ x ∈ c.exceptionTable.toList, False) → Pc args s →
      W p l e (headSpec ws rm).room s m args below meth c s.heap [] 0 0 (vx_MQ below Qc XC args s mc ms free) (entryFrame m args maxL)) : vx_Met l y ws rm Pc Qc XC mc ms free := by
  refine MetFree.of_bodyS (code := cc) (maxLocals := maxL) (ret := ret) hy ?_ ?_
  · intro args s m h hn
    obtain ⟨meth, c, h1, h2, h3, h4, h5, h6, -, -⟩ := Cond.code_spec hn (atoms_spec (ws := ws) h _ (by rw [hw]; exact List.mem_cons_self))
    exact ⟨meth, c, h1, h2, h3, h4, h5, h6⟩
  · intro p e s m args below meth c s₁ B hml hP _
    have hh0 : s₁.heap = s.heap := by rw [B.state]; rfl
    have ht : ∀ x ∈ c.exceptionTable.toList, False := by
      obtain ⟨meth9, c9, h1, h2, -, -, -, -, h7, -⟩ := Cond.code_spec B.named (atoms_spec (ws := ws) B.pre _ (by rw [hw]; exact List.mem_cons_self))
      cases Option.some.inj (h1.symm.trans B.method)
      cases Option.some.inj (h2.symm.trans (Stand.of_body B).code)
      intro x hx
      rw [Array.isEmpty_iff.mp h7] at hx
      cases hx
    obtain ⟨t, a1, o, b1, b2, b3⟩ := body p e s m args below meth c s₁ B hml ht hP s₁ hh0 (Stand.of_body B)
    exact ⟨t, o, a1, b1, b2, b3⟩
/-- the table of a body with handlers -/
theorem vx_table {p : Program} {x y : MethodName} {S : Spec} {cc bytes : ByteArray} {maxL maxL' : Nat} {ret ret' : Option FieldType} {e : Env} {s s₁ : State} {m : MethodId} {args : Array Value} {below : List Frame} {meth : Method} {c : Code} {hh : List (Nat × Nat × Nat × Nat)}
    (B : BodyLoose p l y S cc maxL ret e s m args below meth c s₁) (h : (Cond.codeWith y bytes maxL' ret' hh).before args s = true) : c.exceptionTable.toList = tableOf hh := by
  obtain ⟨m9, meth9, c9, hn9, h1, h2, -, -, h6, -⟩ := Cond.codeWith_spec h
  cases Option.some.inj (hn9.symm.trans B.named)
  cases Option.some.inj (h1.symm.trans B.method)
  cases Option.some.inj (h2.symm.trans (Stand.of_body B).code)
  rw [← h6, table_eq]
end Bodies
end VXA
/-! ===== END ===== -/
/-! ===== BEGIN a static call of a method with an exception table ===== -/
section VXS
variable {p : Program} {l : Launch} {e : Env} {R : Room} {s : State} {m : MethodId} {args : Array Value} {below : List Frame} {meth : Method} {c : Code} {T : State} {H : Heap} {locs : List Loc} {cells slots : Nat}
abbrev vx_CSW (R : Room) (s : State) (args : Array Value) (own : String) (index : Nat) (y : MethodName) (bytes : ByteArray) (maxL : Nat) (ret : Option FieldType) (hh : List (Nat × Nat × Nat × Nat)) (ws : List Cond) (rm : Room) (mc ms n : Nat) : Prop :=
  (rm.cells = mc ∧ rm.slots = ms ∧ rm.frames + 1 ≤ R.frames ∧ 8 + (maxL + 11) + rm.locals ≤ R.locals ∧ (∀ w ∈ ws, ∀ (a' : Array Value) (U : State), s.WarmedH U.vm → w.before a' U = true) ∧ Cond.codeWith y bytes maxL ret hh ∈ ws) ∧
  (Cond.codeWith y bytes maxL ret hh).before args s = true ∧ (Cond.initialized y.cls).before args s = true ∧ (y.cls ≠ "java/lang/invoke/MethodHandle" ∧ y.cls ≠ "java/lang/invoke/VarHandle") ∧
  (∀ sig, parseMethodDescriptor y.desc = some sig → n = sig.parameters.length) ∧ (Cond.methodLink own index y).before args s = true ∧ (Cond.static y).before args s = true
theorem vx_cwSW {own : String} {index maxL mc ms : Nat} {y : MethodName} {bytes : ByteArray} {ret : Option FieldType} {hh : List (Nat × Nat × Nat × Nat)} {Ts ws ws' : List Cond} {rm : Room} (n : Nat) (ht : ∀ w ∈ Ts, w.before args s = true) (hT : GoodIn Ts (va_wsS own index y ws)) (hw : ws = Cond.codeWith y bytes maxL ret hh :: ws') (hrc : rm.cells = mc) (hrs : rm.slots = ms)
    (hd : y.cls ≠ "java/lang/invoke/MethodHandle" ∧ y.cls ≠ "java/lang/invoke/VarHandle" ∧ (parseMethodDescriptor y.desc).map (fun d => d.parameters.length) = some n) (hR : rm.frames + 1 ≤ R.frames ∧ 8 + (maxL + 11) + rm.locals ≤ R.locals) :
    vx_CSW R s args own index y bytes maxL ret hh ws rm mc ms n := by
  have ok : ∀ w ∈ va_wsS own index y ws, w.before args s = true := fun w h => ht w (hT w h).1
  have hG : GoodIn Ts ws := fun w h => hT w (by unfold va_wsS; exact List.mem_append_right _ h)
  have hc : Cond.codeWith y bytes maxL ret hh ∈ ws := by rw [hw]; exact List.mem_cons_self
  refine ⟨⟨hrc, hrs, hR.1, hR.2, pay_in ht hG, hc⟩, ht _ (hG _ hc).1, ok _ (by simp [va_wsS]), ⟨hd.1, hd.2.1⟩, fun sig h => ?_, ok _ (by simp [va_wsS]), ok _ (by simp [va_wsS])⟩
  have h2 := hd.2.2
  rw [h] at h2
  exact (Option.some.inj h2).symm
theorem vx_callSW (X : Stand p l e R s m args below meth c T locs cells slots) (hexec : p.tables.exec = Jvm.exec) {own : String} {index : Nat} {y : MethodName} {bytes : ByteArray} {maxL : Nat} {ret : Option FieldType} {hh : List (Nat × Nat × Nat × Nat)}
    (hown : s.vm.findClass own = some m.cls) (hlink : (Cond.methodLink own index y).before args s = true) (hstat : (Cond.static y).before args s = true) (hinit : (Cond.initialized y.cls).before args s = true)
    (hcode : (Cond.codeWith y bytes maxL ret hh).before args s = true) (hy : y.cls ≠ "java/lang/invoke/MethodHandle" ∧ y.cls ≠ "java/lang/invoke/VarHandle")
    {W9 : Nat} {Pre : Pt → Array Value → Prop} {Post : Pt → Array Value → Option Value → Pt → Prop} (hK : Back l R p e below s args y 3 W9 Pre Post)
    {g : JFrame} (hg : g.method = m) (hsize : g.locals.size = c.maxLocals) {argsL rest : List Value} (hlen : ∀ sig, parseMethodDescriptor y.desc = some sig → argsL.length = sig.parameters.length)
    (hstack : g.stack = argsL.reverse ++ rest) (hW : 2 * g.monitorRoom + (rest.map fun v => v.category).sum ≤ W9) (hdg : decode c.code g.pc = .ok (.invokestatic index, 3))
    (hpre : ∀ vm₁, s.WarmedH vm₁ → Pre ⟨T.setVm vm₁, locs, cells, slots⟩ argsL.toArray) :
    ∃ (v : Option Value) (vm₁ : Vm) (B : Pt), s.WarmedH vm₁ ∧ Stand p l e R s m args below meth c B.U B.locs B.cells B.slots ∧ Post ⟨T.setVm vm₁, locs, cells, slots⟩ argsL.toArray v B ∧
      ∀ target, Steps p.tables e below (B.U.setTop { g with pc := g.pc + 3, stack := v.toList ++ rest }) target → Steps p.tables e below (T.setTop g) target := by
  obtain ⟨mk, methM, cM, hnamed, hmethM, -, -, -, -, -, -, hsigM⟩ := Cond.codeWith_spec hcode
  have hstatic : methM.isStatic = true := Cond.static_spec hnamed hmethM hstat
  obtain ⟨kP, hkP, -⟩ := className_of_methodNamed hnamed
  have hinitP : kP.init = .initialized := Cond.initialized_spec (findClass_of_methodNamed hnamed) hkP hinit
  obtain ⟨vm₁, X₁, hstep₁⟩ := X.invokestatic hexec hown hlink hnamed hmethM hstatic hkP hinitP hy (g := g) hg (argsL := argsL) (rest := rest) (hlen _ hsigM) hstack hdg
  obtain ⟨v, B, X', hpost, hsteps⟩ := hK m meth c ⟨T.setVm vm₁, locs, cells, slots⟩ { g with stack := rest } (.invokestatic index) mk argsL.toArray X₁ hg hsize hdg hW (X₁.named hnamed) (hpre vm₁ X₁.warmed)
  exact ⟨v, vm₁, B, X₁.warmed, X', hpost, fun target h => hstep₁ _ fun acts => by rw [doInvoke_state]; exact hsteps.trans h⟩
theorem vx_runSW {y : MethodName} {bytes cc : ByteArray} {maxL nL mc ms n index : Nat} {ret : Option FieldType} {hh : List (Nat × Nat × Nat × Nat)} {ws : List Cond} {rm : Room} {Pc : Array Value → State → Prop} {Qc : Array Value → State → Outcome → State → Prop} {free : Addr → Prop} {Ts : List Cond} {own : String} {As rest : List Value} {g : JFrame}
    (S : CallFix p m c cc nL s args Ts own) (hM : Met l y ws rm Pc Qc mc ms free) (cw : vx_CSW R s args own index y bytes maxL ret hh ws rm mc ms n) (hp : PreS s H Pc As)
    (hg : g.method = m) (hn : As.length = n) (hsize : g.locals.size = nL) (hstack : g.stack = As.reverse ++ rest) (hW : 2 * g.monitorRoom + (rest.map fun v => v.category).sum ≤ 8) (hdg : decode cc g.pc = .ok (.invokestatic index, 3)) (hf : cells + mc ≤ R.cells ∧ slots + ms ≤ R.slots) :
    va_Run p l e R s m args below meth c H locs cells slots mc ms g rest (Qc As.toArray) (free) := by
  obtain ⟨⟨hrc, hrs, hfr, hlo, hws, hcw⟩, hcode, hini, hy, hlen, hl, hstt⟩ := cw
  have hK : Back l R p e below s args y 3 8 (PreOf R mc ms Pc) (PostOf Qc mc ms free) := va_backW (hh := hh) (bytes := bytes) (maxL := maxL) (ret := ret) hM hp.1 hrc hrs hfr hlo hws hcw (fun a' U hW => word_at hW (Or.inl (by first | rfl | simp [Cond.onTables, Cond.keeps, Cond.steady])) hini)
  obtain ⟨hx, hb, hml, ho, -⟩ := S
  intro T hT X
  obtain ⟨v, vm₁, ⟨U', l2, c2, s2⟩, hW₁, X', ⟨g', mk, t, L, e1, e2, hq, h1, hL, h2, h3⟩, st⟩ := vx_callSW X hx (hh := hh) (bytes := bytes) (maxL := maxL) (ret := ret) ho hl hstt hini hcode hy hK hg (hsize.trans hml.symm) (argsL := As) (rest := rest) (fun sig h => hn.trans (hlen sig h)) hstack hW (by rw [hb]; exact hdg)
    (fun vm₁ hW₁ => ⟨hf.1, hf.2, hp.2 (T.setVm vm₁) hT hW₁⟩)
  dsimp only [Pt.U, Pt.locs, Pt.cells, Pt.slots] at X' e1 e2 h1 h2 h3 st
  subst h1; subst h2; subst h3
  exact ⟨v, (T.setVm vm₁).calling g' mk As.toArray, t, U', L, hT, X', hL, e1, e2, hq, st⟩
/-- not caught here, past rows that name other classes: it goes on to the caller -/
theorem vx_outP {p : Program} {l : Launch} {e : Env} {R : Room} {s : State} {m : MethodId} {args : Array Value} {below : List Frame} {meth : Method} {c : Code} {H : Heap} {locs : List Loc} {cells slots : Nat} {free : Addr → Prop} {ls : Array Slot} {rest : List Value} {Qc : Array Value → State → Outcome → State → Prop} {XC : String → State → State → Prop}
    {pc : Nat} {own E : String} {ce : Cell} {q : Addr} {mc ms : Nat} (hown : s.vm.findClass own = some m.cls) (hlocks : meth.locks = false)
    (hpass : ∀ z ∈ c.exceptionTable.toList, covers z pc = false ∨ (z.catchType ≠ 0 ∧ ∃ nm : String, (Cond.classLink own z.catchType nm).before args s = true ∧ va_Nc E nm s)) (hcell : H[q]? = some ce) (hv : ce.vm = .none) (hcl : s.vm.findClass E = some ce.cls)
    (hx : ∀ t : State, t.heap = H → s.vm.Alike t.vm → XC E s t) (hf : ∀ z ∈ locs, free z.base) (hc : cells ≤ mc) (hs : slots ≤ ms) :
    vx_W p l e R s m args below meth c H locs cells slots (vx_MQ below Qc XC args s mc ms free) (F0 m pc ls rest) q := by
  intro T hT X
  have hpl : e.platform.magicAccessors = ({} : Platform).magicAccessors := by rw [X.admits.platform]
  obtain ⟨vm', hW', X', st⟩ := X.outThrough hlocks q (g := F0 m pc ls rest) rfl rfl rfl (cell := ce) (by rw [hT]; exact hcell) (by rw [hv]; rfl)
    (by obtain ⟨k9, h9, -⟩ := Vm.findClass_spec hcl; exact ⟨k9, h9⟩) (fun z hz => by
      rcases hpass z hz with h | ⟨hz0, nm, hl1, hn1⟩
      · exact Or.inl h
      · obtain ⟨c6, hc6, hcl6⟩ := Cond.classLink_spec hown hl1 e.platform hpl
        obtain ⟨a8, b8, h1, h2, h3⟩ := hn1
        cases Option.some.inj (h1.symm.trans hcl)
        cases Option.some.inj (h2.symm.trans hc6)
        exact Or.inr ⟨hz0, _, hcl6, h3⟩)
  obtain ⟨g₀, hfr⟩ := X'.frames_eq
  have hcell9 : ((T.setVm vm').setFrames (.throwing q :: below)).heap[q]? = some ce := by
    show T.heap[q]? = some ce
    rw [hT]; exact hcell
  have hend : Ended ((T.setVm vm').setFrames (.throwing q :: below)) below (.threw q) := State.frames_setFrames _ (State.cur_lt_of_frames hfr)
  refine ⟨(T.setVm vm').setFrames (.throwing q :: below), ?_, .threw q, X'.here.running, hend, Or.inr ⟨q, rfl, E, ce, locs, hx _ hT (X'.ends _).1.alike, hcell9, hv, hcl, (X'.ends _).1, (X'.ends _).2.mono hc hs, hf⟩⟩
  rw [X.pushThrowing_eq]
  exact st
/-- a thing of a world lies in the heap -/
theorem vx_lt {D : va_G} {cl : List vw_C} {ws : va_W} {H1 : Heap} (h : va_P D cl ws H1) {k : Nat} {q : Nat × va_E} (hk : ws[k]? = some q) : q.1 < H1.size := (h k q hk).lt
end VXS
/-! ===== END ===== -/
/-! ===== BEGIN methods with a table of their own: called by a name, returning or throwing ===== -/
section VXH
/-! vx_backW, vx_callVX, vx_callSX, vx_callVW, vx_runVW, vx_runVX, vx_runSX, vx_ofWH follow the same proofs as their sisters above (Free/Laws.lean, Shelf42/LK1.lean); vx_outP calls Shelf42/NT130.lean (outThrough). -/
section
variable {l : Launch} {R : Room} {p : Program} {e : Env} {below : List Frame} {s : State} {sargs : Array Value} {y : MethodName} {len W9 : Nat}
theorem vx_backW {ws : List Cond} {rm : Room} {Pc : Array Value → State → Prop} {Qc : Array Value → State → Outcome → State → Prop} {XC : String → State → State → Prop} {mc ms : Nat} {free : Addr → Prop} {bytes : ByteArray} {maxL : Nat} {ret : Option FieldType} {hh : List (Nat × Nat × Nat × Nat)}
    (hM : vx_Met l y ws rm Pc Qc XC mc ms free) (hblind : FrameBlind Pc) (hrc : rm.cells = mc) (hrs : rm.slots = ms)
    (hframes : rm.frames + 1 ≤ R.frames) (hlocals : W9 + (maxL + 11) + rm.locals ≤ R.locals)
    (hws : ∀ w ∈ ws, ∀ a' U, s.WarmedH U.vm → w.before a' U = true) (hcode : Cond.codeWith y bytes maxL ret hh ∈ ws) (hinit : ∀ a' U, s.WarmedH U.vm → (Cond.initialized y.cls).before a' U = true) :
    vx_Back l R p e below s sargs y len W9 (PreOf R mc ms Pc) (PostOf Qc mc ms free) (vx_Post XC mc ms free) := by
  intro m meth c A g ig mk a X hg hsize hdg hW hn hp
  have h1 : (headSpec ws rm).pre.before a A.U = true := atoms_intro fun w hw => hws w hw _ _ X.warmed
  have h2 : (Cond.codeWith y bytes maxL ret hh).before a A.U = true := hws _ hcode _ _ X.warmed
  have h3 : (Cond.initialized y.cls).before a A.U = true := hinit _ _ X.warmed
  have h4 : A.cells + (headSpec ws rm).room.cells ≤ R.cells := by rw [show (headSpec ws rm).room.cells = mc from hrc]; exact hp.1
  have h5 : A.slots + (headSpec ws rm).room.slots ≤ R.slots := by rw [show (headSpec ws rm).room.slots = ms from hrs]; exact hp.2.1
  have hPc : Pc a (A.U.calling g mk a) := hblind _ _ _ _ hp.2.2
  obtain ⟨U, Ls, c0, s0⟩ := A
  dsimp only [Pt.U, Pt.locs, Pt.cells, Pt.slots] at h1 h2 h3 h4 h5 X hn hPc ⊢
  obtain ⟨m9, methY, cY, hn9, hmY, hcY, -, hlY, -⟩ := Cond.codeWith_spec h2
  cases Option.some.inj (hn9.symm.trans hn)
  obtain ⟨kY, hkY, -⟩ := className_of_methodNamed hn
  have hinitY : kY.init = .initialized := Cond.initialized_spec (findClass_of_methodNamed hn) hkY h3
  have h : At U g.method c below := by rw [hg]; exact X.here
  have hlocals9 : W9 + (maxL + 11) + (headSpec ws rm).room.locals ≤ R.locals := hlocals
  have happ : (headSpec ws rm).appliesLoose y e.platform (U.calling g mk a) = true :=
    Spec.appliesLoose_calling (g := g) h hdg hn hkY hinitY
      (X.room_calling (g := g) (R' := (headSpec ws rm).room) hsize hmY hcY hframes (by rw [hlY]; omega) h4 h5) h1
  obtain ⟨mid, hmid⟩ := h.above
  have hfr : (U.setTop g).frames = (.java g :: mid) ++ below := by rw [State.frames_setTop' g h.top, hmid]; rfl
  obtain ⟨o, s₂, hsteps, -, hend, hq⟩ := Steps.callFree hM p X.admits X.cas X.clock (acts := []) hfr happ hPc trivial
  have hq' : vx_Q Qc XC mc ms free a (U.calling g mk a) o s₂ := hq
  rw [State.frames_setTop' g h.top] at hend
  obtain ⟨g₀, hg0⟩ := Option.isSome_iff_exists.mp h.top
  obtain ⟨r, hr⟩ := State.topJava?_eq_some.mp hg0
  have hr' : (({ U with heap := s₂.heap, slotsUsed := s₂.slotsUsed } : State).setVm s₂.vm).frames = .java g₀ :: r := hr
  rcases hq' with ⟨hqc, L, hfe, hL⟩ | ⟨q, rfl, E, ce, L, hx, hce, hcv, hcl, hW₂, hsm, hL⟩
  · obtain ⟨⟨v, rfl⟩, hW₂, e2, q2, q3, q4, q5, q6⟩ := id hfe
    have e3 : s₂ = ({ (U.calling g mk a).setFrames s₂.frames with heap := s₂.heap, slotsUsed := s₂.slotsUsed } : State).setVm s₂.vm := by
      have : s₂ = ({ s₂ with vm := (U.calling g mk a).vm } : State).setVm s₂.vm := rfl
      rw [e2] at this
      exact this
    obtain ⟨c₂, i₂, len₂, hc₂, hd₂, hf₂⟩ := hend
    have hW' : U.WarmedH s₂.vm := hW₂
    have hcc : c₂ = c := by
      have h1 : s₂.code? g.method = U.code? g.method := by
        rw [State.code?_eq, State.code?_eq, hW'.alike.method?]
      exact Option.some.inj (hc₂.symm.trans (h1.trans h.code))
    subst hcc
    have hlen : len₂ = len := by rw [hdg] at hd₂; cases hd₂; rfl
    subst hlen
    have hs₂ : s₂ = (({ U with heap := s₂.heap, slotsUsed := s₂.slotsUsed } : State).setVm s₂.vm).setTop { g with pc := g.pc + len₂, stack := v.toList ++ g.stack } := by
      refine e3.trans ?_
      rw [hf₂, State.calling_eq h.top, State.setFrames_setFrames, State.setTop_of_frames _ hr', hr]
      rfl
    have hsame : U.sameButNew ({ U with heap := s₂.heap, slotsUsed := s₂.slotsUsed } : State) L mc ms := by
      refine ⟨?_, q2, q3, q4, q5, q6⟩
      obtain ⟨t, ht, -⟩ := State.frames_cons hr
      show ({ U with heap := s₂.heap, slotsUsed := s₂.slotsUsed } : State) = { U.setFrames U.frames with heap := s₂.heap, slotsUsed := s₂.slotsUsed }
      rw [State.setFrames_self ht]
    subst hg
    refine Or.inl ⟨v, ⟨(({ U with heap := s₂.heap, slotsUsed := s₂.slotsUsed } : State).setVm s₂.vm), Ls ++ L, c0 + mc, s0 + ms⟩,
      ⟨X.admits, X.cas, X.clock, X.frames, X.room, X.hears, X.method, X.code, (X.here.setHeapUsed s₂.heap s₂.slotsUsed).setVm hW'.alike, X.tail, State.WarmedH.trans X.warmed hW', X.limits, X.bytes, X.same.trans (hsame.setVm s.vm)⟩,
      ⟨g, mk, s₂, L, rfl, rfl, hqc, rfl, hL, rfl, rfl⟩, ?_⟩
    show Steps p.tables e below _ ((({ U with heap := s₂.heap, slotsUsed := s₂.slotsUsed } : State).setVm s₂.vm).setTop { g with pc := g.pc + len₂, stack := v.toList ++ g.stack })
    rw [← hs₂]
    exact hsteps
  · obtain ⟨e2, q2, q3, q4, q5, q6⟩ := id hsm
    have e3 : s₂ = ({ (U.calling g mk a).setFrames s₂.frames with heap := s₂.heap, slotsUsed := s₂.slotsUsed } : State).setVm s₂.vm := by
      have : s₂ = ({ s₂ with vm := (U.calling g mk a).vm } : State).setVm s₂.vm := rfl
      rw [e2] at this
      exact this
    have hf₂ : s₂.frames = .throwing q :: .java g :: U.frames.tail := hend
    have hW' : U.WarmedH s₂.vm := hW₂
    have hs₂ : s₂ = ((({ U with heap := s₂.heap, slotsUsed := s₂.slotsUsed } : State).setVm s₂.vm).setTop g).pushFrame (.throwing q) := by
      refine e3.trans ?_
      rw [hf₂, State.calling_eq h.top, State.setFrames_setFrames, State.pushFrame, State.frames_setTop _ hr', State.setTop_of_frames _ hr', State.setFrames_setFrames, hr]
      rfl
    have hsame : U.sameButNew ({ U with heap := s₂.heap, slotsUsed := s₂.slotsUsed } : State) L mc ms := by
      refine ⟨?_, q2, q3, q4, q5, q6⟩
      obtain ⟨t, ht, -⟩ := State.frames_cons hr
      show ({ U with heap := s₂.heap, slotsUsed := s₂.slotsUsed } : State) = { U.setFrames U.frames with heap := s₂.heap, slotsUsed := s₂.slotsUsed }
      rw [State.setFrames_self ht]
    subst hg
    refine Or.inr ⟨q, ⟨(({ U with heap := s₂.heap, slotsUsed := s₂.slotsUsed } : State).setVm s₂.vm), Ls ++ L, c0 + mc, s0 + ms⟩,
      ⟨X.admits, X.cas, X.clock, X.frames, X.room, X.hears, X.method, X.code, (X.here.setHeapUsed s₂.heap s₂.slotsUsed).setVm hW'.alike, X.tail, State.WarmedH.trans X.warmed hW', X.limits, X.bytes, X.same.trans (hsame.setVm s.vm)⟩,
      ⟨g, mk, s₂, L, E, ce, rfl, rfl, hx, hce, hcv, hcl, rfl, hL, rfl, rfl⟩, ?_⟩
    show Steps p.tables e below _ (((({ U with heap := s₂.heap, slotsUsed := s₂.slotsUsed } : State).setVm s₂.vm).setTop g).pushFrame (.throwing q))
    rw [← hs₂]
    exact hsteps
end
variable {p : Program} {l : Launch} {e : Env} {R : Room} {s : State} {m : MethodId} {args : Array Value} {below : List Frame} {meth : Method} {c : Code} {T : State} {H : Heap} {locs : List Loc} {cells slots : Nat}
theorem vx_callVX (X : Stand p l e R s m args below meth c T locs cells slots) (hexec : p.tables.exec = Jvm.exec) {own C : String} {index : Nat} {y : MethodName} {bytes : ByteArray} {maxL : Nat} {ret : Option FieldType} {hh : List (Nat × Nat × Nat × Nat)}
    (hown : s.vm.findClass own = some m.cls) (hlink : (Cond.methodLink own index y).before args s = true) (hinst : (Cond.instanceMethod y).before args s = true) (hsel : (Cond.selects C y y).before args s = true)
    (hcode : (Cond.codeWith y bytes maxL ret hh).before args s = true) (hy : y.cls ≠ "java/lang/invoke/MethodHandle" ∧ y.cls ≠ "java/lang/invoke/VarHandle")
    {W9 : Nat} {Pre : Pt → Array Value → Prop} {Post : Pt → Array Value → Option Value → Pt → Prop} {PostX : Pt → Array Value → Addr → Pt → Prop} (hK : vx_Back l R p e below s args y 3 W9 Pre Post PostX)
    {b : Addr} {cellB : Cell} (hcell : T.heap[b]? = some cellB) (hobj : cellB.vm.isStatics = false) (hcls : s.vm.findClass C = some cellB.cls)
    {g : JFrame} (hg : g.method = m) (hsize : g.locals.size = c.maxLocals) {argsL rest : List Value} (hlen : ∀ sig, parseMethodDescriptor y.desc = some sig → argsL.length = sig.parameters.length)
    (hstack : g.stack = argsL.reverse ++ .ref b :: rest) (hW : 2 * g.monitorRoom + (rest.map fun v => v.category).sum ≤ W9) (hdg : decode c.code g.pc = .ok (.invokevirtual index, 3))
    (hpre : ∀ vm₁, s.WarmedH vm₁ → Pre ⟨T.setVm vm₁, locs, cells, slots⟩ (Value.ref b :: argsL).toArray) :
    (∃ (v : Option Value) (vm₁ : Vm) (B : Pt), s.WarmedH vm₁ ∧ Stand p l e R s m args below meth c B.U B.locs B.cells B.slots ∧ Post ⟨T.setVm vm₁, locs, cells, slots⟩ (Value.ref b :: argsL).toArray v B ∧
      ∀ target, Steps p.tables e below (B.U.setTop { g with pc := g.pc + 3, stack := v.toList ++ rest }) target → Steps p.tables e below (T.setTop g) target) ∨
    (∃ (q : Addr) (vm₁ : Vm) (B : Pt), s.WarmedH vm₁ ∧ Stand p l e R s m args below meth c B.U B.locs B.cells B.slots ∧ PostX ⟨T.setVm vm₁, locs, cells, slots⟩ (Value.ref b :: argsL).toArray q B ∧
      Steps p.tables e below (T.setTop g) ((B.U.setTop { g with stack := rest }).pushFrame (.throwing q))) := by
  obtain ⟨mk, methM, hnamed, hmethM, hstM, habM⟩ := Cond.instanceMethod_spec hinst
  obtain ⟨m8, methM', cM, hn8, hmethM', -, -, -, -, -, -, hsigM⟩ := Cond.codeWith_spec hcode
  cases Option.some.inj (hn8.symm.trans hnamed)
  cases hmethM.symm.trans hmethM'
  obtain ⟨c2, r2, m2, q1, q2, q3, q4, kP, hkP, hkPi⟩ := Cond.selects_spec hsel
  cases hcls.symm.trans q1
  cases (State.methodFound?_of_named hnamed hy).symm.trans q2
  cases hnamed.symm.trans q3
  have hselP : selectMethod e.platform s.vm cellB.cls mk = .method mk := by rw [Launch.admits_selectMethod X.admits]; exact q4
  obtain ⟨vm₁, X₁, hstep₁⟩ := X.invokevirtual hexec hown hlink hnamed hmethM hstM hkP hkPi hy (a := b) (cell := cellB) hcell
    (fun z h => by rw [h] at hobj; cases hobj) hselP hmethM habM hkP hkPi (g := g) hg (argsL := argsL) (rest := rest) (hlen _ hsigM) hstack hdg
  rcases hK m meth c ⟨T.setVm vm₁, locs, cells, slots⟩ { g with stack := rest } (.invokevirtual index) mk (Value.ref b :: argsL).toArray X₁ hg hsize hdg hW (X₁.named hnamed) (hpre vm₁ X₁.warmed) with ⟨v, B, X', hpost, hsteps⟩ | ⟨q, B, X', hpost, hsteps⟩
  · exact Or.inl ⟨v, vm₁, B, X₁.warmed, X', hpost, fun target h => hstep₁ _ fun acts => by rw [doInvoke_state]; exact hsteps.trans h⟩
  · exact Or.inr ⟨q, vm₁, B, X₁.warmed, X', hpost, hstep₁ _ fun acts => by rw [doInvoke_state]; exact hsteps⟩
theorem vx_callSX (X : Stand p l e R s m args below meth c T locs cells slots) (hexec : p.tables.exec = Jvm.exec) {own : String} {index : Nat} {y : MethodName} {bytes : ByteArray} {maxL : Nat} {ret : Option FieldType} {hh : List (Nat × Nat × Nat × Nat)}
    (hown : s.vm.findClass own = some m.cls) (hlink : (Cond.methodLink own index y).before args s = true) (hstat : (Cond.static y).before args s = true) (hinit : (Cond.initialized y.cls).before args s = true)
    (hcode : (Cond.codeWith y bytes maxL ret hh).before args s = true) (hy : y.cls ≠ "java/lang/invoke/MethodHandle" ∧ y.cls ≠ "java/lang/invoke/VarHandle")
    {W9 : Nat} {Pre : Pt → Array Value → Prop} {Post : Pt → Array Value → Option Value → Pt → Prop} {PostX : Pt → Array Value → Addr → Pt → Prop} (hK : vx_Back l R p e below s args y 3 W9 Pre Post PostX)
    {g : JFrame} (hg : g.method = m) (hsize : g.locals.size = c.maxLocals) {argsL rest : List Value} (hlen : ∀ sig, parseMethodDescriptor y.desc = some sig → argsL.length = sig.parameters.length)
    (hstack : g.stack = argsL.reverse ++ rest) (hW : 2 * g.monitorRoom + (rest.map fun v => v.category).sum ≤ W9) (hdg : decode c.code g.pc = .ok (.invokestatic index, 3))
    (hpre : ∀ vm₁, s.WarmedH vm₁ → Pre ⟨T.setVm vm₁, locs, cells, slots⟩ argsL.toArray) :
    (∃ (v : Option Value) (vm₁ : Vm) (B : Pt), s.WarmedH vm₁ ∧ Stand p l e R s m args below meth c B.U B.locs B.cells B.slots ∧ Post ⟨T.setVm vm₁, locs, cells, slots⟩ argsL.toArray v B ∧
      ∀ target, Steps p.tables e below (B.U.setTop { g with pc := g.pc + 3, stack := v.toList ++ rest }) target → Steps p.tables e below (T.setTop g) target) ∨
    (∃ (q : Addr) (vm₁ : Vm) (B : Pt), s.WarmedH vm₁ ∧ Stand p l e R s m args below meth c B.U B.locs B.cells B.slots ∧ PostX ⟨T.setVm vm₁, locs, cells, slots⟩ argsL.toArray q B ∧
      Steps p.tables e below (T.setTop g) ((B.U.setTop { g with stack := rest }).pushFrame (.throwing q))) := by
  obtain ⟨mk, methM, cM, hnamed, hmethM, -, -, -, -, -, -, hsigM⟩ := Cond.codeWith_spec hcode
  have hstatic : methM.isStatic = true := Cond.static_spec hnamed hmethM hstat
  obtain ⟨kP, hkP, -⟩ := className_of_methodNamed hnamed
  have hinitP : kP.init = .initialized := Cond.initialized_spec (findClass_of_methodNamed hnamed) hkP hinit
  obtain ⟨vm₁, X₁, hstep₁⟩ := X.invokestatic hexec hown hlink hnamed hmethM hstatic hkP hinitP hy (g := g) hg (argsL := argsL) (rest := rest) (hlen _ hsigM) hstack hdg
  rcases hK m meth c ⟨T.setVm vm₁, locs, cells, slots⟩ { g with stack := rest } (.invokestatic index) mk argsL.toArray X₁ hg hsize hdg hW (X₁.named hnamed) (hpre vm₁ X₁.warmed) with ⟨v, B, X', hpost, hsteps⟩ | ⟨q, B, X', hpost, hsteps⟩
  · exact Or.inl ⟨v, vm₁, B, X₁.warmed, X', hpost, fun target h => hstep₁ _ fun acts => by rw [doInvoke_state]; exact hsteps.trans h⟩
  · exact Or.inr ⟨q, vm₁, B, X₁.warmed, X', hpost, hstep₁ _ fun acts => by rw [doInvoke_state]; exact hsteps⟩
theorem vx_callVW (X : Stand p l e R s m args below meth c T locs cells slots) (hexec : p.tables.exec = Jvm.exec) {own C : String} {index : Nat} {y : MethodName} {bytes : ByteArray} {maxL : Nat} {ret : Option FieldType} {hh : List (Nat × Nat × Nat × Nat)}
    (hown : s.vm.findClass own = some m.cls) (hlink : (Cond.methodLink own index y).before args s = true) (hinst : (Cond.instanceMethod y).before args s = true) (hsel : (Cond.selects C y y).before args s = true)
    (hcode : (Cond.codeWith y bytes maxL ret hh).before args s = true) (hy : y.cls ≠ "java/lang/invoke/MethodHandle" ∧ y.cls ≠ "java/lang/invoke/VarHandle")
    {W9 : Nat} {Pre : Pt → Array Value → Prop} {Post : Pt → Array Value → Option Value → Pt → Prop} (hK : Back l R p e below s args y 3 W9 Pre Post)
    {b : Addr} {cellB : Cell} (hcell : T.heap[b]? = some cellB) (hobj : cellB.vm.isStatics = false) (hcls : s.vm.findClass C = some cellB.cls)
    {g : JFrame} (hg : g.method = m) (hsize : g.locals.size = c.maxLocals) {argsL rest : List Value} (hlen : ∀ sig, parseMethodDescriptor y.desc = some sig → argsL.length = sig.parameters.length)
    (hstack : g.stack = argsL.reverse ++ .ref b :: rest) (hW : 2 * g.monitorRoom + (rest.map fun v => v.category).sum ≤ W9) (hdg : decode c.code g.pc = .ok (.invokevirtual index, 3))
    (hpre : ∀ vm₁, s.WarmedH vm₁ → Pre ⟨T.setVm vm₁, locs, cells, slots⟩ (Value.ref b :: argsL).toArray) :
    ∃ (v : Option Value) (vm₁ : Vm) (B : Pt), s.WarmedH vm₁ ∧ Stand p l e R s m args below meth c B.U B.locs B.cells B.slots ∧ Post ⟨T.setVm vm₁, locs, cells, slots⟩ (Value.ref b :: argsL).toArray v B ∧
      ∀ target, Steps p.tables e below (B.U.setTop { g with pc := g.pc + 3, stack := v.toList ++ rest }) target → Steps p.tables e below (T.setTop g) target := by
  obtain ⟨mk, methM, hnamed, hmethM, hstM, habM⟩ := Cond.instanceMethod_spec hinst
  obtain ⟨m8, methM', cM, hn8, hmethM', -, -, -, -, -, -, hsigM⟩ := Cond.codeWith_spec hcode
  cases Option.some.inj (hn8.symm.trans hnamed)
  cases hmethM.symm.trans hmethM'
  obtain ⟨c2, r2, m2, q1, q2, q3, q4, kP, hkP, hkPi⟩ := Cond.selects_spec hsel
  cases hcls.symm.trans q1
  cases (State.methodFound?_of_named hnamed hy).symm.trans q2
  cases hnamed.symm.trans q3
  have hselP : selectMethod e.platform s.vm cellB.cls mk = .method mk := by rw [Launch.admits_selectMethod X.admits]; exact q4
  obtain ⟨vm₁, X₁, hstep₁⟩ := X.invokevirtual hexec hown hlink hnamed hmethM hstM hkP hkPi hy (a := b) (cell := cellB) hcell
    (fun z h => by rw [h] at hobj; cases hobj) hselP hmethM habM hkP hkPi (g := g) hg (argsL := argsL) (rest := rest) (hlen _ hsigM) hstack hdg
  obtain ⟨v, B, X', hpost, hsteps⟩ := hK m meth c ⟨T.setVm vm₁, locs, cells, slots⟩ { g with stack := rest } (.invokevirtual index) mk (Value.ref b :: argsL).toArray X₁ hg hsize hdg hW (X₁.named hnamed) (hpre vm₁ X₁.warmed)
  exact ⟨v, vm₁, B, X₁.warmed, X', hpost, fun target h => hstep₁ _ fun acts => by rw [doInvoke_state]; exact hsteps.trans h⟩
abbrev vx_CVW (R : Room) (s : State) (args : Array Value) (own C : String) (index : Nat) (y : MethodName) (bytes : ByteArray) (maxL : Nat) (ret : Option FieldType) (hh : List (Nat × Nat × Nat × Nat)) (ws : List Cond) (rm : Room) (mc ms n : Nat) : Prop :=
  (rm.cells = mc ∧ rm.slots = ms ∧ rm.frames + 1 ≤ R.frames ∧ 8 + (maxL + 11) + rm.locals ≤ R.locals ∧ (∀ w ∈ ws, ∀ (a' : Array Value) (U : State), s.WarmedH U.vm → w.before a' U = true) ∧ Cond.codeWith y bytes maxL ret hh ∈ ws) ∧
  (Cond.codeWith y bytes maxL ret hh).before args s = true ∧ (Cond.initialized y.cls).before args s = true ∧ (y.cls ≠ "java/lang/invoke/MethodHandle" ∧ y.cls ≠ "java/lang/invoke/VarHandle") ∧
  (∀ sig, parseMethodDescriptor y.desc = some sig → n = sig.parameters.length) ∧ (Cond.methodLink own index y).before args s = true ∧ (Cond.instanceMethod y).before args s = true ∧ (Cond.selects C y y).before args s = true
theorem vx_cwVW {own C : String} {index maxL mc ms : Nat} {y : MethodName} {bytes : ByteArray} {ret : Option FieldType} {hh : List (Nat × Nat × Nat × Nat)} {Ts ws ws' : List Cond} {rm : Room} (n : Nat) (ht : ∀ w ∈ Ts, w.before args s = true) (hT : GoodIn Ts (wsV own index C y ws)) (hw : ws = Cond.codeWith y bytes maxL ret hh :: ws') (hrc : rm.cells = mc) (hrs : rm.slots = ms)
    (hd : y.cls = C ∧ y.cls ≠ "java/lang/invoke/MethodHandle" ∧ y.cls ≠ "java/lang/invoke/VarHandle" ∧ (parseMethodDescriptor y.desc).map (fun d => d.parameters.length) = some n) (hR : rm.frames + 1 ≤ R.frames ∧ 8 + (maxL + 11) + rm.locals ≤ R.locals) :
    vx_CVW R s args own C index y bytes maxL ret hh ws rm mc ms n := by
  obtain ⟨hC, hd⟩ := hd
  subst hC
  have ok : ∀ w ∈ wsV own index y.cls y ws, w.before args s = true := fun w h => ht w (hT w h).1
  have hG : GoodIn Ts ws := fun w h => hT w (by unfold wsV; exact List.mem_append_right _ h)
  have hc : Cond.codeWith y bytes maxL ret hh ∈ ws := by rw [hw]; exact List.mem_cons_self
  refine ⟨⟨hrc, hrs, hR.1, hR.2, pay_in ht hG, hc⟩, ht _ (hG _ hc).1, ok _ (by simp [wsV]), ⟨hd.1, hd.2.1⟩, fun sig h => ?_, ok _ (by simp [wsV]), ok _ (by simp [wsV]), ok _ (by simp [wsV])⟩
  have h2 := hd.2.2
  rw [h] at h2
  exact (Option.some.inj h2).symm
theorem vx_runVW {y : MethodName} {bytes cc : ByteArray} {maxL nL mc ms n index : Nat} {ret : Option FieldType} {hh : List (Nat × Nat × Nat × Nat)} {ws : List Cond} {rm : Room} {Pc : Array Value → State → Prop} {Qc : Array Value → State → Outcome → State → Prop} {free : Addr → Prop} {Ts : List Cond} {own C : String} {b : Addr} {As rest : List Value} {g : JFrame}
    (S : CallFix p m c cc nL s args Ts own) (hM : Met l y ws rm Pc Qc mc ms free) (cw : vx_CVW R s args own C index y bytes maxL ret hh ws rm mc ms n) (hp : PreV s H C b Pc As)
    (hg : g.method = m) (hn : As.length = n) (hsize : g.locals.size = nL) (hstack : g.stack = As.reverse ++ .ref b :: rest) (hW : 2 * g.monitorRoom + (rest.map fun v => v.category).sum ≤ 8) (hdg : decode cc g.pc = .ok (.invokevirtual index, 3)) (hf : cells + mc ≤ R.cells ∧ slots + ms ≤ R.slots) :
    va_Run p l e R s m args below meth c H locs cells slots mc ms g rest (Qc (Value.ref b :: As).toArray) free := by
  obtain ⟨⟨hrc, hrs, hfr, hlo, hws, hcw⟩, hcode, hini, hy, hlen, hl, hin, hse⟩ := cw
  have hK : Back l R p e below s args y 3 8 (PreOf R mc ms Pc) (PostOf Qc mc ms free) := va_backW (hh := hh) (bytes := bytes) (maxL := maxL) (ret := ret) hM hp.1 hrc hrs hfr hlo hws hcw (fun a' U hW => word_at hW (Or.inl (by first | rfl | simp [Cond.onTables, Cond.keeps, Cond.steady])) hini)
  obtain ⟨hx, hb, hml, ho, -⟩ := S
  obtain ⟨-, ⟨cellB, hcB, hoB, hclB⟩, hPc⟩ := hp
  intro T hT X
  obtain ⟨v, vm₁, ⟨U', l2, c2, s2⟩, hW₁, X', ⟨g', mk, t, L, e1, e2, hq, h1, hL, h2, h3⟩, st⟩ := vx_callVW X hx (C := C) (hh := hh) (bytes := bytes) (maxL := maxL) (ret := ret) ho hl hin hse hcode hy hK (by rw [hT]; exact hcB) hoB hclB hg (hsize.trans hml.symm) (argsL := As) (rest := rest) (fun sig h => hn.trans (hlen sig h)) hstack hW (by rw [hb]; exact hdg)
    (fun vm₁ hW₁ => ⟨hf.1, hf.2, hPc (T.setVm vm₁) hT hW₁⟩)
  dsimp only [Pt.U, Pt.locs, Pt.cells, Pt.slots] at X' e1 e2 h1 h2 h3 st
  subst h1; subst h2; subst h3
  exact ⟨v, (T.setVm vm₁).calling g' mk (Value.ref b :: As).toArray, t, U', L, hT, X', hL, e1, e2, hq, st⟩
section
variable {y : MethodName} {bytes cc : ByteArray} {maxL nL mc ms n index : Nat} {ret : Option FieldType} {ws : List Cond} {rm : Room} {Pc : Array Value → State → Prop} {Qc : Array Value → State → Outcome → State → Prop} {XC : String → State → State → Prop} {free : Addr → Prop} {Ts : List Cond} {own C : String} {b : Addr} {As rest : List Value} {g : JFrame}
theorem vx_runVX {hh : List (Nat × Nat × Nat × Nat)} (S : CallFix p m c cc nL s args Ts own) (hM : vx_Met l y ws rm Pc Qc XC mc ms free) (cw : vx_CVW R s args own C index y bytes maxL ret hh ws rm mc ms n) (hp : PreV s H C b Pc As)
    (hg : g.method = m) (hn : As.length = n) (hsize : g.locals.size = nL) (hstack : g.stack = As.reverse ++ .ref b :: rest) (hW : 2 * g.monitorRoom + (rest.map fun v => v.category).sum ≤ 8) (hdg : decode cc g.pc = .ok (.invokevirtual index, 3)) (hf : cells + mc ≤ R.cells ∧ slots + ms ≤ R.slots) :
    vx_Run p l e R s m args below meth c H locs cells slots mc ms g rest (Qc (Value.ref b :: As).toArray) XC free := by
  obtain ⟨⟨hrc, hrs, hfr, hlo, hws, hcw⟩, hcode, hini, hy, hlen, hl, hin, hse⟩ := cw
  have hK : vx_Back l R p e below s args y 3 8 (PreOf R mc ms Pc) (PostOf Qc mc ms free) (vx_Post XC mc ms free) := vx_backW (hh := hh) (bytes := bytes) (maxL := maxL) (ret := ret) hM hp.1 hrc hrs hfr hlo hws hcw (fun a' U hW => word_at hW (Or.inl (by first | rfl | simp [Cond.onTables, Cond.keeps, Cond.steady])) hini)
  obtain ⟨hx, hb, hml, ho, -⟩ := S
  obtain ⟨-, ⟨cellB, hcB, hoB, hclB⟩, hPc⟩ := hp
  intro T hT X
  rcases vx_callVX X hx (C := C) (hh := hh) (bytes := bytes) (maxL := maxL) (ret := ret) ho hl hin hse hcode hy hK (by rw [hT]; exact hcB) hoB hclB hg (hsize.trans hml.symm) (argsL := As) (rest := rest) (fun sig h => hn.trans (hlen sig h)) hstack hW (by rw [hb]; exact hdg)
    (fun vm₁ hW₁ => ⟨hf.1, hf.2, hPc (T.setVm vm₁) hT hW₁⟩) with ⟨v, vm₁, ⟨U', l2, c2, s2⟩, hW₁, X', ⟨g', mk, t, L, e1, e2, hq, h1, hL, h2, h3⟩, st⟩ | ⟨q, vm₁, ⟨U', l2, c2, s2⟩, hW₁, X', ⟨g', mk, t, L, E, ce, e1, e2, hq, hce, hcv, hcl, h1, hL, h2, h3⟩, st⟩
  · dsimp only [Pt.U, Pt.locs, Pt.cells, Pt.slots] at X' e1 e2 h1 h2 h3 st
    subst h1; subst h2; subst h3
    exact Or.inl ⟨v, (T.setVm vm₁).calling g' mk (Value.ref b :: As).toArray, t, U', L, hT, X', hL, e1, e2, hq, st⟩
  · dsimp only [Pt.U, Pt.locs, Pt.cells, Pt.slots] at X' e1 e2 h1 h2 h3 st hcl
    subst h1; subst h2; subst h3
    exact Or.inr ⟨q, (T.setVm vm₁).calling g' mk (Value.ref b :: As).toArray, t, U', L, E, ce, hT, X', hL, e1, e2, hq, hce, hcv, vx_cls hW₁ hcl, st⟩
theorem vx_runSX {hh : List (Nat × Nat × Nat × Nat)} (S : CallFix p m c cc nL s args Ts own) (hM : vx_Met l y ws rm Pc Qc XC mc ms free) (cw : vx_CSW R s args own index y bytes maxL ret hh ws rm mc ms n) (hp : PreS s H Pc As)
    (hg : g.method = m) (hn : As.length = n) (hsize : g.locals.size = nL) (hstack : g.stack = As.reverse ++ rest) (hW : 2 * g.monitorRoom + (rest.map fun v => v.category).sum ≤ 8) (hdg : decode cc g.pc = .ok (.invokestatic index, 3)) (hf : cells + mc ≤ R.cells ∧ slots + ms ≤ R.slots) :
    vx_Run p l e R s m args below meth c H locs cells slots mc ms g rest (Qc As.toArray) XC free := by
  obtain ⟨⟨hrc, hrs, hfr, hlo, hws, hcw⟩, hcode, hini, hy, hlen, hl, hstt⟩ := cw
  have hK : vx_Back l R p e below s args y 3 8 (PreOf R mc ms Pc) (PostOf Qc mc ms free) (vx_Post XC mc ms free) := vx_backW (hh := hh) (bytes := bytes) (maxL := maxL) (ret := ret) hM hp.1 hrc hrs hfr hlo hws hcw (fun a' U hW => word_at hW (Or.inl (by first | rfl | simp [Cond.onTables, Cond.keeps, Cond.steady])) hini)
  obtain ⟨hx, hb, hml, ho, -⟩ := S
  intro T hT X
  rcases vx_callSX X hx (hh := hh) (bytes := bytes) (maxL := maxL) (ret := ret) ho hl hstt hini hcode hy hK hg (hsize.trans hml.symm) (argsL := As) (rest := rest) (fun sig h => hn.trans (hlen sig h)) hstack hW (by rw [hb]; exact hdg)
    (fun vm₁ hW₁ => ⟨hf.1, hf.2, hp.2 (T.setVm vm₁) hT hW₁⟩) with ⟨v, vm₁, ⟨U', l2, c2, s2⟩, hW₁, X', ⟨g', mk, t, L, e1, e2, hq, h1, hL, h2, h3⟩, st⟩ | ⟨q, vm₁, ⟨U', l2, c2, s2⟩, hW₁, X', ⟨g', mk, t, L, E, ce, e1, e2, hq, hce, hcv, hcl, h1, hL, h2, h3⟩, st⟩
  · dsimp only [Pt.U, Pt.locs, Pt.cells, Pt.slots] at X' e1 e2 h1 h2 h3 st
    subst h1; subst h2; subst h3
    exact Or.inl ⟨v, (T.setVm vm₁).calling g' mk As.toArray, t, U', L, hT, X', hL, e1, e2, hq, st⟩
  · dsimp only [Pt.U, Pt.locs, Pt.cells, Pt.slots] at X' e1 e2 h1 h2 h3 st hcl
    subst h1; subst h2; subst h3
    exact Or.inr ⟨q, (T.setVm vm₁).calling g' mk As.toArray, t, U', L, E, ce, hT, X', hL, e1, e2, hq, hce, hcv, vx_cls hW₁ hcl, st⟩
end
end VXH
theorem vx_ofWH {l : Launch} {y : MethodName} {ws ws' : List Cond} {rm : Room} {Pc : Array Value → State → Prop} {Qc : Array Value → State → Outcome → State → Prop} {XC : String → State → State → Prop} {mc ms : Nat} {free : Addr → Prop} {cc : ByteArray} {maxL : Nat} {ret : Option FieldType} {hh : List (Nat × Nat × Nat × Nat)}
    (hy : plainName y.cls = true) (hw : ws = Cond.codeWith y cc maxL ret hh :: ws')
    (body : ∀ p e s m args below meth c s₁, BodyLoose p l y (headSpec ws rm) cc maxL ret e s m args below meth c s₁ → c.maxLocals = maxL → Pc args s →
      W p l e (headSpec ws rm).room s m args below meth c s.heap [] 0 0 (vx_MQ below Qc XC args s mc ms free) (entryFrame m args maxL)) : vx_Met l y ws rm Pc Qc XC mc ms free := by
  refine MetFree.of_bodyS (code := cc) (maxLocals := maxL) (ret := ret) hy ?_ ?_
  · intro args s m h hn
    obtain ⟨m9, meth, c, hn9, h1, h2, h3, h4, -, h5, h6, -⟩ := Cond.codeWith_spec (atoms_spec (ws := ws) h _ (by rw [hw]; exact List.mem_cons_self))
    cases hn.symm.trans hn9
    exact ⟨meth, c, h1, h2, h3, h4, h5, h6⟩
  · intro p e s m args below meth c s₁ B hml hP _
    have hh0 : s₁.heap = s.heap := by rw [B.state]; rfl
    obtain ⟨t, a1, o, b1, b2, b3⟩ := body p e s m args below meth c s₁ B hml hP s₁ hh0 (Stand.of_body B)
    exact ⟨t, o, a1, b1, b2, b3⟩
/-! ===== END ===== -/
/-! ===== BEGIN what the machine throws by itself, no traces kept ===== -/
section VXM
set_option maxHeartbeats 1000000 in
/-- the machine throws cls with the message text, no traces kept: from its note over the frame g to 'throwing' over the same frame (follows the proofs of Stand.vmThrowsMessage, Shelf/KitTracedVmS.lean, and Stand.throwsMessageColdBareV, StandMessageColdV.lean, without the step out of the frame) -/
theorem vx_vmAt {p : Program} {l : Launch} {e : Env} {R : Room} {s : State} {m₀ : MethodId} {args : Array Value} {below : List Frame} {meth : Method} {c : Code} {W : State} {locs : List Loc} {cells slots : Nat}
    (X : Stand p l e R s m₀ args below meth c W locs cells slots) (hexec : p.tables.exec = Jvm.exec) (htr : e.platform.stackTraces = false) {cls : String} {names : List String} {text : String}
    (hcls : Bundle.fit cls = true) (hnames : ∀ n ∈ names, Bundle.fit n = true) (hsoe : (cls == "java/lang/StackOverflowError") = false) (hoom : (cls == "java/lang/OutOfMemoryError") = false)
    (h : ∀ a ∈ Bundle.messageArmAtoms cls names, a.before args s = true)
    (hlocs : ∀ x ∈ locs, ∀ cell, s.heap[x.base]? = some cell → cell.vm.isStatics = false)
    (htext : (text == notModelled) = false) (hlimit : ¬ (stringBytes (stringToUtf16 text)).size > e.platform.arrayLengthLimit) (hheap : ¬ (stringBytes (stringToUtf16 text)).size * componentBytes .byte > e.platform.maxHeapBytes)
    {g : JFrame} (hg : g.method = m₀) (hsize : g.locals.size = c.maxLocals)
    (hRframes : names.length + 4 < R.frames) (hRlocals : 2 * g.monitorRoom + (g.stack.map fun v => v.category).sum + 10240 ≤ R.locals) (hshort : 13 * names.length + 55 ≤ 10240)
    (hRcells : cells + 3 ≤ R.cells) (hRslots : slots + ((stringBytes (stringToUtf16 text)).size + 4 + 6) ≤ R.slots) (hlocks : meth.locks = false) :
    ∃ (S : State) (q : Addr) (ce : Cell), (∀ target, Steps p.tables e below ((S.setTop g).pushFrame (.throwing q)) target → Steps p.tables e below ((W.setTop g).pushFrame (.throwNew cls (some text) none)) target) ∧
      Stand p l e R s m₀ args below meth c S locs (cells + 3) (slots + ((stringBytes (stringToUtf16 text)).size + 4 + 6)) ∧ S.heap[q]? = some ce ∧ s.vm.findClass cls = some ce.cls ∧ ce.vm = .none := by
  have howns : e.platform.frameOwnsMonitors = true := by rw [X.admits.platform]
  have hfin : e.platform.finalization = false := by rw [X.admits.platform]
  have hpl : e.platform.magicAccessors = ({} : Platform).magicAccessors := by rw [X.admits.platform]
  have a : ∀ x, x ∈ Bundle.messageArmAtoms cls names → x.holds args s none s [] = true := fun x hx => h x hx
  obtain ⟨T, Z0, L, -, Y⟩ := ThrowableC.of_atoms (args := args) howns hfin hpl (fun x hx => h x (by simp [Bundle.messageArmAtoms, hx]))
  obtain ⟨Z, M, LZ, LM, hnZ⟩ := Init0T.ofS_atoms (args := args) hpl L Y (fun x hx => h x (by simp [Bundle.messageArmAtoms, hx]))
  obtain ⟨P1, Ps, hlen, L1, hL, hP1m, hlink1, hlink⟩ := Bundle.chainS (args := args) hpl hnZ names cls hcls hnames (fun x hx => h x (by simp [Bundle.messageArmAtoms, hx]))
  obtain ⟨Zs, LZs, hn4, hfitv, hfitc⟩ := StringT.of_atoms (args := args) (fun x hx => h x (by simp [Bundle.messageArmAtoms, hx]))
  have hfound : s.vm.findClass cls = some P1.m.cls := findClass_of_methodNamed hP1m
  obtain ⟨c1, kX, hc1, hk, hord, -, -, hn6⟩ := Cond.instantiable_spec (a (.instantiable cls 6) (by simp [Bundle.messageArmAtoms]))
  cases Option.some.inj (hc1.symm.trans hfound)
  have hinit := Cond.initialized_spec hfound hk (a (.initialized cls) (by simp [Bundle.messageArmAtoms]))
  have hctor : kX.findMethod "<init>" "(Ljava/lang/String;)V" = some P1.m.idx := findMethod_of_methodNamed hP1m hk
  have hsel0 : selectMethod e.platform s.vm P1.m.cls T.fill0 = .method T.fill0 := by
    obtain ⟨c2, r2, m2, q1, q2, q3, q4, -⟩ := Cond.selects_spec (a (.selects cls Bundle.tFill0 Bundle.tFill0) (by simp [Bundle.messageArmAtoms]))
    cases Option.some.inj (q1.symm.trans hfound)
    cases Option.some.inj (q2.symm.trans (State.methodFound?_of_named Y.fill0 (by decide)))
    cases Option.some.inj (q3.symm.trans Y.fill0)
    rw [Launch.admits_selectMethod X.admits]; exact q4
  have hselF : selectMethod e.platform s.vm P1.m.cls T.fill = .method T.fill := by
    obtain ⟨c2, r2, m2, q1, q2, q3, q4, -⟩ := Cond.selects_spec (a (.selects cls Bundle.tFill Bundle.tFill) (by simp [Bundle.messageArmAtoms]))
    cases Option.some.inj (q1.symm.trans hfound)
    cases Option.some.inj (q2.symm.trans (State.methodFound?_of_named Y.fill (by decide)))
    cases Option.some.inj (q3.symm.trans Y.fill)
    rw [Launch.admits_selectMethod X.admits]; exact q4
  obtain ⟨cellS0, hcS0, hiss⟩ := Y.statics
  obtain ⟨u0, hu0⟩ := Cond.staticRefV Y.unassigned L.unassignedStatic L.statics hcS0 hiss (a (.isRef (.static Bundle.tN "UNASSIGNED_STACK" Bundle.steD)) (by simp [Bundle.messageArmAtoms]))
  obtain ⟨sen, hsen⟩ := Cond.staticRefV Y.sentinel L.sentinelStatic L.statics hcS0 hiss (a (.isRef (.static Bundle.tN "SUPPRESSED_SENTINEL" Bundle.listD)) (by simp [Bundle.messageArmAtoms]))
  obtain ⟨ci198, i198, fB, hk198, hg198, ha198, hsB, -, hnB, htB, hffB⟩ := Cond.ownField (t := .object "java/lang/Object") Y.found L.cls (by decide +kernel) (a (.fieldLink Bundle.tN 198 Bundle.tN "backtrace" "Ljava/lang/Object;") (by simp [Bundle.messageArmAtoms])) (a (.lays Bundle.tN Bundle.tN "backtrace" "Ljava/lang/Object;") (by simp [Bundle.messageArmAtoms])) e.platform hpl
  obtain ⟨cellS, hcS', heS, -, hkeep⟩ := X.same.2.2.2.2.2 T.aS cellS0 hcS0
  have hcellS : W.heap[T.aS]? = some cellS := hcS'
  have hout' : ∀ i, (⟨T.aS, i⟩ : Loc) ∉ locs := fun i hmem => by
    have := hlocs _ hmem cellS0 hcS0
    rw [hiss] at this; cases this
  have hknownS : cellS.vm ≠ .unknown := by
    rw [heS]; intro hu
    rw [show cellS0.vm = .unknown from hu] at hiss
    cases hiss
  have hvU : cellS.slots[T.fUnassigned.slot]? = some u0.v := by rw [hkeep _ (hout' _)]; exact hu0
  have hvSen : cellS.slots[T.fSentinel.slot]? = some sen.v := by rw [hkeep _ (hout' _)]; exact hsen
  obtain ⟨iM, hffM⟩ := Y.msg
  obtain ⟨tyC, dC, hdC, hdnC⟩ := Cond.laysAt hfound hk Y.cause (a (.lays cls Bundle.tN "cause" "Ljava/lang/Throwable;") (by simp [Bundle.messageArmAtoms]))
  obtain ⟨tyS, dS, hdS, hdnS⟩ := Cond.laysAt hfound hk Y.stack (a (.lays cls Bundle.tN "stackTrace" Bundle.steD) (by simp [Bundle.messageArmAtoms]))
  obtain ⟨tyP, dP, hdP, hdnP⟩ := Cond.laysAt hfound hk Y.supp (a (.lays cls Bundle.tN "suppressedExceptions" Bundle.listD) (by simp [Bundle.messageArmAtoms]))
  obtain ⟨tyM, dM, hdM, hdnM⟩ := Cond.laysAt hfound hk hffM (a (.lays cls Bundle.tN "detailMessage" "Ljava/lang/String;") (by simp [Bundle.messageArmAtoms]))
  obtain ⟨tyB, dB, hdB, hdnB⟩ := Cond.laysAt hfound hk hffB (a (.lays cls Bundle.tN "backtrace" "Ljava/lang/Object;") (by simp [Bundle.messageArmAtoms]))
  have bC := Cond.laysApart hdB hdC hdnB hdnC (by rw [hnB, Y.causeName]; decide)
  have bS := Cond.laysApart hdB hdS hdnB hdnS (by rw [hnB, Y.stackName]; decide)
  have bP := Cond.laysApart hdB hdP hdnB hdnP (by rw [hnB, Y.suppName]; decide)
  have hbk : ((preparedCellV T.toThrowableT (freshCell P1.m.cls kX) (W.heap.size + 2) u0 sen).withEntry W.cur).slots[fB.slot]? = some .null := by
    have := fresh_default (c := P1.m.cls) tyB
    rw [htB] at this
    simpa [preparedCellV, Cell.setSlot, Cell.withEntry, Array.getElem?_setIfInBounds, bC, bS, bP, bC.symm, bS.symm, bP.symm, defaultValue] using this
  have tkC := Takes.of_laid (v := .ref (W.heap.size + 2)) hk hord tyC (by rw [Y.causeType]; rfl)
  have tkS := Takes.of_laid (v := u0.v) hk hord tyS (by rw [Y.stackType]; exact fits_refV_array _ u0)
  have tkP := Takes.of_laid (v := sen.v) hk hord tyP (by rw [Y.suppType]; exact fits_refV_object _ sen)
  have tkM := Takes.of_laid (v := .ref (W.heap.size + 1)) hk hord tyM (by rw [Y.msgType]; rfl)
  have hskip : SkipFacts T e.platform s (fun u => u) u0 ((preparedCellV T.toThrowableT (freshCell P1.m.cls kX) (W.heap.size + 2) u0 sen).withEntry W.cur) := ⟨{ ci198 := ci198, i198 := i198, fBack := fB }, ⟨hk198, hg198, ha198, hsB⟩, hbk, fun _ _ => rfl⟩
  have h0 : At W g.method c below := by rw [hg]; exact X.here
  obtain ⟨hbeyond, hfreeW⟩ := X.vmMayThrow hsize (.throwNew cls (some text) none) (fun f hf => by cases hf) rfl hRlocals
  have hfr' : W.frames.length + Ps.length + 4 < (e.platform.stackLimits W.me).1 := by have := X.framesAbove hRframes; omega
  have hwd' : (stackUse (.java g :: W.frames.tail)).2 + 13 * Ps.length + 55 ≤ (e.platform.stackLimits W.me).2 := by have := X.stackAbove hsize (K := 13 * Ps.length + 55) (by omega); omega
  have hslots : W.slotsUsed + (stringBytes (stringToUtf16 text)).size + Zs.kS.instanceTypes.size + kX.instanceTypes.size ≤ e.platform.maxSlots := by
    have := X.slotsAbove hRslots
    rw [hn4, hn6]
    omega
  obtain ⟨vm', hW', st⟩ := Steps.vmThrowsMessageColdByV p (s₀ := s) (S := W) (g := g) h0 hexec T L Z LZ M LM X.warmed (t := W.cur) rfl Zs LZs P1 L1 Ps hL hlink1 hlink hsoe hoom hfound hk hinit hord hctor
    (Launch.admits_hotImplicitExceptions X.admits) hbeyond hfreeW htext hlimit hheap (X.cellsAbove hRcells) hslots (hfitv _) (hfitc _)
    (Nn := fun u => u) heapOnly_id (fun _ _ => rfl) (fun _ => rfl) (fun u x y => setCell_twice _ _ _ _) (fun _ => Nat.le_refl _) (cN := ((preparedCellV T.toThrowableT (freshCell P1.m.cls kX) (W.heap.size + 2) u0 sen).withEntry W.cur))
    hsel0 hcellS hknownS hvU tkS (fun _ hu => hu) (fun _ hu => hu) rfl rfl rfl (by simp [preparedCellV, Cell.setSlot, Cell.withEntry]) hskip (fun _ _ hA hW _ hroom _ hrest => L.nativeOff p htr hA hW hroom hrest) hselF hvSen tkC tkP tkM Y.objLocals rfl hfr' hwd'
  rw [plainBareV_eq T.toThrowableT (W.heap.size + 2) u0 sen (.ref (W.heap.size + 1)) W.cur rfl rfl] at st
  obtain ⟨-, -, w3, w4, -, -, -⟩ := withThrown_facts e.platform W Zs text P1.m.cls kX
  have X3 := ((X.pushed (bytesOf Zs.cB (stringToUtf16 text))).pushed (stringAt Zs.cS Zs.kS Zs.fv Zs.fc (stringToUtf16 text) W.heap.size)).pushed (freshCell P1.m.cls kX)
  rw [← withString_eq] at X3
  have X4 := X3.noted hW'
  have ha : (W.heap.size + 2) < ((withThrown W Zs text P1.m.cls kX).setVm vm').heap.size := by show _ < (withThrown W Zs text P1.m.cls kX).heap.size; rw [w3]; omega
  have hcell : ((withThrown W Zs text P1.m.cls kX).setVm vm').heap[(W.heap.size + 2)]? = some (freshCell P1.m.cls kX) := w4
  have X5 := ((((X4.stored hcell T.fCause.slot (.ref (W.heap.size + 2))).storedAgain ha T.fStack.slot u0.v).storedAgain ha T.fSupp.slot sen.v).storedAgain ha T.fStack.slot u0.v).storedAgain ha T.fMsg.slot (.ref (W.heap.size + 1))
  obtain ⟨g₁, hfrM⟩ := X5.frames_eq
  have hU : ((((withThrown W Zs text P1.m.cls kX).setVm vm').setCell (W.heap.size + 2) (plainBareV T.toThrowableT (freshCell P1.m.cls kX) (W.heap.size + 2) u0 sen (.ref (W.heap.size + 1)))).setTop g).pushFrame (.throwing (W.heap.size + 2)) = (((withThrown W Zs text P1.m.cls kX).setVm vm').setCell (W.heap.size + 2) (plainBareV T.toThrowableT (freshCell P1.m.cls kX) (W.heap.size + 2) u0 sen (.ref (W.heap.size + 1)))).setFrames (.throwing (W.heap.size + 2) :: .java g :: below) := by
    rw [State.pushFrame, State.frames_setTop _ hfrM, State.setTop_of_frames _ hfrM, State.setFrames_setFrames]
  have b1 : (bytesOf Zs.cB (stringToUtf16 text)).slots.size = (stringBytes (stringToUtf16 text)).size := by
    rw [(Cell.writeAll_facts _ _).2.2]; simp [bytes0]
  have b2 : (stringAt Zs.cS Zs.kS Zs.fv Zs.fc (stringToUtf16 text) W.heap.size).slots.size = 4 := by simp [string0, Cell.setSlot, hn4]
  have b3 : (freshCell P1.m.cls kX).slots.size = 6 := by simp [hn6]
  rw [b1, b2, b3] at X5
  have e9 : slots + (stringBytes (stringToUtf16 text)).size + 4 + 6 = slots + ((stringBytes (stringToUtf16 text)).size + 4 + 6) := by omega
  rw [e9] at X5
  simp only [List.append_assoc, List.cons_append, List.nil_append] at X5
  refine ⟨((withThrown W Zs text P1.m.cls kX).setVm vm').setCell (W.heap.size + 2) (plainBareV T.toThrowableT (freshCell P1.m.cls kX) (W.heap.size + 2) u0 sen (.ref (W.heap.size + 1))), W.heap.size + 2, _, fun target ht => st _ (by rw [X.tail, ← hU]; exact ht),
    X5.forget (fun y hy => ?_), heapAt_setCell_self _ ha, hfound, rfl⟩
  simp only [List.mem_cons, List.not_mem_nil, or_false] at hy
  have hge : s.heap.size ≤ W.heap.size := X.same.2.1
  rcases hy with rfl | rfl | rfl | rfl | rfl <;> exact Nat.le_trans hge (Nat.le_add_right _ 2)
set_option maxHeartbeats 1000000 in
/-- the machine throws NullPointerException, no traces kept: from its note over the frame g to 'throwing' over the same frame (follows the proof of Stand.vmThrowsNpe, Shelf42/KT2.lean; throwsNpeColdBareVAt, Shelf42/NT91.lean, called) -/
theorem vx_npeAt {p : Program} {l : Launch} {e : Env} {R : Room} {s : State} {m₀ : MethodId} {args : Array Value} {below : List Frame} {meth : Method} {c : Code} {W : State} {locs : List Loc} {cells slots : Nat}
    (X : Stand p l e R s m₀ args below meth c W locs cells slots) (hexec : p.tables.exec = Jvm.exec) (htr : e.platform.stackTraces = false) {n : Nat}
    (h : ∀ a ∈ Bundle.npeArmAtoms n, a.before args s = true)
    (hlocs : ∀ x ∈ locs, ∀ cell, s.heap[x.base]? = some cell → cell.vm.isStatics = false)
    {g : JFrame} (hg : g.method = m₀) (hsize : g.locals.size = c.maxLocals)
    (hRframes : 7 < R.frames) (hRlocals : 2 * g.monitorRoom + (g.stack.map fun v => v.category).sum + 10240 ≤ R.locals)
    (hRcells : cells + 1 ≤ R.cells) (hRslots : slots + n ≤ R.slots) (hlocks : meth.locks = false) :
    ∃ (S : State) (q : Addr) (ce : Cell), (∀ target, Steps p.tables e below ((S.setTop g).pushFrame (.throwing q)) target → Steps p.tables e below ((W.setTop g).pushFrame (.throwNew "java/lang/NullPointerException" none none)) target) ∧
      Stand p l e R s m₀ args below meth c S locs (cells + 1) (slots + n) ∧ S.heap[q]? = some ce ∧ s.vm.findClass "java/lang/NullPointerException" = some ce.cls ∧ ce.vm = .none := by
  have howns : e.platform.frameOwnsMonitors = true := by rw [X.admits.platform]
  have hfin : e.platform.finalization = false := by rw [X.admits.platform]
  have hpl : e.platform.magicAccessors = ({} : Platform).magicAccessors := by rw [X.admits.platform]
  have hpl2 : e.platform.arrayCloneIsPublic = true := by rw [X.admits.platform]
  have a' : ∀ x, x ∈ Bundle.npeArmAtoms n → x.holds args s none s [] = true := fun x hx => h x hx
  obtain ⟨T, Z, L, LZ, Y⟩ := ThrowableC.of_atoms (args := args) howns hfin hpl (fun x hx => h x (by simp [Bundle.npeArmAtoms, hx]))
  obtain ⟨N, LN, hcN, hnNF, hordN, hffS⟩ := NpeC.of_atoms (args := args) hpl hpl2 L Y (fun x hx => h x (by simp [Bundle.npeArmAtoms, hx]))
  obtain ⟨P1, L1, hP1m, hP1s⟩ := PassC.of_atoms (args := args) (s := s) hpl (X := Bundle.nN) (Y := Bundle.rN) (by decide) (by decide) LibCode.NullPointerException.Init0.at_0 LibCode.NullPointerException.Init0.at_1 LibCode.NullPointerException.Init0.at_4 (fun x hx => h x (by simp [Bundle.npeArmAtoms, hx]))
  obtain ⟨PR, LR, hPRm, hPRs⟩ := PassC.of_atoms (args := args) (s := s) hpl (X := Bundle.rN) (Y := Bundle.eN) (by decide) (by decide) LibCode.RuntimeException.Init0.at_0 LibCode.RuntimeException.Init0.at_1 LibCode.RuntimeException.Init0.at_4 (fun x hx => h x (by simp [Bundle.npeArmAtoms, hx]))
  obtain ⟨PE, LEx, hPEm, hPEs⟩ := PassC.of_atoms (args := args) (s := s) hpl (X := Bundle.eN) (Y := Bundle.tN) (by decide) (by decide) LibCode.Exception.Init0.at_0 LibCode.Exception.Init0.at_1 LibCode.Exception.Init0.at_4 (fun x hx => h x (by simp [Bundle.npeArmAtoms, hx]))
  have hfound : s.vm.findClass Bundle.nN = some P1.m.cls := findClass_of_methodNamed hP1m
  have ecls : N.cN = P1.m.cls := Option.some.inj (hcN.symm.trans hfound)
  have hk : s.vm.classes[P1.m.cls]? = some N.kN := by rw [← ecls]; exact LN.cls
  have hinit := Cond.initialized_spec hfound hk (a' (.initialized Bundle.nN) (by simp [Bundle.npeArmAtoms]))
  have hctor : N.kN.findMethod "<init>" "()V" = some P1.m.idx := findMethod_of_methodNamed hP1m hk
  obtain ⟨c1, k1, hc1, hk1, -, -, -, hn⟩ := Cond.instantiable_spec (a' (.instantiable Bundle.nN n) (by simp [Bundle.npeArmAtoms]))
  cases Option.some.inj (hc1.symm.trans hfound)
  cases Option.some.inj (hk1.symm.trans hk)
  have hfsz : (freshCell P1.m.cls N.kN).slots.size = n := by simp [hn]
  have hlink1 : P1.sup = PR.m := Option.some.inj (hP1s.symm.trans hPRm)
  have hlinkR : PR.sup = PE.m := Option.some.inj (hPRs.symm.trans hPEm)
  have hlinkE : PE.sup = Z.m T.toThrowableT := Option.some.inj (hPEs.symm.trans Y.init0)
  have hLs : ∀ P, P ∈ [PR, PE] → P.Links0 e.platform s := fun P hP => by
    simp only [List.mem_cons, List.not_mem_nil, or_false] at hP
    rcases hP with rfl | rfl
    · exact LR
    · exact LEx
  have hsel0 : selectMethod e.platform s.vm P1.m.cls T.fill0 = .method T.fill0 := by
    obtain ⟨c2, r2, m2, q1, q2, q3, q4, -⟩ := Cond.selects_spec (a' (.selects Bundle.nN Bundle.tFill0 Bundle.tFill0) (by simp [Bundle.npeArmAtoms]))
    cases Option.some.inj (q1.symm.trans hfound)
    cases Option.some.inj (q2.symm.trans (State.methodFound?_of_named Y.fill0 (by decide)))
    cases Option.some.inj (q3.symm.trans Y.fill0)
    rw [Launch.admits_selectMethod X.admits]; exact q4
  have hselF : selectMethod e.platform s.vm P1.m.cls T.fill = .method N.fill := by
    obtain ⟨c2, r2, m2, q1, q2, q3, q4, -⟩ := Cond.selects_spec (a' (.selects Bundle.nN Bundle.tFill Bundle.nFill) (by simp [Bundle.npeArmAtoms]))
    cases Option.some.inj (q1.symm.trans hfound)
    cases Option.some.inj (q2.symm.trans (State.methodFound?_of_named Y.fill (by decide)))
    cases Option.some.inj (q3.symm.trans hnNF)
    rw [Launch.admits_selectMethod X.admits]; exact q4
  obtain ⟨cellS0, hcS0, hiss⟩ := Y.statics
  obtain ⟨u0, hu0⟩ := Cond.staticRefV Y.unassigned L.unassignedStatic L.statics hcS0 hiss (a' (.isRef (.static Bundle.tN "UNASSIGNED_STACK" Bundle.steD)) (by simp [Bundle.npeArmAtoms]))
  obtain ⟨sen, hsen⟩ := Cond.staticRefV Y.sentinel L.sentinelStatic L.statics hcS0 hiss (a' (.isRef (.static Bundle.tN "SUPPRESSED_SENTINEL" Bundle.listD)) (by simp [Bundle.npeArmAtoms]))
  obtain ⟨ci198, i198, fB, hk198, hg198, ha198, hsB, -, hnB, htB, hffB⟩ := Cond.ownField (t := .object "java/lang/Object") Y.found L.cls (by decide +kernel) (a' (.fieldLink Bundle.tN 198 Bundle.tN "backtrace" Bundle.objD) (by simp [Bundle.npeArmAtoms])) (a' (.lays Bundle.tN Bundle.tN "backtrace" Bundle.objD) (by simp [Bundle.npeArmAtoms])) e.platform hpl
  obtain ⟨cellS, hcS', heS, -, hkeep⟩ := X.same.2.2.2.2.2 T.aS cellS0 hcS0
  have hcellS : W.heap[T.aS]? = some cellS := hcS'
  have hout' : ∀ i, (⟨T.aS, i⟩ : Loc) ∉ locs := fun i hmem => by
    have := hlocs _ hmem cellS0 hcS0
    rw [hiss] at this; cases this
  have hknownS : cellS.vm ≠ .unknown := by
    rw [heS]; intro hu
    rw [show cellS0.vm = .unknown from hu] at hiss
    cases hiss
  have hvU : cellS.slots[T.fUnassigned.slot]? = some u0.v := by rw [hkeep _ (hout' _)]; exact hu0
  have hvSen : cellS.slots[T.fSentinel.slot]? = some sen.v := by rw [hkeep _ (hout' _)]; exact hsen
  obtain ⟨tyC, dC, hdC, hdnC⟩ := Cond.laysAt hfound hk Y.cause (a' (.lays Bundle.nN Bundle.tN "cause" "Ljava/lang/Throwable;") (by simp [Bundle.npeArmAtoms]))
  obtain ⟨tyS, dS, hdS, hdnS⟩ := Cond.laysAt hfound hk Y.stack (a' (.lays Bundle.nN Bundle.tN "stackTrace" Bundle.steD) (by simp [Bundle.npeArmAtoms]))
  obtain ⟨tyP, dP, hdP, hdnP⟩ := Cond.laysAt hfound hk Y.supp (a' (.lays Bundle.nN Bundle.tN "suppressedExceptions" Bundle.listD) (by simp [Bundle.npeArmAtoms]))
  obtain ⟨tyX, dX, hdX, hdnX⟩ := Cond.laysAt hfound hk hffS (a' (.lays Bundle.nN Bundle.nN "extendedMessageState" "I") (by simp [Bundle.npeArmAtoms, Bundle.npeAtoms]))
  obtain ⟨hnX, htX⟩ := State.fieldFound?_type hffS (t := .int) (by decide +kernel)
  have xC := Cond.laysApart hdC hdX hdnC hdnX (by rw [hnX, Y.causeName]; decide)
  have xS := Cond.laysApart hdS hdX hdnS hdnX (by rw [hnX, Y.stackName]; decide)
  have xP := Cond.laysApart hdP hdX hdnP hdnX (by rw [hnX, Y.suppName]; decide)
  have hv0 : (freshCell P1.m.cls N.kN).slots[N.fState.slot]? = some (.int 0) := by
    have := fresh_default (c := P1.m.cls) tyX
    rw [htX] at this; exact this
  obtain ⟨tyB, dB, hdB, hdnB⟩ := Cond.laysAt hfound hk hffB (a' (.lays Bundle.nN Bundle.tN "backtrace" Bundle.objD) (by simp [Bundle.npeArmAtoms]))
  have bC := Cond.laysApart hdB hdC hdnB hdnC (by rw [hnB, Y.causeName]; decide)
  have bS := Cond.laysApart hdB hdS hdnB hdnS (by rw [hnB, Y.stackName]; decide)
  have bP := Cond.laysApart hdB hdP hdnB hdnP (by rw [hnB, Y.suppName]; decide)
  have bX := Cond.laysApart hdB hdX hdnB hdnX (by rw [hnB, hnX]; decide)
  have hbk : ((npeCell N.toNpeT (preparedCellV T.toThrowableT (freshCell P1.m.cls N.kN) W.heap.size u0 sen) W.cur).withEntry W.cur).slots[fB.slot]? = some .null := by
    have := fresh_default (c := P1.m.cls) tyB
    rw [htB] at this
    simpa [npeCell, preparedCellV, Cell.setSlot, Cell.withEntry, Array.getElem?_setIfInBounds, bC, bS, bP, bX, bC.symm, bS.symm, bP.symm, bX.symm, defaultValue] using this
  have tkC := Takes.of_laid (v := .ref W.heap.size) hk hordN tyC (by rw [Y.causeType]; rfl)
  have tkS := Takes.of_laid (v := u0.v) hk hordN tyS (by rw [Y.stackType]; exact fits_refV_array _ u0)
  have tkP := Takes.of_laid (v := sen.v) hk hordN tyP (by rw [Y.suppType]; exact fits_refV_object _ sen)
  have tkX := Takes.of_laid (v := .int 1) hk hordN tyX (by rw [htX]; rfl)
  have hskip : SkipFacts T e.platform s (fun u => u) u0 ((npeCell N.toNpeT (preparedCellV T.toThrowableT (freshCell P1.m.cls N.kN) W.heap.size u0 sen) W.cur).withEntry W.cur) := ⟨{ ci198 := ci198, i198 := i198, fBack := fB }, ⟨hk198, hg198, ha198, hsB⟩, hbk, fun _ _ => rfl⟩
  obtain ⟨vm', X3, st, -⟩ := X.throwsNpeColdBareVAt hexec hg hsize T L Z LZ N LN P1 L1 [PR, PE] hLs hlink1 ⟨hlinkR, hlinkE, trivial⟩ hfound hk hinit hordN hctor hsel0 hselF hcellS hknownS hvU hvSen
    hv0 xC xS xP tkC tkS tkP tkX Y.objLocals hskip (fun _ _ hA hW _ hroom _ hrest => L.nativeOff p htr hA hW hroom hrest) (by simpa using hRframes) hRlocals (by simp) hRcells (by rw [hn]; exact hRslots)
  have hlt : W.heap.size < ((W.pushCell (freshCell P1.m.cls N.kN)).setVm vm').heap.size := by
    show W.heap.size < (W.pushCell (freshCell P1.m.cls N.kN)).heap.size
    rw [State.heap_size_pushCell]; omega
  rw [hfsz] at X3
  obtain ⟨g₁, hfrM⟩ := X3.frames_eq
  have hU : ((((W.pushCell (freshCell P1.m.cls N.kN)).setVm vm').setCell W.heap.size (npeBareV T.toThrowableT N.toNpeT (freshCell P1.m.cls N.kN) W.heap.size u0 sen)).setTop g).pushFrame (.throwing W.heap.size) = (((W.pushCell (freshCell P1.m.cls N.kN)).setVm vm').setCell W.heap.size (npeBareV T.toThrowableT N.toNpeT (freshCell P1.m.cls N.kN) W.heap.size u0 sen)).setFrames (.throwing W.heap.size :: .java g :: below) := by
    rw [State.pushFrame, State.frames_setTop _ hfrM, State.setTop_of_frames _ hfrM, State.setFrames_setFrames]
  refine ⟨_, W.heap.size, _, fun target ht => st.trans (by rw [← hU]; exact ht), X3.forget (fun y hy => ?_), heapAt_setCell_self _ hlt, hfound, rfl⟩
  simp only [List.mem_cons, List.not_mem_nil, or_false] at hy
  have hge : s.heap.size ≤ W.heap.size := X.same.2.1
  rcases hy with rfl | rfl | rfl | rfl | rfl <;> exact hge
/-- the words of a machine's NullPointerException, but the four that speak of the heap -/
def vx_atN (n : Nat) : List Cond := (Bundle.npeArmAtoms n).filter vx_no
/-- the words of a machine's throw with a message, but the four that speak of the heap -/
def vx_atM (X : String) (names : List String) : List Cond := (Bundle.messageArmAtoms X names).filter vx_no
section
variable {p : Program} {l : Launch} {e : Env} {R : Room} {s : State} {m : MethodId} {args : Array Value} {below : List Frame} {meth : Method} {c : Code} {H : Heap} {locs : List Loc} {cells slots : Nat}
/-- a frame seen from a rebased start, seen from the first start again -/
theorem vx_back9 {T S : State} {R' : Room} {k n : Nat} (X : Stand p l e R s m args below meth c T locs cells slots) (Y : Stand p l e R' ((T.setVm s.vm).setFrames (.invoking m args :: below)) m args below meth c T [] 0 0) (Z : Stand p l e R' ((T.setVm s.vm).setFrames (.invoking m args :: below)) m args below meth c S [] k n) :
    Stand p l e R s m args below meth c S locs (cells + k) (slots + n) := by
  have hW0 : s.WarmedH ((T.setVm s.vm).setFrames (.invoking m args :: below)).vm := State.WarmedH.refl s
  refine { admits := X.admits, cas := X.cas, clock := X.clock, frames := X.frames, room := X.room, hears := X.hears, method := X.method, code := X.code, here := Z.here, tail := Z.tail, warmed := State.WarmedH.trans hW0 Z.warmed, limits := Z.limits.trans (Y.limits.symm.trans X.limits), bytes := Z.bytes.trans (Y.bytes.symm.trans X.bytes), same := ?_ }
  obtain ⟨e1, e2⟩ := Z.same
  rw [State.setFrames_setFrames] at e1
  have h2 : (T.setVm s.vm).sameButNew (S.setVm s.vm) [] k n := ⟨e1, e2⟩
  have h3 := X.same.trans h2
  rw [List.append_nil] at h3
  exact h3
/-- from the machine's note that E is thrown here with this text -/
def vx_Note (p : Program) (l : Launch) (e : Env) (R : Room) (s : State) (m : MethodId) (args : Array Value) (below : List Frame) (meth : Method) (c : Code) (H : Heap) (locs : List Loc) (cells slots : Nat) (Q : State → Prop) (g : JFrame) (E text : String) : Prop :=
  ∀ T : State, T.heap = H → Stand p l e R s m args below meth c T locs cells slots → ∃ t, Steps p.tables e below ((T.setTop g).pushFrame (.throwNew E (some text) none)) t ∧ Q t
theorem vx_vm {pc : Nat} {ls : Array Slot} {rest : List Value} {Q : State → Prop} (hexec : p.tables.exec = Jvm.exec) (hl : l.stackTraces = false) {cls text : String} {names : List String} {nb : Nat} {A : Nat → Prop}
    (hcls : Bundle.fit cls = true) (hnames : ∀ n ∈ names, Bundle.fit n = true) (hsoe : (cls == "java/lang/StackOverflowError") = false) (hoom : (cls == "java/lang/OutOfMemoryError") = false)
    (hat : ∀ w ∈ vx_atM cls names, w.before args s = true) (hgood : ∀ w ∈ vx_atM cls names, vx_ot w = true)
    (hU : vx_Zq Bundle.tN "UNASSIGNED_STACK" Bundle.steD A s s.heap) (hN : vx_Zq Bundle.tN "SUPPRESSED_SENTINEL" Bundle.listD A s s.heap) (hS : va_S A s.heap H locs) (hsize : ls.size = c.maxLocals)
    (htext : (text == notModelled) = false) (hnb : (stringBytes (stringToUtf16 text)).size ≤ nb) (hnb1 : nb ≤ 1000)
    (hRframes : names.length + 4 < R.frames) (hRlocals : (rest.map fun v => v.category).sum + 10240 ≤ R.locals) (hshort : 13 * names.length + 55 ≤ 10240) (hRcells : cells + 3 ≤ R.cells) (hRslots : slots + (nb + 10) ≤ R.slots) (hlocks : meth.locks = false)
    (k : ∀ (H1 : Heap) (q9 : Addr) (ce : Cell), H.size ≤ H1.size → (∀ q : Nat, q < H.size → H1[q]? = H[q]?) → va_S A s.heap H1 locs → H1[q9]? = some ce → ce.vm = .none → s.vm.findClass cls = some ce.cls → vx_W p l e R s m args below meth c H1 locs (cells + 3) (slots + (nb + 10)) Q (F0 m pc ls rest) q9) :
    vx_Note p l e R s m args below meth c H locs cells slots Q (F0 m pc ls rest) cls text := by
  intro T hT X
  have htr : e.platform.stackTraces = false := (show e.platform.stackTraces = l.stackTraces by rw [X.admits.platform]).trans hl
  have Y := vx_rebase X (R' := { frames := R.frames, locals := R.locals, cells := 3, slots := nb + 10 }) (Nat.le_refl _) (Nat.le_refl _) hRcells hRslots
  have hhp : ((T.setVm s.vm).setFrames (.invoking m args :: below)).heap = H := hT
  have hW0 : s.WarmedH ((T.setVm s.vm).setFrames (.invoking m args :: below)).vm := State.WarmedH.refl s
  have hat' : ∀ w ∈ vx_atM cls names, w.before args ((T.setVm s.vm).setFrames (.invoking m args :: below)) = true := fun w hw => vx_ot_at hW0 rfl (hgood w hw) (hat w hw)
  have hU' : vx_Zq Bundle.tN "UNASSIGNED_STACK" Bundle.steD A ((T.setVm s.vm).setFrames (.invoking m args :: below)) ((T.setVm s.vm).setFrames (.invoking m args :: below)).heap := by rw [hhp]; exact vx_Zq.moved hW0.alike (hU.kept hS.2.1)
  have hN' : vx_Zq Bundle.tN "SUPPRESSED_SENTINEL" Bundle.listD A ((T.setVm s.vm).setFrames (.invoking m args :: below)) ((T.setVm s.vm).setFrames (.invoking m args :: below)).heap := by rw [hhp]; exact vx_Zq.moved hW0.alike (hN.kept hS.2.1)
  obtain ⟨S, q, ce, st, Z, hce, hcl', hv⟩ := vx_vmAt Y hexec htr (cls := cls) (names := names) (text := text) hcls hnames hsoe hoom (vx_own hat' (vx_isRefq hU'.1) (vx_isRefq hN'.1) hU'.2.word hN'.2.word) (fun x hx => nomatch hx) htext
    (by rw [Launch.admits_arrayLengthLimit X.admits]; omega) (by rw [Launch.admits_maxHeapBytes X.admits]; simp only [componentBytes]; omega)
    (g := F0 m pc ls rest) rfl hsize hRframes (by show 2 * 0 + (rest.map fun v => v.category).sum + 10240 ≤ R.locals; omega) hshort (by show 0 + 3 ≤ 3; omega) (by show 0 + (_ + 4 + 6) ≤ nb + 10; omega) hlocks
  obtain ⟨f1, f2⟩ := vx_frame Z.same
  have f1' : H.size ≤ S.heap.size := by rw [← hT]; exact f1
  have f2' : ∀ q : Nat, q < H.size → S.heap[q]? = H[q]? := fun q hq => by
    rw [← hT]
    exact f2 q (by rw [← hT] at hq; exact hq) (fun z hz => nomatch hz)
  have X5 := vx_back9 X Y Z
  have X6 : Stand p l e R s m args below meth c S locs (cells + 3) (slots + (nb + 10)) := { X5 with same := X5.same.mono (by omega) (by omega) }
  obtain ⟨t, a1, b1⟩ := k S.heap q ce f1' f2' ⟨Nat.le_trans hS.1 f1', fun q h1 h2 => (f2' q (Nat.lt_of_lt_of_le h1 hS.1)).trans (hS.2.1 q h1 h2), hS.2.2⟩ hce hv hcl' S rfl X6
  exact ⟨t, st t a1, b1⟩
/-- from the machine's note that NullPointerException is thrown here -/
def vx_NoteN (p : Program) (l : Launch) (e : Env) (R : Room) (s : State) (m : MethodId) (args : Array Value) (below : List Frame) (meth : Method) (c : Code) (H : Heap) (locs : List Loc) (cells slots : Nat) (Q : State → Prop) (g : JFrame) : Prop :=
  ∀ T : State, T.heap = H → Stand p l e R s m args below meth c T locs cells slots → ∃ t, Steps p.tables e below ((T.setTop g).pushFrame (.throwNew "java/lang/NullPointerException" none none)) t ∧ Q t
theorem vx_npe {pc : Nat} {ls : Array Slot} {rest : List Value} {Q : State → Prop} (hexec : p.tables.exec = Jvm.exec) (hl : l.stackTraces = false) {nb : Nat} {A : Nat → Prop}
    (hat : ∀ w ∈ vx_atN nb, w.before args s = true) (hgood : ∀ w ∈ vx_atN nb, vx_ot w = true)
    (hU : vx_Zq Bundle.tN "UNASSIGNED_STACK" Bundle.steD A s s.heap) (hN : vx_Zq Bundle.tN "SUPPRESSED_SENTINEL" Bundle.listD A s s.heap) (hS : va_S A s.heap H locs) (hsize : ls.size = c.maxLocals)
    (hRframes : 7 < R.frames) (hRlocals : (rest.map fun v => v.category).sum + 10240 ≤ R.locals) (hRcells : cells + 1 ≤ R.cells) (hRslots : slots + nb ≤ R.slots) (hlocks : meth.locks = false)
    (k : ∀ (H1 : Heap) (q9 : Addr) (ce : Cell), H.size ≤ H1.size → (∀ q : Nat, q < H.size → H1[q]? = H[q]?) → va_S A s.heap H1 locs → H1[q9]? = some ce → ce.vm = .none → s.vm.findClass "java/lang/NullPointerException" = some ce.cls → vx_W p l e R s m args below meth c H1 locs (cells + 1) (slots + nb) Q (F0 m pc ls rest) q9) :
    vx_NoteN p l e R s m args below meth c H locs cells slots Q (F0 m pc ls rest) := by
  intro T hT X
  have htr : e.platform.stackTraces = false := (show e.platform.stackTraces = l.stackTraces by rw [X.admits.platform]).trans hl
  have Y := vx_rebase X (R' := { frames := R.frames, locals := R.locals, cells := 1, slots := nb }) (Nat.le_refl _) (Nat.le_refl _) hRcells hRslots
  have hhp : ((T.setVm s.vm).setFrames (.invoking m args :: below)).heap = H := hT
  have hW0 : s.WarmedH ((T.setVm s.vm).setFrames (.invoking m args :: below)).vm := State.WarmedH.refl s
  have hat' : ∀ w ∈ vx_atN nb, w.before args ((T.setVm s.vm).setFrames (.invoking m args :: below)) = true := fun w hw => vx_ot_at hW0 rfl (hgood w hw) (hat w hw)
  have hU' : vx_Zq Bundle.tN "UNASSIGNED_STACK" Bundle.steD A ((T.setVm s.vm).setFrames (.invoking m args :: below)) ((T.setVm s.vm).setFrames (.invoking m args :: below)).heap := by rw [hhp]; exact vx_Zq.moved hW0.alike (hU.kept hS.2.1)
  have hN' : vx_Zq Bundle.tN "SUPPRESSED_SENTINEL" Bundle.listD A ((T.setVm s.vm).setFrames (.invoking m args :: below)) ((T.setVm s.vm).setFrames (.invoking m args :: below)).heap := by rw [hhp]; exact vx_Zq.moved hW0.alike (hN.kept hS.2.1)
  obtain ⟨S, q, ce, st, Z, hce, hcl', hv⟩ := vx_npeAt Y hexec htr (n := nb) (vx_own hat' (vx_isRefq hU'.1) (vx_isRefq hN'.1) hU'.2.word hN'.2.word) (fun x hx => nomatch hx)
    (g := F0 m pc ls rest) rfl hsize hRframes (by show 2 * 0 + (rest.map fun v => v.category).sum + 10240 ≤ R.locals; omega) (by show 0 + 1 ≤ 1; omega) (by show 0 + nb ≤ nb; omega) hlocks
  obtain ⟨f1, f2⟩ := vx_frame Z.same
  have f1' : H.size ≤ S.heap.size := by rw [← hT]; exact f1
  have f2' : ∀ q : Nat, q < H.size → S.heap[q]? = H[q]? := fun q hq => by
    rw [← hT]
    exact f2 q (by rw [← hT] at hq; exact hq) (fun z hz => nomatch hz)
  have X5 := vx_back9 X Y Z
  have X6 : Stand p l e R s m args below meth c S locs (cells + 1) (slots + nb) := { X5 with same := X5.same.mono (by omega) (by omega) }
  obtain ⟨t, a1, b1⟩ := k S.heap q ce f1' f2' ⟨Nat.le_trans hS.1 f1', fun q h1 h2 => (f2' q (Nat.lt_of_lt_of_le h1 hS.1)).trans (hS.2.1 q h1 h2), hS.2.2⟩ hce hv hcl' S rfl X6
  exact ⟨t, st t a1, b1⟩
variable {Q : State → Prop} {cc : ByteArray} {pc : Nat} {ls : Array Slot} {rest : List Value}
theorem vx_idivZ (hexec : p.tables.exec = Jvm.exec) (hb : c.code = cc) {a b : Int32} (h0 : b = 0) (d : decode cc pc = .ok (.idiv, 1)) (k : vx_Note p l e R s m args below meth c H locs cells slots Q (F0 m pc ls rest) "java/lang/ArithmeticException" "/ by zero") :
    W p l e R s m args below meth c H locs cells slots Q (F0 m pc ls (.int b :: .int a :: rest)) := by
  intro T hT X
  obtain ⟨t, st, q⟩ := k T hT X
  exact ⟨t, X.idivZero hexec (g := F0 m pc ls (.int b :: .int a :: rest)) rfl (a := a) (rest := rest) (by rw [h0]) (by rw [hb]; exact d) t st, q⟩
theorem vx_iremZ (hexec : p.tables.exec = Jvm.exec) (hb : c.code = cc) {a b : Int32} (h0 : b = 0) (d : decode cc pc = .ok (.irem, 1)) (k : vx_Note p l e R s m args below meth c H locs cells slots Q (F0 m pc ls rest) "java/lang/ArithmeticException" "/ by zero") :
    W p l e R s m args below meth c H locs cells slots Q (F0 m pc ls (.int b :: .int a :: rest)) := by
  intro T hT X
  obtain ⟨t, st, q⟩ := k T hT X
  exact ⟨t, X.iremZero hexec (g := F0 m pc ls (.int b :: .int a :: rest)) rfl (a := a) (rest := rest) (by rw [h0]) (by rw [hb]; exact d) t st, q⟩
theorem vx_ldivZ (hexec : p.tables.exec = Jvm.exec) (hb : c.code = cc) {a b : Int64} (h0 : b = 0) (d : decode cc pc = .ok (.ldiv, 1)) (k : vx_Note p l e R s m args below meth c H locs cells slots Q (F0 m pc ls rest) "java/lang/ArithmeticException" "/ by zero") :
    W p l e R s m args below meth c H locs cells slots Q (F0 m pc ls (.long b :: .long a :: rest)) := by
  intro T hT X
  obtain ⟨t, st, q⟩ := k T hT X
  exact ⟨t, X.ldivZero hexec (g := F0 m pc ls (.long b :: .long a :: rest)) rfl (a := a) (rest := rest) (by rw [h0]) (by rw [hb]; exact d) t st, q⟩
theorem vx_lremZ (hexec : p.tables.exec = Jvm.exec) (hb : c.code = cc) {a b : Int64} (h0 : b = 0) (d : decode cc pc = .ok (.lrem, 1)) (k : vx_Note p l e R s m args below meth c H locs cells slots Q (F0 m pc ls rest) "java/lang/ArithmeticException" "/ by zero") :
    W p l e R s m args below meth c H locs cells slots Q (F0 m pc ls (.long b :: .long a :: rest)) := by
  intro T hT X
  obtain ⟨t, st, q⟩ := k T hT X
  exact ⟨t, X.lremZero hexec (g := F0 m pc ls (.long b :: .long a :: rest)) rfl (a := a) (rest := rest) (by rw [h0]) (by rw [hb]; exact d) t st, q⟩
theorem vx_ialdZ {D : va_G} {cl : List vw_C} {ws : va_W} {tys : List (ClassId × FieldType)} {a : Nat} (hexec : p.tables.exec = Jvm.exec) (hb : c.code = cc) (hK : va_K D cl tys s) (hP : va_P D cl ws H) (q0 t0 : Nat) {cA : ClassId} {n : Nat} {f : Nat → Int32} (ha : ws[q0]? = some (a, .inl (cA, n, .inl f))) (ht : tys[t0]? = some (cA, .int)) {i : Int32} (hout : ¬ vp_in i n) (hdg : decode cc pc = .ok (.iaload, 1))
    (k : ∀ tx : String, tx = (toString "Index " ++ toString i ++ toString " out of bounds for length " ++ toString n : String) → vx_Note p l e R s m args below meth c H locs cells slots Q (F0 m pc ls rest) "java/lang/ArrayIndexOutOfBoundsException" tx) : W p l e R s m args below meth c H locs cells slots Q (F0 m pc ls (.int i :: .ref a :: rest)) := by
  intro T hT X
  obtain ⟨t, st, q⟩ := k _ rfl T hT X
  refine ⟨t, ?_, q⟩
  have h1 := X.ialoadOut hexec (by rw [hT]; exact hP q0 _ ha) ((hK.2 t0 _ ht).1 n (fun j => .int (f j))) (j := i) (by show (i < 0 ∨ (arrV _ _ _).slots.size ≤ _); rw [arrV_size]; exact Classical.byContradiction hout) (g := F0 m pc ls (.int i :: .ref a :: rest)) rfl (rest := rest) rfl (by rw [hb]; exact hdg) t
  simp only [arrV_size] at h1
  exact h1 st
theorem vx_iastZ {D : va_G} {cl : List vw_C} {ws : va_W} {tys : List (ClassId × FieldType)} {a : Nat} (hexec : p.tables.exec = Jvm.exec) (hb : c.code = cc) (hK : va_K D cl tys s) (hP : va_P D cl ws H) (q0 t0 : Nat) {cA : ClassId} {n : Nat} {f : Nat → Int32} (ha : ws[q0]? = some (a, .inl (cA, n, .inl f))) (ht : tys[t0]? = some (cA, .int)) {i : Int32} {x : Int32} (hout : ¬ vp_in i n) (hdg : decode cc pc = .ok (.iastore, 1))
    (k : ∀ tx : String, tx = (toString "Index " ++ toString i ++ toString " out of bounds for length " ++ toString n : String) → vx_Note p l e R s m args below meth c H locs cells slots Q (F0 m pc ls rest) "java/lang/ArrayIndexOutOfBoundsException" tx) : W p l e R s m args below meth c H locs cells slots Q (F0 m pc ls (.int x :: .int i :: .ref a :: rest)) := by
  intro T hT X
  obtain ⟨t, st, q⟩ := k _ rfl T hT X
  refine ⟨t, ?_, q⟩
  have h1 := X.iastoreOut hexec (by rw [hT]; exact hP q0 _ ha) ((hK.2 t0 _ ht).1 n (fun j => .int (f j))) (j := i) (by show (i < 0 ∨ (arrV _ _ _).slots.size ≤ _); rw [arrV_size]; exact Classical.byContradiction hout) (g := F0 m pc ls (.int x :: .int i :: .ref a :: rest)) rfl (rest := rest) rfl (by rw [hb]; exact hdg) t
  simp only [arrV_size] at h1
  exact h1 st
theorem vx_baldZ {D : va_G} {cl : List vw_C} {ws : va_W} {tys : List (ClassId × FieldType)} {a : Nat} (hexec : p.tables.exec = Jvm.exec) (hb : c.code = cc) (hK : va_K D cl tys s) (hP : va_P D cl ws H) (q0 t0 : Nat) {cA : ClassId} {n : Nat} {f : Nat → Int32} (ha : ws[q0]? = some (a, .inl (cA, n, .inl f))) (ht : tys[t0]? = some (cA, .byte)) {i : Int32} (hout : ¬ vp_in i n) (hdg : decode cc pc = .ok (.baload, 1))
    (k : ∀ tx : String, tx = (toString "Index " ++ toString i ++ toString " out of bounds for length " ++ toString n : String) → vx_Note p l e R s m args below meth c H locs cells slots Q (F0 m pc ls rest) "java/lang/ArrayIndexOutOfBoundsException" tx) : W p l e R s m args below meth c H locs cells slots Q (F0 m pc ls (.int i :: .ref a :: rest)) := by
  intro T hT X
  obtain ⟨t, st, q⟩ := k _ rfl T hT X
  refine ⟨t, ?_, q⟩
  have h1 := X.baloadOut hexec (by rw [hT]; exact hP q0 _ ha) ((hK.2 t0 _ ht).1 n (fun j => .int (f j))) (j := i) (by show (i < 0 ∨ (arrV _ _ _).slots.size ≤ _); rw [arrV_size]; exact Classical.byContradiction hout) (g := F0 m pc ls (.int i :: .ref a :: rest)) rfl (rest := rest) rfl (by rw [hb]; exact hdg) t
  simp only [arrV_size] at h1
  exact h1 st
theorem vx_bastZ {D : va_G} {cl : List vw_C} {ws : va_W} {tys : List (ClassId × FieldType)} {a : Nat} (hexec : p.tables.exec = Jvm.exec) (hb : c.code = cc) (hK : va_K D cl tys s) (hP : va_P D cl ws H) (q0 t0 : Nat) {cA : ClassId} {n : Nat} {f : Nat → Int32} (ha : ws[q0]? = some (a, .inl (cA, n, .inl f))) (ht : tys[t0]? = some (cA, .byte)) {i : Int32} {x : Int32} (hout : ¬ vp_in i n) (hdg : decode cc pc = .ok (.bastore, 1))
    (k : ∀ tx : String, tx = (toString "Index " ++ toString i ++ toString " out of bounds for length " ++ toString n : String) → vx_Note p l e R s m args below meth c H locs cells slots Q (F0 m pc ls rest) "java/lang/ArrayIndexOutOfBoundsException" tx) : W p l e R s m args below meth c H locs cells slots Q (F0 m pc ls (.int x :: .int i :: .ref a :: rest)) := by
  intro T hT X
  obtain ⟨t, st, q⟩ := k _ rfl T hT X
  refine ⟨t, ?_, q⟩
  have h1 := X.bastoreOut hexec (by rw [hT]; exact hP q0 _ ha) ((hK.2 t0 _ ht).1 n (fun j => .int (f j))) (j := i) (by show (i < 0 ∨ (arrV _ _ _).slots.size ≤ _); rw [arrV_size]; exact Classical.byContradiction hout) (g := F0 m pc ls (.int x :: .int i :: .ref a :: rest)) rfl (rest := rest) rfl (by rw [hb]; exact hdg) t
  simp only [arrV_size] at h1
  exact h1 st
theorem vx_zaldZ {D : va_G} {cl : List vw_C} {ws : va_W} {tys : List (ClassId × FieldType)} {a : Nat} (hexec : p.tables.exec = Jvm.exec) (hb : c.code = cc) (hK : va_K D cl tys s) (hP : va_P D cl ws H) (q0 t0 : Nat) {cA : ClassId} {n : Nat} {f : Nat → Int32} (ha : ws[q0]? = some (a, .inl (cA, n, .inl f))) (ht : tys[t0]? = some (cA, .boolean)) {i : Int32} (hout : ¬ vp_in i n) (hdg : decode cc pc = .ok (.baload, 1))
    (k : ∀ tx : String, tx = (toString "Index " ++ toString i ++ toString " out of bounds for length " ++ toString n : String) → vx_Note p l e R s m args below meth c H locs cells slots Q (F0 m pc ls rest) "java/lang/ArrayIndexOutOfBoundsException" tx) : W p l e R s m args below meth c H locs cells slots Q (F0 m pc ls (.int i :: .ref a :: rest)) := by
  intro T hT X
  obtain ⟨t, st, q⟩ := k _ rfl T hT X
  refine ⟨t, ?_, q⟩
  have h1 := X.baloadOut hexec (by rw [hT]; exact hP q0 _ ha) ((hK.2 t0 _ ht).1 n (fun j => .int (f j))) (j := i) (by show (i < 0 ∨ (arrV _ _ _).slots.size ≤ _); rw [arrV_size]; exact Classical.byContradiction hout) (g := F0 m pc ls (.int i :: .ref a :: rest)) rfl (rest := rest) rfl (by rw [hb]; exact hdg) t
  simp only [arrV_size] at h1
  exact h1 st
theorem vx_zastZ {D : va_G} {cl : List vw_C} {ws : va_W} {tys : List (ClassId × FieldType)} {a : Nat} (hexec : p.tables.exec = Jvm.exec) (hb : c.code = cc) (hK : va_K D cl tys s) (hP : va_P D cl ws H) (q0 t0 : Nat) {cA : ClassId} {n : Nat} {f : Nat → Int32} (ha : ws[q0]? = some (a, .inl (cA, n, .inl f))) (ht : tys[t0]? = some (cA, .boolean)) {i : Int32} {x : Int32} (hout : ¬ vp_in i n) (hdg : decode cc pc = .ok (.bastore, 1))
    (k : ∀ tx : String, tx = (toString "Index " ++ toString i ++ toString " out of bounds for length " ++ toString n : String) → vx_Note p l e R s m args below meth c H locs cells slots Q (F0 m pc ls rest) "java/lang/ArrayIndexOutOfBoundsException" tx) : W p l e R s m args below meth c H locs cells slots Q (F0 m pc ls (.int x :: .int i :: .ref a :: rest)) := by
  intro T hT X
  obtain ⟨t, st, q⟩ := k _ rfl T hT X
  refine ⟨t, ?_, q⟩
  have h1 := X.bastoreOut hexec (by rw [hT]; exact hP q0 _ ha) ((hK.2 t0 _ ht).1 n (fun j => .int (f j))) (j := i) (by show (i < 0 ∨ (arrV _ _ _).slots.size ≤ _); rw [arrV_size]; exact Classical.byContradiction hout) (g := F0 m pc ls (.int x :: .int i :: .ref a :: rest)) rfl (rest := rest) rfl (by rw [hb]; exact hdg) t
  simp only [arrV_size] at h1
  exact h1 st
theorem vx_caldZ {D : va_G} {cl : List vw_C} {ws : va_W} {tys : List (ClassId × FieldType)} {a : Nat} (hexec : p.tables.exec = Jvm.exec) (hb : c.code = cc) (hK : va_K D cl tys s) (hP : va_P D cl ws H) (q0 t0 : Nat) {cA : ClassId} {n : Nat} {f : Nat → Int32} (ha : ws[q0]? = some (a, .inl (cA, n, .inl f))) (ht : tys[t0]? = some (cA, .char)) {i : Int32} (hout : ¬ vp_in i n) (hdg : decode cc pc = .ok (.caload, 1))
    (k : ∀ tx : String, tx = (toString "Index " ++ toString i ++ toString " out of bounds for length " ++ toString n : String) → vx_Note p l e R s m args below meth c H locs cells slots Q (F0 m pc ls rest) "java/lang/ArrayIndexOutOfBoundsException" tx) : W p l e R s m args below meth c H locs cells slots Q (F0 m pc ls (.int i :: .ref a :: rest)) := by
  intro T hT X
  obtain ⟨t, st, q⟩ := k _ rfl T hT X
  refine ⟨t, ?_, q⟩
  have h1 := X.caloadOut hexec (by rw [hT]; exact hP q0 _ ha) ((hK.2 t0 _ ht).1 n (fun j => .int (f j))) (j := i) (by show (i < 0 ∨ (arrV _ _ _).slots.size ≤ _); rw [arrV_size]; exact Classical.byContradiction hout) (g := F0 m pc ls (.int i :: .ref a :: rest)) rfl (rest := rest) rfl (by rw [hb]; exact hdg) t
  simp only [arrV_size] at h1
  exact h1 st
theorem vx_castZ {D : va_G} {cl : List vw_C} {ws : va_W} {tys : List (ClassId × FieldType)} {a : Nat} (hexec : p.tables.exec = Jvm.exec) (hb : c.code = cc) (hK : va_K D cl tys s) (hP : va_P D cl ws H) (q0 t0 : Nat) {cA : ClassId} {n : Nat} {f : Nat → Int32} (ha : ws[q0]? = some (a, .inl (cA, n, .inl f))) (ht : tys[t0]? = some (cA, .char)) {i : Int32} {x : Int32} (hout : ¬ vp_in i n) (hdg : decode cc pc = .ok (.castore, 1))
    (k : ∀ tx : String, tx = (toString "Index " ++ toString i ++ toString " out of bounds for length " ++ toString n : String) → vx_Note p l e R s m args below meth c H locs cells slots Q (F0 m pc ls rest) "java/lang/ArrayIndexOutOfBoundsException" tx) : W p l e R s m args below meth c H locs cells slots Q (F0 m pc ls (.int x :: .int i :: .ref a :: rest)) := by
  intro T hT X
  obtain ⟨t, st, q⟩ := k _ rfl T hT X
  refine ⟨t, ?_, q⟩
  have h1 := X.castoreOut hexec (by rw [hT]; exact hP q0 _ ha) ((hK.2 t0 _ ht).1 n (fun j => .int (f j))) (j := i) (by show (i < 0 ∨ (arrV _ _ _).slots.size ≤ _); rw [arrV_size]; exact Classical.byContradiction hout) (g := F0 m pc ls (.int x :: .int i :: .ref a :: rest)) rfl (rest := rest) rfl (by rw [hb]; exact hdg) t
  simp only [arrV_size] at h1
  exact h1 st
theorem vx_saldZ {D : va_G} {cl : List vw_C} {ws : va_W} {tys : List (ClassId × FieldType)} {a : Nat} (hexec : p.tables.exec = Jvm.exec) (hb : c.code = cc) (hK : va_K D cl tys s) (hP : va_P D cl ws H) (q0 t0 : Nat) {cA : ClassId} {n : Nat} {f : Nat → Int32} (ha : ws[q0]? = some (a, .inl (cA, n, .inl f))) (ht : tys[t0]? = some (cA, .short)) {i : Int32} (hout : ¬ vp_in i n) (hdg : decode cc pc = .ok (.saload, 1))
    (k : ∀ tx : String, tx = (toString "Index " ++ toString i ++ toString " out of bounds for length " ++ toString n : String) → vx_Note p l e R s m args below meth c H locs cells slots Q (F0 m pc ls rest) "java/lang/ArrayIndexOutOfBoundsException" tx) : W p l e R s m args below meth c H locs cells slots Q (F0 m pc ls (.int i :: .ref a :: rest)) := by
  intro T hT X
  obtain ⟨t, st, q⟩ := k _ rfl T hT X
  refine ⟨t, ?_, q⟩
  have h1 := X.saloadOut hexec (by rw [hT]; exact hP q0 _ ha) ((hK.2 t0 _ ht).1 n (fun j => .int (f j))) (j := i) (by show (i < 0 ∨ (arrV _ _ _).slots.size ≤ _); rw [arrV_size]; exact Classical.byContradiction hout) (g := F0 m pc ls (.int i :: .ref a :: rest)) rfl (rest := rest) rfl (by rw [hb]; exact hdg) t
  simp only [arrV_size] at h1
  exact h1 st
theorem vx_sastZ {D : va_G} {cl : List vw_C} {ws : va_W} {tys : List (ClassId × FieldType)} {a : Nat} (hexec : p.tables.exec = Jvm.exec) (hb : c.code = cc) (hK : va_K D cl tys s) (hP : va_P D cl ws H) (q0 t0 : Nat) {cA : ClassId} {n : Nat} {f : Nat → Int32} (ha : ws[q0]? = some (a, .inl (cA, n, .inl f))) (ht : tys[t0]? = some (cA, .short)) {i : Int32} {x : Int32} (hout : ¬ vp_in i n) (hdg : decode cc pc = .ok (.sastore, 1))
    (k : ∀ tx : String, tx = (toString "Index " ++ toString i ++ toString " out of bounds for length " ++ toString n : String) → vx_Note p l e R s m args below meth c H locs cells slots Q (F0 m pc ls rest) "java/lang/ArrayIndexOutOfBoundsException" tx) : W p l e R s m args below meth c H locs cells slots Q (F0 m pc ls (.int x :: .int i :: .ref a :: rest)) := by
  intro T hT X
  obtain ⟨t, st, q⟩ := k _ rfl T hT X
  refine ⟨t, ?_, q⟩
  have h1 := X.sastoreOut hexec (by rw [hT]; exact hP q0 _ ha) ((hK.2 t0 _ ht).1 n (fun j => .int (f j))) (j := i) (by show (i < 0 ∨ (arrV _ _ _).slots.size ≤ _); rw [arrV_size]; exact Classical.byContradiction hout) (g := F0 m pc ls (.int x :: .int i :: .ref a :: rest)) rfl (rest := rest) rfl (by rw [hb]; exact hdg) t
  simp only [arrV_size] at h1
  exact h1 st
theorem vx_laldZ {D : va_G} {cl : List vw_C} {ws : va_W} {tys : List (ClassId × FieldType)} {a : Nat} (hexec : p.tables.exec = Jvm.exec) (hb : c.code = cc) (hK : va_K D cl tys s) (hP : va_P D cl ws H) (q0 t0 : Nat) {cA : ClassId} {n : Nat} {f : Nat → Int64} (ha : ws[q0]? = some (a, .inl (cA, n, .inr (.inl f)))) (ht : tys[t0]? = some (cA, .long)) {i : Int32} (hout : ¬ vp_in i n) (hdg : decode cc pc = .ok (.laload, 1))
    (k : ∀ tx : String, tx = (toString "Index " ++ toString i ++ toString " out of bounds for length " ++ toString n : String) → vx_Note p l e R s m args below meth c H locs cells slots Q (F0 m pc ls rest) "java/lang/ArrayIndexOutOfBoundsException" tx) : W p l e R s m args below meth c H locs cells slots Q (F0 m pc ls (.int i :: .ref a :: rest)) := by
  intro T hT X
  obtain ⟨t, st, q⟩ := k _ rfl T hT X
  refine ⟨t, ?_, q⟩
  have h1 := X.laloadOut hexec (by rw [hT]; exact hP q0 _ ha) ((hK.2 t0 _ ht).1 n (fun j => .long (f j))) (j := i) (by show (i < 0 ∨ (arrV _ _ _).slots.size ≤ _); rw [arrV_size]; exact Classical.byContradiction hout) (g := F0 m pc ls (.int i :: .ref a :: rest)) rfl (rest := rest) rfl (by rw [hb]; exact hdg) t
  simp only [arrV_size] at h1
  exact h1 st
theorem vx_lastZ {D : va_G} {cl : List vw_C} {ws : va_W} {tys : List (ClassId × FieldType)} {a : Nat} (hexec : p.tables.exec = Jvm.exec) (hb : c.code = cc) (hK : va_K D cl tys s) (hP : va_P D cl ws H) (q0 t0 : Nat) {cA : ClassId} {n : Nat} {f : Nat → Int64} (ha : ws[q0]? = some (a, .inl (cA, n, .inr (.inl f)))) (ht : tys[t0]? = some (cA, .long)) {i : Int32} {x : Int64} (hout : ¬ vp_in i n) (hdg : decode cc pc = .ok (.lastore, 1))
    (k : ∀ tx : String, tx = (toString "Index " ++ toString i ++ toString " out of bounds for length " ++ toString n : String) → vx_Note p l e R s m args below meth c H locs cells slots Q (F0 m pc ls rest) "java/lang/ArrayIndexOutOfBoundsException" tx) : W p l e R s m args below meth c H locs cells slots Q (F0 m pc ls (.long x :: .int i :: .ref a :: rest)) := by
  intro T hT X
  obtain ⟨t, st, q⟩ := k _ rfl T hT X
  refine ⟨t, ?_, q⟩
  have h1 := X.lastoreOut hexec (by rw [hT]; exact hP q0 _ ha) ((hK.2 t0 _ ht).1 n (fun j => .long (f j))) (j := i) (by show (i < 0 ∨ (arrV _ _ _).slots.size ≤ _); rw [arrV_size]; exact Classical.byContradiction hout) (g := F0 m pc ls (.long x :: .int i :: .ref a :: rest)) rfl (rest := rest) rfl (by rw [hb]; exact hdg) t
  simp only [arrV_size] at h1
  exact h1 st
theorem vx_faldZ {D : va_G} {cl : List vw_C} {ws : va_W} {tys : List (ClassId × FieldType)} {a : Nat} (hexec : p.tables.exec = Jvm.exec) (hb : c.code = cc) (hK : va_K D cl tys s) (hP : va_P D cl ws H) (q0 t0 : Nat) {cA : ClassId} {n : Nat} {f : Nat → UInt32} (ha : ws[q0]? = some (a, .inl (cA, n, .inr (.inr (.inl f))))) (ht : tys[t0]? = some (cA, .float)) {i : Int32} (hout : ¬ vp_in i n) (hdg : decode cc pc = .ok (.faload, 1))
    (k : ∀ tx : String, tx = (toString "Index " ++ toString i ++ toString " out of bounds for length " ++ toString n : String) → vx_Note p l e R s m args below meth c H locs cells slots Q (F0 m pc ls rest) "java/lang/ArrayIndexOutOfBoundsException" tx) : W p l e R s m args below meth c H locs cells slots Q (F0 m pc ls (.int i :: .ref a :: rest)) := by
  intro T hT X
  obtain ⟨t, st, q⟩ := k _ rfl T hT X
  refine ⟨t, ?_, q⟩
  have h1 := X.faloadOut hexec (by rw [hT]; exact hP q0 _ ha) ((hK.2 t0 _ ht).1 n (fun j => .float (f j))) (j := i) (by show (i < 0 ∨ (arrV _ _ _).slots.size ≤ _); rw [arrV_size]; exact Classical.byContradiction hout) (g := F0 m pc ls (.int i :: .ref a :: rest)) rfl (rest := rest) rfl (by rw [hb]; exact hdg) t
  simp only [arrV_size] at h1
  exact h1 st
theorem vx_fastZ {D : va_G} {cl : List vw_C} {ws : va_W} {tys : List (ClassId × FieldType)} {a : Nat} (hexec : p.tables.exec = Jvm.exec) (hb : c.code = cc) (hK : va_K D cl tys s) (hP : va_P D cl ws H) (q0 t0 : Nat) {cA : ClassId} {n : Nat} {f : Nat → UInt32} (ha : ws[q0]? = some (a, .inl (cA, n, .inr (.inr (.inl f))))) (ht : tys[t0]? = some (cA, .float)) {i : Int32} {x : UInt32} (hout : ¬ vp_in i n) (hdg : decode cc pc = .ok (.fastore, 1))
    (k : ∀ tx : String, tx = (toString "Index " ++ toString i ++ toString " out of bounds for length " ++ toString n : String) → vx_Note p l e R s m args below meth c H locs cells slots Q (F0 m pc ls rest) "java/lang/ArrayIndexOutOfBoundsException" tx) : W p l e R s m args below meth c H locs cells slots Q (F0 m pc ls (.float x :: .int i :: .ref a :: rest)) := by
  intro T hT X
  obtain ⟨t, st, q⟩ := k _ rfl T hT X
  refine ⟨t, ?_, q⟩
  have h1 := X.fastoreOut hexec (by rw [hT]; exact hP q0 _ ha) ((hK.2 t0 _ ht).1 n (fun j => .float (f j))) (j := i) (by show (i < 0 ∨ (arrV _ _ _).slots.size ≤ _); rw [arrV_size]; exact Classical.byContradiction hout) (g := F0 m pc ls (.float x :: .int i :: .ref a :: rest)) rfl (rest := rest) rfl (by rw [hb]; exact hdg) t
  simp only [arrV_size] at h1
  exact h1 st
theorem vx_daldZ {D : va_G} {cl : List vw_C} {ws : va_W} {tys : List (ClassId × FieldType)} {a : Nat} (hexec : p.tables.exec = Jvm.exec) (hb : c.code = cc) (hK : va_K D cl tys s) (hP : va_P D cl ws H) (q0 t0 : Nat) {cA : ClassId} {n : Nat} {f : Nat → UInt64} (ha : ws[q0]? = some (a, .inl (cA, n, .inr (.inr (.inr (.inl f)))))) (ht : tys[t0]? = some (cA, .double)) {i : Int32} (hout : ¬ vp_in i n) (hdg : decode cc pc = .ok (.daload, 1))
    (k : ∀ tx : String, tx = (toString "Index " ++ toString i ++ toString " out of bounds for length " ++ toString n : String) → vx_Note p l e R s m args below meth c H locs cells slots Q (F0 m pc ls rest) "java/lang/ArrayIndexOutOfBoundsException" tx) : W p l e R s m args below meth c H locs cells slots Q (F0 m pc ls (.int i :: .ref a :: rest)) := by
  intro T hT X
  obtain ⟨t, st, q⟩ := k _ rfl T hT X
  refine ⟨t, ?_, q⟩
  have h1 := X.daloadOut hexec (by rw [hT]; exact hP q0 _ ha) ((hK.2 t0 _ ht).1 n (fun j => .double (f j))) (j := i) (by show (i < 0 ∨ (arrV _ _ _).slots.size ≤ _); rw [arrV_size]; exact Classical.byContradiction hout) (g := F0 m pc ls (.int i :: .ref a :: rest)) rfl (rest := rest) rfl (by rw [hb]; exact hdg) t
  simp only [arrV_size] at h1
  exact h1 st
theorem vx_dastZ {D : va_G} {cl : List vw_C} {ws : va_W} {tys : List (ClassId × FieldType)} {a : Nat} (hexec : p.tables.exec = Jvm.exec) (hb : c.code = cc) (hK : va_K D cl tys s) (hP : va_P D cl ws H) (q0 t0 : Nat) {cA : ClassId} {n : Nat} {f : Nat → UInt64} (ha : ws[q0]? = some (a, .inl (cA, n, .inr (.inr (.inr (.inl f)))))) (ht : tys[t0]? = some (cA, .double)) {i : Int32} {x : UInt64} (hout : ¬ vp_in i n) (hdg : decode cc pc = .ok (.dastore, 1))
    (k : ∀ tx : String, tx = (toString "Index " ++ toString i ++ toString " out of bounds for length " ++ toString n : String) → vx_Note p l e R s m args below meth c H locs cells slots Q (F0 m pc ls rest) "java/lang/ArrayIndexOutOfBoundsException" tx) : W p l e R s m args below meth c H locs cells slots Q (F0 m pc ls (.double x :: .int i :: .ref a :: rest)) := by
  intro T hT X
  obtain ⟨t, st, q⟩ := k _ rfl T hT X
  refine ⟨t, ?_, q⟩
  have h1 := X.dastoreOut hexec (by rw [hT]; exact hP q0 _ ha) ((hK.2 t0 _ ht).1 n (fun j => .double (f j))) (j := i) (by show (i < 0 ∨ (arrV _ _ _).slots.size ≤ _); rw [arrV_size]; exact Classical.byContradiction hout) (g := F0 m pc ls (.double x :: .int i :: .ref a :: rest)) rfl (rest := rest) rfl (by rw [hb]; exact hdg) t
  simp only [arrV_size] at h1
  exact h1 st
theorem vx_arraylengthN (hexec : p.tables.exec = Jvm.exec) (hb : c.code = cc) (hdg : decode cc pc = .ok (.arraylength, 1)) (k : vx_NoteN p l e R s m args below meth c H locs cells slots Q (F0 m pc ls rest)) : W p l e R s m args below meth c H locs cells slots Q (F0 m pc ls (.null :: rest)) := by
  intro T hT X
  obtain ⟨t, st, q⟩ := k T hT X
  exact ⟨t, X.arraylengthNull hexec (g := F0 m pc ls (.null :: rest)) rfl (rest := rest) rfl (by rw [hb]; exact hdg) t st, q⟩
theorem vx_ialoadN (hexec : p.tables.exec = Jvm.exec) (hb : c.code = cc) {i : Int32} (hdg : decode cc pc = .ok (.iaload, 1)) (k : vx_NoteN p l e R s m args below meth c H locs cells slots Q (F0 m pc ls rest)) : W p l e R s m args below meth c H locs cells slots Q (F0 m pc ls (.int i :: .null :: rest)) := by
  intro T hT X
  obtain ⟨t, st, q⟩ := k T hT X
  exact ⟨t, X.ialoadNull hexec (g := F0 m pc ls (.int i :: .null :: rest)) rfl (rest := rest) rfl (by rw [hb]; exact hdg) t st, q⟩
theorem vx_laloadN (hexec : p.tables.exec = Jvm.exec) (hb : c.code = cc) {i : Int32} (hdg : decode cc pc = .ok (.laload, 1)) (k : vx_NoteN p l e R s m args below meth c H locs cells slots Q (F0 m pc ls rest)) : W p l e R s m args below meth c H locs cells slots Q (F0 m pc ls (.int i :: .null :: rest)) := by
  intro T hT X
  obtain ⟨t, st, q⟩ := k T hT X
  exact ⟨t, X.laloadNull hexec (g := F0 m pc ls (.int i :: .null :: rest)) rfl (rest := rest) rfl (by rw [hb]; exact hdg) t st, q⟩
theorem vx_faloadN (hexec : p.tables.exec = Jvm.exec) (hb : c.code = cc) {i : Int32} (hdg : decode cc pc = .ok (.faload, 1)) (k : vx_NoteN p l e R s m args below meth c H locs cells slots Q (F0 m pc ls rest)) : W p l e R s m args below meth c H locs cells slots Q (F0 m pc ls (.int i :: .null :: rest)) := by
  intro T hT X
  obtain ⟨t, st, q⟩ := k T hT X
  exact ⟨t, X.faloadNull hexec (g := F0 m pc ls (.int i :: .null :: rest)) rfl (rest := rest) rfl (by rw [hb]; exact hdg) t st, q⟩
theorem vx_daloadN (hexec : p.tables.exec = Jvm.exec) (hb : c.code = cc) {i : Int32} (hdg : decode cc pc = .ok (.daload, 1)) (k : vx_NoteN p l e R s m args below meth c H locs cells slots Q (F0 m pc ls rest)) : W p l e R s m args below meth c H locs cells slots Q (F0 m pc ls (.int i :: .null :: rest)) := by
  intro T hT X
  obtain ⟨t, st, q⟩ := k T hT X
  exact ⟨t, X.daloadNull hexec (g := F0 m pc ls (.int i :: .null :: rest)) rfl (rest := rest) rfl (by rw [hb]; exact hdg) t st, q⟩
theorem vx_aaloadN (hexec : p.tables.exec = Jvm.exec) (hb : c.code = cc) {i : Int32} (hdg : decode cc pc = .ok (.aaload, 1)) (k : vx_NoteN p l e R s m args below meth c H locs cells slots Q (F0 m pc ls rest)) : W p l e R s m args below meth c H locs cells slots Q (F0 m pc ls (.int i :: .null :: rest)) := by
  intro T hT X
  obtain ⟨t, st, q⟩ := k T hT X
  exact ⟨t, X.aaloadNull hexec (g := F0 m pc ls (.int i :: .null :: rest)) rfl (rest := rest) rfl (by rw [hb]; exact hdg) t st, q⟩
theorem vx_baloadN (hexec : p.tables.exec = Jvm.exec) (hb : c.code = cc) {i : Int32} (hdg : decode cc pc = .ok (.baload, 1)) (k : vx_NoteN p l e R s m args below meth c H locs cells slots Q (F0 m pc ls rest)) : W p l e R s m args below meth c H locs cells slots Q (F0 m pc ls (.int i :: .null :: rest)) := by
  intro T hT X
  obtain ⟨t, st, q⟩ := k T hT X
  exact ⟨t, X.baloadNull hexec (g := F0 m pc ls (.int i :: .null :: rest)) rfl (rest := rest) rfl (by rw [hb]; exact hdg) t st, q⟩
theorem vx_caloadN (hexec : p.tables.exec = Jvm.exec) (hb : c.code = cc) {i : Int32} (hdg : decode cc pc = .ok (.caload, 1)) (k : vx_NoteN p l e R s m args below meth c H locs cells slots Q (F0 m pc ls rest)) : W p l e R s m args below meth c H locs cells slots Q (F0 m pc ls (.int i :: .null :: rest)) := by
  intro T hT X
  obtain ⟨t, st, q⟩ := k T hT X
  exact ⟨t, X.caloadNull hexec (g := F0 m pc ls (.int i :: .null :: rest)) rfl (rest := rest) rfl (by rw [hb]; exact hdg) t st, q⟩
theorem vx_saloadN (hexec : p.tables.exec = Jvm.exec) (hb : c.code = cc) {i : Int32} (hdg : decode cc pc = .ok (.saload, 1)) (k : vx_NoteN p l e R s m args below meth c H locs cells slots Q (F0 m pc ls rest)) : W p l e R s m args below meth c H locs cells slots Q (F0 m pc ls (.int i :: .null :: rest)) := by
  intro T hT X
  obtain ⟨t, st, q⟩ := k T hT X
  exact ⟨t, X.saloadNull hexec (g := F0 m pc ls (.int i :: .null :: rest)) rfl (rest := rest) rfl (by rw [hb]; exact hdg) t st, q⟩
theorem vx_iastoreN (hexec : p.tables.exec = Jvm.exec) (hb : c.code = cc) {x : Int32} {i : Int32} (hdg : decode cc pc = .ok (.iastore, 1)) (k : vx_NoteN p l e R s m args below meth c H locs cells slots Q (F0 m pc ls rest)) : W p l e R s m args below meth c H locs cells slots Q (F0 m pc ls (.int x :: .int i :: .null :: rest)) := by
  intro T hT X
  obtain ⟨t, st, q⟩ := k T hT X
  exact ⟨t, X.iastoreNull hexec (g := F0 m pc ls (.int x :: .int i :: .null :: rest)) rfl (rest := rest) rfl (by rw [hb]; exact hdg) t st, q⟩
theorem vx_lastoreN (hexec : p.tables.exec = Jvm.exec) (hb : c.code = cc) {x : Int64} {i : Int32} (hdg : decode cc pc = .ok (.lastore, 1)) (k : vx_NoteN p l e R s m args below meth c H locs cells slots Q (F0 m pc ls rest)) : W p l e R s m args below meth c H locs cells slots Q (F0 m pc ls (.long x :: .int i :: .null :: rest)) := by
  intro T hT X
  obtain ⟨t, st, q⟩ := k T hT X
  exact ⟨t, X.lastoreNull hexec (g := F0 m pc ls (.long x :: .int i :: .null :: rest)) rfl (rest := rest) rfl (by rw [hb]; exact hdg) t st, q⟩
theorem vx_fastoreN (hexec : p.tables.exec = Jvm.exec) (hb : c.code = cc) {x : UInt32} {i : Int32} (hdg : decode cc pc = .ok (.fastore, 1)) (k : vx_NoteN p l e R s m args below meth c H locs cells slots Q (F0 m pc ls rest)) : W p l e R s m args below meth c H locs cells slots Q (F0 m pc ls (.float x :: .int i :: .null :: rest)) := by
  intro T hT X
  obtain ⟨t, st, q⟩ := k T hT X
  exact ⟨t, X.fastoreNull hexec (g := F0 m pc ls (.float x :: .int i :: .null :: rest)) rfl (rest := rest) rfl (by rw [hb]; exact hdg) t st, q⟩
theorem vx_dastoreN (hexec : p.tables.exec = Jvm.exec) (hb : c.code = cc) {x : UInt64} {i : Int32} (hdg : decode cc pc = .ok (.dastore, 1)) (k : vx_NoteN p l e R s m args below meth c H locs cells slots Q (F0 m pc ls rest)) : W p l e R s m args below meth c H locs cells slots Q (F0 m pc ls (.double x :: .int i :: .null :: rest)) := by
  intro T hT X
  obtain ⟨t, st, q⟩ := k T hT X
  exact ⟨t, X.dastoreNull hexec (g := F0 m pc ls (.double x :: .int i :: .null :: rest)) rfl (rest := rest) rfl (by rw [hb]; exact hdg) t st, q⟩
theorem vx_bastoreN (hexec : p.tables.exec = Jvm.exec) (hb : c.code = cc) {x : Int32} {i : Int32} (hdg : decode cc pc = .ok (.bastore, 1)) (k : vx_NoteN p l e R s m args below meth c H locs cells slots Q (F0 m pc ls rest)) : W p l e R s m args below meth c H locs cells slots Q (F0 m pc ls (.int x :: .int i :: .null :: rest)) := by
  intro T hT X
  obtain ⟨t, st, q⟩ := k T hT X
  exact ⟨t, X.bastoreNull hexec (g := F0 m pc ls (.int x :: .int i :: .null :: rest)) rfl (rest := rest) rfl (by rw [hb]; exact hdg) t st, q⟩
theorem vx_castoreN (hexec : p.tables.exec = Jvm.exec) (hb : c.code = cc) {x : Int32} {i : Int32} (hdg : decode cc pc = .ok (.castore, 1)) (k : vx_NoteN p l e R s m args below meth c H locs cells slots Q (F0 m pc ls rest)) : W p l e R s m args below meth c H locs cells slots Q (F0 m pc ls (.int x :: .int i :: .null :: rest)) := by
  intro T hT X
  obtain ⟨t, st, q⟩ := k T hT X
  exact ⟨t, X.castoreNull hexec (g := F0 m pc ls (.int x :: .int i :: .null :: rest)) rfl (rest := rest) rfl (by rw [hb]; exact hdg) t st, q⟩
theorem vx_sastoreN (hexec : p.tables.exec = Jvm.exec) (hb : c.code = cc) {x : Int32} {i : Int32} (hdg : decode cc pc = .ok (.sastore, 1)) (k : vx_NoteN p l e R s m args below meth c H locs cells slots Q (F0 m pc ls rest)) : W p l e R s m args below meth c H locs cells slots Q (F0 m pc ls (.int x :: .int i :: .null :: rest)) := by
  intro T hT X
  obtain ⟨t, st, q⟩ := k T hT X
  exact ⟨t, X.sastoreNull hexec (g := F0 m pc ls (.int x :: .int i :: .null :: rest)) rfl (rest := rest) rfl (by rw [hb]; exact hdg) t st, q⟩
theorem vx_invokeN {own C : String} {index maxL : Nat} {y : MethodName} {bytes : ByteArray} {ret : Option FieldType} (hexec : p.tables.exec = Jvm.exec) (hb : c.code = cc) (hown : s.vm.findClass own = some m.cls) (hlink : (Cond.methodLink own index y).before args s = true) (hinst : (Cond.instanceMethod y).before args s = true) (hcode : (Cond.code y bytes maxL ret).before args s = true) (hsel : (Cond.selects C y y).before args s = true)
    (hx : y.cls ≠ "java/lang/invoke/MethodHandle" ∧ y.cls ≠ "java/lang/invoke/VarHandle") {As : List Value} (hlen : (parseMethodDescriptor y.desc).map (fun d => d.parameters.length) = some As.length) (hdg : decode cc pc = .ok (.invokevirtual index, 3))
    (k : vx_NoteN p l e R s m args below meth c H locs cells slots Q (F0 m pc ls rest)) {st0 : List Value} (hst : st0 = As.reverse ++ .null :: rest) : W p l e R s m args below meth c H locs cells slots Q (F0 m pc ls st0) := by
  intro T hT X
  obtain ⟨r0, r, hn, hrm, hstR, hsigR⟩ := va_Decl.of hinst hcode
  obtain ⟨c2, r2, m2, q1, q2, q3, q4, kP, hkP, hkPi⟩ := Cond.selects_spec hsel
  cases hn.symm.trans q3
  have hl9 : As.length = r.sig.parameters.length := by
    rw [hsigR] at hlen
    exact (Option.some.inj hlen).symm
  obtain ⟨vm', X1, st1⟩ := X.invokevirtualNull hexec hown hlink hn hrm hstR hkP hkPi hx (g := F0 m pc ls st0) rfl (argsL := As) (rest := rest) hl9 hst (by rw [hb]; exact hdg)
  obtain ⟨t, st, q⟩ := k (T.setVm vm') hT X1
  exact ⟨t, st1 t st, q⟩
theorem vx_newarrayZ {atype : ArrayType} (hexec : p.tables.exec = Jvm.exec) (hb : c.code = cc) {n : Int32} (h0 : n < 0) (hdg : decode cc pc = .ok (.newarray atype, 2)) (k : ∀ tx : String, tx = toString n → vx_Note p l e R s m args below meth c H locs cells slots Q (F0 m pc ls rest) "java/lang/NegativeArraySizeException" tx) : W p l e R s m args below meth c H locs cells slots Q (F0 m pc ls (.int n :: rest)) := by
  intro T hT X
  obtain ⟨t, st, q⟩ := k _ rfl T hT X
  exact ⟨t, X.newarrayNegative hexec (g := F0 m pc ls (.int n :: rest)) rfl h0 (rest := rest) rfl (by rw [hb]; exact hdg) t st, q⟩
end
end VXM
/-! ===== END ===== -/
/-! ===== BEGIN an exception as an object: made, kept, thrown later (no traces kept) ===== -/
section VXK
variable {p : Program} {l : Launch} {e : Env} {R : Room} {s : State} {m₀ : MethodId} {args : Array Value} {below : List Frame} {meth : Method} {c : Code} {W : State} {locs : List Loc} {cells slots : Nat}
set_option maxHeartbeats 1000000 in
theorem vx_ctorMadeS (X : Stand p l e R s m₀ args below meth c W locs cells slots) (hexec : p.tables.exec = Jvm.exec) (htr : e.platform.stackTraces = false) {own cls : String} {names : List String} {ic : Nat}
    (hown : s.vm.findClass own = some m₀.cls) (hcls : Bundle.fit cls = true) (hnames : ∀ n ∈ names, Bundle.fit n = true)
    (h : ∀ a ∈ Bundle.ownAtoms own ic cls names, a.before args s = true)
    (hlocs : ∀ x ∈ locs, ∀ cell, s.heap[x.base]? = some cell → cell.vm.isStatics = false)
    {a : Addr} {cX : ClassId} {kX : Class} (hfoundX : s.vm.findClass cls = some cX) (hkX : s.vm.classes[cX]? = some kX) (hcell : W.heap[a]? = some (freshCell cX kX)) (hnew : s.heap.size ≤ a)
    {msg : Value} (hmsg : msg.isRef = true)
    {g : JFrame} (hg : g.method = m₀) (hsize : g.locals.size = c.maxLocals) {rest : List Value} (hstack : g.stack = msg :: .ref a :: .ref a :: rest)
    (hd6 : decode c.code g.pc = .ok (.invokespecial ic, 3))
    (hRframes : names.length + 3 < R.frames) (hRlocals : 2 * g.monitorRoom + ((Value.ref a :: rest).map fun v => v.category).sum + (13 * (names.length + 1) + 42) ≤ R.locals) :
    ∃ (V : State) (ce : Cell) (L : List Loc), Stand p l e R s m₀ args below meth c (V.setCell a ce) (locs ++ L) cells slots ∧ (∀ y ∈ L, y.base = a) ∧ a < V.heap.size ∧ ce.cls = cX ∧ ce.vm = .none ∧
      ∀ target, Steps p.tables e below ((V.setCell a ce).setTop { g with stack := .ref a :: rest, pc := g.pc + 3 }) target → Steps p.tables e below (W.setTop g) target := by
  have howns : e.platform.frameOwnsMonitors = true := by rw [X.admits.platform]
  have hfin : e.platform.finalization = false := by rw [X.admits.platform]
  have hpl : e.platform.magicAccessors = ({} : Platform).magicAccessors := by rw [X.admits.platform]
  have a' : ∀ x, x ∈ Bundle.ownAtoms own ic cls names → x.holds args s none s [] = true := fun x hx => h x hx
  obtain ⟨T, Z0, L, -, Y⟩ := ThrowableC.of_atoms (args := args) howns hfin hpl (fun x hx => h x (by simp [Bundle.ownAtoms, hx]))
  obtain ⟨Z, M, LZ, LM, hnZ⟩ := Init0T.ofS_atoms (args := args) hpl L Y (fun x hx => h x (by simp [Bundle.ownAtoms, hx]))
  obtain ⟨P1, Ps, hlen, L1, hL, hP1m, hlink1, hlink⟩ := Bundle.chainS (args := args) hpl hnZ names cls hcls hnames (fun x hx => h x (by simp [Bundle.ownAtoms, hx]))
  have hfound : s.vm.findClass cls = some P1.m.cls := findClass_of_methodNamed hP1m
  cases Option.some.inj (hfoundX.symm.trans hfound)
  obtain ⟨c1, kX', hc1, hk, hord, -, -, hn6⟩ := Cond.instantiable_spec (a' (.instantiable cls 6) (by simp [Bundle.ownAtoms]))
  cases Option.some.inj (hc1.symm.trans hfound)
  cases Option.some.inj (hkX.symm.trans hk)
  have hsel0 : selectMethod e.platform s.vm P1.m.cls T.fill0 = .method T.fill0 := by
    obtain ⟨c2, r2, m2, q1, q2, q3, q4, -⟩ := Cond.selects_spec (a' (.selects cls Bundle.tFill0 Bundle.tFill0) (by simp [Bundle.ownAtoms]))
    cases Option.some.inj (q1.symm.trans hfound)
    cases Option.some.inj (q2.symm.trans (State.methodFound?_of_named Y.fill0 (by decide)))
    cases Option.some.inj (q3.symm.trans Y.fill0)
    rw [Launch.admits_selectMethod X.admits]; exact q4
  have hselF : selectMethod e.platform s.vm P1.m.cls T.fill = .method T.fill := by
    obtain ⟨c2, r2, m2, q1, q2, q3, q4, -⟩ := Cond.selects_spec (a' (.selects cls Bundle.tFill Bundle.tFill) (by simp [Bundle.ownAtoms]))
    cases Option.some.inj (q1.symm.trans hfound)
    cases Option.some.inj (q2.symm.trans (State.methodFound?_of_named Y.fill (by decide)))
    cases Option.some.inj (q3.symm.trans Y.fill)
    rw [Launch.admits_selectMethod X.admits]; exact q4
  obtain ⟨cellS0, hcS0, hiss⟩ := Y.statics
  obtain ⟨u0, hu0⟩ := Cond.staticRefV Y.unassigned L.unassignedStatic L.statics hcS0 hiss (a' (.isRef (.static Bundle.tN "UNASSIGNED_STACK" Bundle.steD)) (by simp [Bundle.ownAtoms]))
  obtain ⟨sen, hsen⟩ := Cond.staticRefV Y.sentinel L.sentinelStatic L.statics hcS0 hiss (a' (.isRef (.static Bundle.tN "SUPPRESSED_SENTINEL" Bundle.listD)) (by simp [Bundle.ownAtoms]))
  obtain ⟨ci198, i198, fB, hk198, hg198, ha198, hsB, -, hnB, htB, hffB⟩ := Cond.ownField (t := .object "java/lang/Object") Y.found L.cls (by decide +kernel) (a' (.fieldLink Bundle.tN 198 Bundle.tN "backtrace" "Ljava/lang/Object;") (by simp [Bundle.ownAtoms])) (a' (.lays Bundle.tN Bundle.tN "backtrace" "Ljava/lang/Object;") (by simp [Bundle.ownAtoms])) e.platform hpl
  obtain ⟨cellS, hcS', heS, -, hkeep⟩ := X.same.2.2.2.2.2 T.aS cellS0 hcS0
  have hcellS : W.heap[T.aS]? = some cellS := hcS'
  have hout' : ∀ i, (⟨T.aS, i⟩ : Loc) ∉ locs := fun i hmem => by
    have := hlocs _ hmem cellS0 hcS0
    rw [hiss] at this; cases this
  have hknownS : cellS.vm ≠ .unknown := by
    rw [heS]; intro hu
    rw [show cellS0.vm = .unknown from hu] at hiss
    cases hiss
  have hneS : T.aS ≠ a := Nat.ne_of_lt (Nat.lt_of_lt_of_le (Array.getElem?_eq_some_iff.mp hcS0).1 hnew)
  obtain ⟨iM, hffM⟩ := Y.msg
  obtain ⟨tyC, dC, hdC, hdnC⟩ := Cond.laysAt hfound hk Y.cause (a' (.lays cls Bundle.tN "cause" "Ljava/lang/Throwable;") (by simp [Bundle.ownAtoms]))
  obtain ⟨tyS, dS, hdS, hdnS⟩ := Cond.laysAt hfound hk Y.stack (a' (.lays cls Bundle.tN "stackTrace" Bundle.steD) (by simp [Bundle.ownAtoms]))
  obtain ⟨tyP, dP, hdP, hdnP⟩ := Cond.laysAt hfound hk Y.supp (a' (.lays cls Bundle.tN "suppressedExceptions" Bundle.listD) (by simp [Bundle.ownAtoms]))
  obtain ⟨tyM, dM, hdM, hdnM⟩ := Cond.laysAt hfound hk hffM (a' (.lays cls Bundle.tN "detailMessage" "Ljava/lang/String;") (by simp [Bundle.ownAtoms]))
  obtain ⟨tyB, dB, hdB, hdnB⟩ := Cond.laysAt hfound hk hffB (a' (.lays cls Bundle.tN "backtrace" "Ljava/lang/Object;") (by simp [Bundle.ownAtoms]))
  have bC := Cond.laysApart hdB hdC hdnB hdnC (by rw [hnB, Y.causeName]; decide)
  have bS := Cond.laysApart hdB hdS hdnB hdnS (by rw [hnB, Y.stackName]; decide)
  have bP := Cond.laysApart hdB hdP hdnB hdnP (by rw [hnB, Y.suppName]; decide)
  have hskip : SkipFacts T e.platform s (fun u => u) u0 ((preparedCellV T.toThrowableT (freshCell P1.m.cls kX) a u0 sen).withEntry W.cur) :=
    ⟨{ ci198 := ci198, i198 := i198, fBack := fB }, ⟨hk198, hg198, ha198, hsB⟩, by
      have := fresh_default (c := P1.m.cls) tyB
      rw [htB] at this
      simpa [preparedCellV, Cell.setSlot, Cell.withEntry, Array.getElem?_setIfInBounds, bC, bS, bP, bC.symm, bS.symm, bP.symm, defaultValue] using this, fun _ _ => rfl⟩
  obtain ⟨tm, methC, cdC, kC, vm₁, hnC, -, -, -, -, -, -, -, hW₁, st1⟩ := Steps.initColdS (tb := p.tables) (e := e) (below := below) (s := s) (U := W) X.here hexec X.warmed hpl hown (t := Bundle.initS cls) rfl rfl (Bundle.fit_spec hcls).2
    (a' (.methodLink own ic (Bundle.initS cls)) (by simp [Bundle.ownAtoms])) (h (.instanceMethod (Bundle.initS cls)) (by cases names <;> simp [Bundle.ownAtoms, Bundle.chainSAtoms, Bundle.passSAtoms])) (bytes := Bundle.six) (maxL := 2) (h (.code (Bundle.initS cls) Bundle.six 2 none) (by cases names <;> simp [Bundle.ownAtoms, Bundle.chainSAtoms, Bundle.passSAtoms]))
    (f := g) hg (a := a) (msg := msg) (rest := .ref a :: rest) hstack hd6
  cases Option.some.inj (hnC.symm.trans hP1m)
  have X₁ := X.noted hW₁
  obtain ⟨vm₂, X₂, st2⟩ := X₁.ctorMessageOffV hexec (g := { g with stack := .ref a :: rest }) hg hsize T L Z LZ M LM (P1 :: Ps)
    (fun P hP => by rcases List.mem_cons.mp hP with rfl | hP; exact L1; exact hL P hP) ⟨hlink1, hlink⟩ (u0 := u0) (sen := sen) (self := a) hmsg (cell := freshCell P1.m.cls kX) (cellS := cellS)
    hcell (fun _ => by simp) (by simp) rfl rfl hsel0 hselF hcellS hneS hknownS (by rw [hkeep _ (hout' _)]; exact hu0) (by rw [hkeep _ (hout' _)]; exact hsen)
    (Takes.of_laid hk hord tyC (by rw [Y.causeType]; rfl)) (Takes.of_laid hk hord tyS (by rw [Y.stackType]; exact fits_refV_array _ u0)) (Takes.of_laid hk hord tyP (by rw [Y.suppType]; exact fits_refV_object _ sen))
    (Takes.of_laid hk hord tyM (by rw [Y.msgType]; exact fits_refV_object _ ⟨msg, hmsg⟩)) Y.objLocals hskip htr [] hd6
    (by simp only [List.length_cons, hlen]; omega) (by simp only [List.length_cons, hlen]; exact hRlocals)
  have hlt : a < ((W.setVm vm₁).setVm vm₂).heap.size := (Array.getElem?_eq_some_iff.mp hcell).1
  refine ⟨(W.setVm vm₁).setVm vm₂, _, _, X₂, fun y hy => ?_, hlt, rfl, rfl, fun target hwalk => st1 _ (fun acts => ?_)⟩
  · simp only [List.mem_cons, List.not_mem_nil, or_false] at hy
    rcases hy with rfl | rfl | rfl | rfl | rfl <;> rfl
  · rw [doInvoke_state]
    exact st2 _ hwalk
set_option maxHeartbeats 1000000 in
theorem vx_ctorMade0 (X : Stand p l e R s m₀ args below meth c W locs cells slots) (hexec : p.tables.exec = Jvm.exec) (htr : e.platform.stackTraces = false) {own cls : String} {names : List String} {ic : Nat}
    (hown : s.vm.findClass own = some m₀.cls) (hcls : Bundle.fit cls = true) (hnames : ∀ n ∈ names, Bundle.fit n = true)
    (h : ∀ a ∈ Bundle.ownAtoms0 own ic cls names, a.before args s = true)
    (hlocs : ∀ x ∈ locs, ∀ cell, s.heap[x.base]? = some cell → cell.vm.isStatics = false)
    {a : Addr} {cX : ClassId} {kX : Class} (hfoundX : s.vm.findClass cls = some cX) (hkX : s.vm.classes[cX]? = some kX) (hcell : W.heap[a]? = some (freshCell cX kX)) (hnew : s.heap.size ≤ a)
    {g : JFrame} (hg : g.method = m₀) (hsize : g.locals.size = c.maxLocals) {rest : List Value} (hstack : g.stack = .ref a :: .ref a :: rest)
    (hd6 : decode c.code g.pc = .ok (.invokespecial ic, 3))
    (hRframes : names.length + 3 < R.frames) (hRlocals : 2 * g.monitorRoom + ((Value.ref a :: rest).map fun v => v.category).sum + (13 * (names.length + 1) + 41) ≤ R.locals) :
    ∃ (V : State) (ce : Cell) (L : List Loc), Stand p l e R s m₀ args below meth c (V.setCell a ce) (locs ++ L) cells slots ∧ (∀ y ∈ L, y.base = a) ∧ a < V.heap.size ∧ ce.cls = cX ∧ ce.vm = .none ∧
      ∀ target, Steps p.tables e below ((V.setCell a ce).setTop { g with stack := .ref a :: rest, pc := g.pc + 3 }) target → Steps p.tables e below (W.setTop g) target := by
  have howns : e.platform.frameOwnsMonitors = true := by rw [X.admits.platform]
  have hfin : e.platform.finalization = false := by rw [X.admits.platform]
  have hpl : e.platform.magicAccessors = ({} : Platform).magicAccessors := by rw [X.admits.platform]
  have a' : ∀ x, x ∈ Bundle.ownAtoms0 own ic cls names → x.holds args s none s [] = true := fun x hx => h x hx
  obtain ⟨T, Z, L, LZ, Y⟩ := ThrowableC.of_atoms (args := args) howns hfin hpl (fun x hx => h x (by simp [Bundle.ownAtoms0, hx]))
  obtain ⟨P1, Ps, hlen, L1, hL, hP1m, hlink1, hlink⟩ := Bundle.chain0 (args := args) hpl Y.init0 names cls hcls hnames (fun x hx => h x (by simp [Bundle.ownAtoms0, hx]))
  have hfound : s.vm.findClass cls = some P1.m.cls := findClass_of_methodNamed hP1m
  cases Option.some.inj (hfoundX.symm.trans hfound)
  obtain ⟨c1, kX', hc1, hk, hord, -, -, hn6⟩ := Cond.instantiable_spec (a' (.instantiable cls 6) (by simp [Bundle.ownAtoms0]))
  cases Option.some.inj (hc1.symm.trans hfound)
  cases Option.some.inj (hkX.symm.trans hk)
  have hsel0 : selectMethod e.platform s.vm P1.m.cls T.fill0 = .method T.fill0 := by
    obtain ⟨c2, r2, m2, q1, q2, q3, q4, -⟩ := Cond.selects_spec (a' (.selects cls Bundle.tFill0 Bundle.tFill0) (by simp [Bundle.ownAtoms0]))
    cases Option.some.inj (q1.symm.trans hfound)
    cases Option.some.inj (q2.symm.trans (State.methodFound?_of_named Y.fill0 (by decide)))
    cases Option.some.inj (q3.symm.trans Y.fill0)
    rw [Launch.admits_selectMethod X.admits]; exact q4
  have hselF : selectMethod e.platform s.vm P1.m.cls T.fill = .method T.fill := by
    obtain ⟨c2, r2, m2, q1, q2, q3, q4, -⟩ := Cond.selects_spec (a' (.selects cls Bundle.tFill Bundle.tFill) (by simp [Bundle.ownAtoms0]))
    cases Option.some.inj (q1.symm.trans hfound)
    cases Option.some.inj (q2.symm.trans (State.methodFound?_of_named Y.fill (by decide)))
    cases Option.some.inj (q3.symm.trans Y.fill)
    rw [Launch.admits_selectMethod X.admits]; exact q4
  obtain ⟨cellS0, hcS0, hiss⟩ := Y.statics
  obtain ⟨u0, hu0⟩ := Cond.staticRefV Y.unassigned L.unassignedStatic L.statics hcS0 hiss (a' (.isRef (.static Bundle.tN "UNASSIGNED_STACK" Bundle.steD)) (by simp [Bundle.ownAtoms0]))
  obtain ⟨sen, hsen⟩ := Cond.staticRefV Y.sentinel L.sentinelStatic L.statics hcS0 hiss (a' (.isRef (.static Bundle.tN "SUPPRESSED_SENTINEL" Bundle.listD)) (by simp [Bundle.ownAtoms0]))
  obtain ⟨ci198, i198, fB, hk198, hg198, ha198, hsB, -, hnB, htB, hffB⟩ := Cond.ownField (t := .object "java/lang/Object") Y.found L.cls (by decide +kernel) (a' (.fieldLink Bundle.tN 198 Bundle.tN "backtrace" "Ljava/lang/Object;") (by simp [Bundle.ownAtoms0])) (a' (.lays Bundle.tN Bundle.tN "backtrace" "Ljava/lang/Object;") (by simp [Bundle.ownAtoms0])) e.platform hpl
  obtain ⟨cellS, hcS', heS, -, hkeep⟩ := X.same.2.2.2.2.2 T.aS cellS0 hcS0
  have hcellS : W.heap[T.aS]? = some cellS := hcS'
  have hout' : ∀ i, (⟨T.aS, i⟩ : Loc) ∉ locs := fun i hmem => by
    have := hlocs _ hmem cellS0 hcS0
    rw [hiss] at this; cases this
  have hknownS : cellS.vm ≠ .unknown := by
    rw [heS]; intro hu
    rw [show cellS0.vm = .unknown from hu] at hiss
    cases hiss
  have hneS : T.aS ≠ a := Nat.ne_of_lt (Nat.lt_of_lt_of_le (Array.getElem?_eq_some_iff.mp hcS0).1 hnew)
  obtain ⟨iM, hffM⟩ := Y.msg
  obtain ⟨tyC, dC, hdC, hdnC⟩ := Cond.laysAt hfound hk Y.cause (a' (.lays cls Bundle.tN "cause" "Ljava/lang/Throwable;") (by simp [Bundle.ownAtoms0]))
  obtain ⟨tyS, dS, hdS, hdnS⟩ := Cond.laysAt hfound hk Y.stack (a' (.lays cls Bundle.tN "stackTrace" Bundle.steD) (by simp [Bundle.ownAtoms0]))
  obtain ⟨tyP, dP, hdP, hdnP⟩ := Cond.laysAt hfound hk Y.supp (a' (.lays cls Bundle.tN "suppressedExceptions" Bundle.listD) (by simp [Bundle.ownAtoms0]))
  obtain ⟨tyM, dM, hdM, hdnM⟩ := Cond.laysAt hfound hk hffM (a' (.lays cls Bundle.tN "detailMessage" "Ljava/lang/String;") (by simp [Bundle.ownAtoms0]))
  obtain ⟨tyB, dB, hdB, hdnB⟩ := Cond.laysAt hfound hk hffB (a' (.lays cls Bundle.tN "backtrace" "Ljava/lang/Object;") (by simp [Bundle.ownAtoms0]))
  have bC := Cond.laysApart hdB hdC hdnB hdnC (by rw [hnB, Y.causeName]; decide)
  have bS := Cond.laysApart hdB hdS hdnB hdnS (by rw [hnB, Y.stackName]; decide)
  have bP := Cond.laysApart hdB hdP hdnB hdnP (by rw [hnB, Y.suppName]; decide)
  have hskip : SkipFacts T e.platform s (fun u => u) u0 ((preparedCellV T.toThrowableT (freshCell P1.m.cls kX) a u0 sen).withEntry W.cur) :=
    ⟨{ ci198 := ci198, i198 := i198, fBack := fB }, ⟨hk198, hg198, ha198, hsB⟩, by
      have := fresh_default (c := P1.m.cls) tyB
      rw [htB] at this
      simpa [preparedCellV, Cell.setSlot, Cell.withEntry, Array.getElem?_setIfInBounds, bC, bS, bP, bC.symm, bS.symm, bP.symm, defaultValue] using this, fun _ _ => rfl⟩
  obtain ⟨tm, methC, cdC, kC, vm₁, hnC, -, -, -, -, -, -, -, hW₁, st1⟩ := Steps.initCold (tb := p.tables) (e := e) (below := below) (s := s) (U := W) X.here hexec X.warmed hpl hown (t := Bundle.init0 cls) rfl rfl (Bundle.fit_spec hcls).2
    (a' (.methodLink own ic (Bundle.init0 cls)) (by simp [Bundle.ownAtoms0])) (h (.instanceMethod (Bundle.init0 cls)) (by cases names <;> simp [Bundle.ownAtoms0, Bundle.chain0Atoms, Bundle.passAtoms])) (bytes := Bundle.five) (maxL := 1) (h (.code (Bundle.init0 cls) Bundle.five 1 none) (by cases names <;> simp [Bundle.ownAtoms0, Bundle.chain0Atoms, Bundle.passAtoms]))
    (f := g) hg (a := a) (rest := .ref a :: rest) hstack hd6
  cases Option.some.inj (hnC.symm.trans hP1m)
  have X₁ := X.noted hW₁
  obtain ⟨vm₂, X₂, st2⟩ := X₁.ctorPlainOffV hexec (g := { g with stack := .ref a :: rest }) hg hsize T L Z LZ (P1 :: Ps)
    (fun P hP => by rcases List.mem_cons.mp hP with rfl | hP; exact L1; exact hL P hP) ⟨hlink1, hlink⟩ (u0 := u0) (sen := sen) (self := a) (cell := freshCell P1.m.cls kX) (cellS := cellS)
    hcell (fun _ => by simp) (by simp) rfl rfl hsel0 hselF hcellS hneS hknownS (by rw [hkeep _ (hout' _)]; exact hu0) (by rw [hkeep _ (hout' _)]; exact hsen)
    (Takes.of_laid hk hord tyC (by rw [Y.causeType]; rfl)) (Takes.of_laid hk hord tyS (by rw [Y.stackType]; exact fits_refV_array _ u0)) (Takes.of_laid hk hord tyP (by rw [Y.suppType]; exact fits_refV_object _ sen)) Y.objLocals hskip htr [] hd6
    (by simp only [List.length_cons, hlen]; omega) (by simp only [List.length_cons, hlen]; exact hRlocals)
  have hlt : a < ((W.setVm vm₁).setVm vm₂).heap.size := (Array.getElem?_eq_some_iff.mp hcell).1
  refine ⟨(W.setVm vm₁).setVm vm₂, _, _, X₂, fun y hy => ?_, hlt, rfl, rfl, fun target hwalk => st1 _ (fun acts => ?_)⟩
  · simp only [List.mem_cons, List.not_mem_nil, or_false] at hy
    rcases hy with rfl | rfl | rfl | rfl <;> rfl
  · rw [doInvoke_state]
    exact st2 _ hwalk
end VXK
section VXK2
variable {p : Program} {l : Launch} {e : Env} {R : Room} {s : State} {m : MethodId} {args : Array Value} {below : List Frame} {meth : Method} {c : Code} {H : Heap} {locs : List Loc} {cells slots : Nat} {Q : State → Prop}
variable {ls : Array Slot} {rest : List Value} {D : va_G} {cl : List vw_C} {tys : List (ClassId × FieldType)} {ws : va_W}
/-- 'new E("text")' that isn't thrown at once: the object goes on the stack -/
theorem vx_makeS {cc : ByteArray} {pc : Nat} (hexec : p.tables.exec = Jvm.exec) (hb : c.code = cc) (hl : l.stackTraces = false) {own cls text : String} {names : List String} {ik is ic sa ci : Nat} {A : Nat → Prop} {T0 : u_T}
    (hown : s.vm.findClass own = some m.cls) (hcls : Bundle.fit cls = true) (hnames : ∀ n ∈ names, Bundle.fit n = true)
    (hk : (Cond.classLink own ik cls).before args s = true) (hini : (Cond.initialized cls).before args s = true) (hstr : vk_R own is text sa s) (hat : ∀ w ∈ vx_atS own ic cls names, w.before args s = true)
    (hgood : ∀ w ∈ Cond.classLink own ik cls :: Cond.initialized cls :: vx_atS own ic cls names, vx_ot w = true)
    (hU : vx_Zq Bundle.tN "UNASSIGNED_STACK" Bundle.steD A s s.heap) (hN : vx_Zq Bundle.tN "SUPPRESSED_SENTINEL" Bundle.listD A s s.heap) (hS : va_S A s.heap H locs) (hsize : ls.size = c.maxLocals)
    (d0 : decode cc pc = .ok (.new ik, 3)) (d3 : decode cc (pc + 3) = .ok (.dup, 1)) (d4 : decode cc (pc + 4) = .ok (.ldc is, 2)) (d6 : decode cc (pc + 6) = .ok (.invokespecial ic, 3))
    (hK : va_K D cl tys s) (hP : va_P D cl ws H) (hD : va_D A ws) (hA : ∀ q, s.heap.size ≤ q → A q) (hc : cl[ci]? = some (cls, T0, 0))
    (hRframes : names.length + 3 < R.frames) (hRlocals : (rest.map fun v => v.category).sum + (13 * (names.length + 1) + 43) ≤ R.locals) (hRcells : cells + 1 ≤ R.cells) (hRslots : slots + 6 ≤ R.slots)
    (kk : ∀ (q : Nat) (H1 : Heap), va_P D cl (ws ++ [(q, .inr (ci, []))]) H1 → va_D A (ws ++ [(q, .inr (ci, []))]) → va_S A s.heap H1 locs → W p l e R s m args below meth c H1 locs (cells + 1) (slots + 6) Q (F0 m (pc + 9) ls (.ref q :: rest))) :
    W p l e R s m args below meth c H locs cells slots Q (F0 m pc ls rest) := by
  intro T hT X
  subst hT
  have htr : e.platform.stackTraces = false := (show e.platform.stackTraces = l.stackTraces by rw [X.admits.platform]).trans hl
  have Y := vx_rebase X (R' := { frames := R.frames, locals := R.locals, cells := 1, slots := 6 }) (Nat.le_refl _) (Nat.le_refl _) hRcells hRslots
  obtain ⟨s', hA'⟩ : ∃ z, z = (T.setVm s.vm).setFrames (.invoking m args :: below) := ⟨_, rfl⟩
  rw [← hA'] at Y
  have hvm : s'.vm = s.vm := by rw [hA']; rfl
  have hhp : s'.heap = T.heap := by rw [hA']; rfl
  have hW0 : s.WarmedH s'.vm := by rw [hvm]; exact State.WarmedH.refl s
  have hat' : ∀ w ∈ vx_atS own ic cls names, w.before args s' = true := fun w hw => vx_ot_at hW0 hvm.symm (hgood w (List.mem_cons_of_mem _ (List.mem_cons_of_mem _ hw))) (hat w hw)
  have hk' : (Cond.classLink own ik cls).before args s' = true := vx_ot_at hW0 hvm.symm (hgood _ List.mem_cons_self) hk
  have hini' : (Cond.initialized cls).before args s' = true := vx_ot_at hW0 hvm.symm (hgood _ (List.mem_cons_of_mem _ List.mem_cons_self)) hini
  have hU' : vx_Zq Bundle.tN "UNASSIGNED_STACK" Bundle.steD A s' s'.heap := by rw [hhp]; exact vx_Zq.moved hW0.alike (hU.kept hS.2.1)
  have hN' : vx_Zq Bundle.tN "SUPPRESSED_SENTINEL" Bundle.listD A s' s'.heap := by rw [hhp]; exact vx_Zq.moved hW0.alike (hN.kept hS.2.1)
  have h : ∀ w ∈ Bundle.ownAtoms own ic cls names, w.before args s' = true := vx_own hat' (vx_isRefq hU'.1) (vx_isRefq hN'.1) hU'.2.word hN'.2.word
  have hown' : s'.vm.findClass own = some m.cls := by rw [hvm]; exact hown
  have hins : (Cond.instantiable cls 6).before args s' = true := h _ (by simp [Bundle.ownAtoms])
  obtain ⟨vm₁, cX, kX, hfX, hkX, -, -, X₁, st1⟩ := Y.newCold hexec (own := own) (C := cls) (index := ik) (n := 6) hown' hk' hins hini'
    (g := F0 m pc ls rest) rfl (by rw [hb]; exact d0) (Nat.le_refl _) (Nat.le_refl _)
  generalize hT1 : (T.setVm vm₁).pushCell { cls := cX, slots := kX.instanceTypes.map defaultValue, vm := .none } = T1 at X₁ st1
  have hcat : (Value.ref T.heap.size).category = 1 := rfl
  have hcellA : T1.heap[T.heap.size]? = some (freshCell cX kX) := by rw [← hT1]; exact State.heap_pushCell_size _ _
  have d3' : decode c.code (pc + 3) = .ok (.dup, 1) := by rw [hb]; exact d3
  have d4' : decode c.code (pc + 4) = .ok (.ldc is, 2) := by rw [hb]; exact d4
  have hstr' : vk_R own is text sa s' := vk_R.warm hW0 hstr
  obtain ⟨V, ce, L, Z, hL, hlt, hcl9, hvm9, st⟩ := vx_ctorMadeS X₁ hexec htr (own := own) (cls := cls) (names := names) (ic := ic) hown' hcls hnames h (fun x hx => nomatch hx) hfX hkX hcellA (by rw [hhp]; exact Nat.le_refl _) (msg := .ref sa) rfl
    (g := { method := m, pc := pc + 6, locals := ls, stack := .ref sa :: .ref T.heap.size :: .ref T.heap.size :: rest, locked := none }) rfl hsize (rest := rest) rfl
    (by rw [hb]; exact d6) hRframes (by simp only [List.map_cons, List.sum_cons, hcat]; omega)
  have Z0 := Stand.forget (locs := []) Z (fun y hy => by rw [hL y hy, hhp]; exact Nat.le_refl _)
  obtain ⟨f1, f2⟩ := vx_frame Z0.same
  rw [hhp] at f1 f2
  have hcid : ce.cls = D.1 ci := by
    rw [hcl9]
    have h1 := (hK.1 ci _ hc).2.1
    rw [hvm] at hfX
    exact Option.some.inj (hfX.symm.trans h1)
  have hh : (V.setCell T.heap.size ce).heap[T.heap.size]? = some ce := heapAt_setCell_self (s := V) ce hlt
  subst hA'
  have X5 := vx_back9 X Y Z0
  have X6 : Stand p l e R s m args below meth c (V.setCell T.heap.size ce) locs (cells + 1) (slots + 6) := { X5 with same := X5.same.mono (by omega) (by omega) }
  have hk9 : ∀ (k : Nat) (x : Nat × va_E), ws[k]? = some x → (V.setCell T.heap.size ce).heap[x.1]? = T.heap[x.1]? := fun k x hx => f2 x.1 ((hP k x hx).lt) (fun z hz => nomatch hz)
  obtain ⟨t, a1, b1⟩ := kk T.heap.size (V.setCell T.heap.size ce).heap ((hP.kept hk9).app (fun k x hx => by
      have hz : k < 1 := (List.getElem?_eq_some_iff.mp hx).1
      rw [show k = 0 by omega] at hx
      cases hx
      exact ⟨_, hc, ce, hh, hcid, hvm9, fun k hk => absurd hk (Nat.not_lt_zero k)⟩)) (hD.push hP rfl (hA _ hS.1)) ⟨Nat.le_trans hS.1 f1, fun q h1 h2 => (f2 q (Nat.lt_of_lt_of_le h1 hS.1) (fun z hz => nomatch hz)).trans (hS.2.1 q h1 h2), hS.2.2⟩ _ rfl X6
  refine ⟨t, st1 _ ?_, b1⟩
  show Steps p.tables e below (T1.setTop { method := m, pc := pc + 3, locals := ls, stack := .ref T.heap.size :: rest, locked := none }) _
  jvm_step X₁.here [X₁.here.top, hexec, d3', Value.category]
  exact X₁.ldcString hexec (own := own) (text := text) (index := is) (a := sa) hown' hstr'.1 hstr'.2
    (g := { method := m, pc := pc + 4, locals := ls, stack := .ref T.heap.size :: .ref T.heap.size :: rest, locked := none }) rfl d4' _ (st _ a1)
/-- 'new E()' that isn't thrown at once: the object goes on the stack -/
theorem vx_make0 {cc : ByteArray} {pc : Nat} (hexec : p.tables.exec = Jvm.exec) (hb : c.code = cc) (hl : l.stackTraces = false) {own cls : String} {names : List String} {ik ic ci : Nat} {A : Nat → Prop} {T0 : u_T}
    (hown : s.vm.findClass own = some m.cls) (hcls : Bundle.fit cls = true) (hnames : ∀ n ∈ names, Bundle.fit n = true)
    (hk : (Cond.classLink own ik cls).before args s = true) (hini : (Cond.initialized cls).before args s = true) (hat : ∀ w ∈ vx_at0 own ic cls names, w.before args s = true)
    (hgood : ∀ w ∈ Cond.classLink own ik cls :: Cond.initialized cls :: vx_at0 own ic cls names, vx_ot w = true)
    (hU : vx_Zq Bundle.tN "UNASSIGNED_STACK" Bundle.steD A s s.heap) (hN : vx_Zq Bundle.tN "SUPPRESSED_SENTINEL" Bundle.listD A s s.heap) (hS : va_S A s.heap H locs) (hsize : ls.size = c.maxLocals)
    (d0 : decode cc pc = .ok (.new ik, 3)) (d3 : decode cc (pc + 3) = .ok (.dup, 1)) (d4 : decode cc (pc + 4) = .ok (.invokespecial ic, 3))
    (hK : va_K D cl tys s) (hP : va_P D cl ws H) (hD : va_D A ws) (hA : ∀ q, s.heap.size ≤ q → A q) (hc : cl[ci]? = some (cls, T0, 0))
    (hRframes : names.length + 3 < R.frames) (hRlocals : (rest.map fun v => v.category).sum + (13 * (names.length + 1) + 42) ≤ R.locals) (hRcells : cells + 1 ≤ R.cells) (hRslots : slots + 6 ≤ R.slots)
    (kk : ∀ (q : Nat) (H1 : Heap), va_P D cl (ws ++ [(q, .inr (ci, []))]) H1 → va_D A (ws ++ [(q, .inr (ci, []))]) → va_S A s.heap H1 locs → W p l e R s m args below meth c H1 locs (cells + 1) (slots + 6) Q (F0 m (pc + 7) ls (.ref q :: rest))) :
    W p l e R s m args below meth c H locs cells slots Q (F0 m pc ls rest) := by
  intro T hT X
  subst hT
  have htr : e.platform.stackTraces = false := (show e.platform.stackTraces = l.stackTraces by rw [X.admits.platform]).trans hl
  have Y := vx_rebase X (R' := { frames := R.frames, locals := R.locals, cells := 1, slots := 6 }) (Nat.le_refl _) (Nat.le_refl _) hRcells hRslots
  obtain ⟨s', hA'⟩ : ∃ z, z = (T.setVm s.vm).setFrames (.invoking m args :: below) := ⟨_, rfl⟩
  rw [← hA'] at Y
  have hvm : s'.vm = s.vm := by rw [hA']; rfl
  have hhp : s'.heap = T.heap := by rw [hA']; rfl
  have hW0 : s.WarmedH s'.vm := by rw [hvm]; exact State.WarmedH.refl s
  have hat' : ∀ w ∈ vx_at0 own ic cls names, w.before args s' = true := fun w hw => vx_ot_at hW0 hvm.symm (hgood w (List.mem_cons_of_mem _ (List.mem_cons_of_mem _ hw))) (hat w hw)
  have hk' : (Cond.classLink own ik cls).before args s' = true := vx_ot_at hW0 hvm.symm (hgood _ List.mem_cons_self) hk
  have hini' : (Cond.initialized cls).before args s' = true := vx_ot_at hW0 hvm.symm (hgood _ (List.mem_cons_of_mem _ List.mem_cons_self)) hini
  have hU' : vx_Zq Bundle.tN "UNASSIGNED_STACK" Bundle.steD A s' s'.heap := by rw [hhp]; exact vx_Zq.moved hW0.alike (hU.kept hS.2.1)
  have hN' : vx_Zq Bundle.tN "SUPPRESSED_SENTINEL" Bundle.listD A s' s'.heap := by rw [hhp]; exact vx_Zq.moved hW0.alike (hN.kept hS.2.1)
  have h : ∀ w ∈ Bundle.ownAtoms0 own ic cls names, w.before args s' = true := vx_own hat' (vx_isRefq hU'.1) (vx_isRefq hN'.1) hU'.2.word hN'.2.word
  have hown' : s'.vm.findClass own = some m.cls := by rw [hvm]; exact hown
  have hins : (Cond.instantiable cls 6).before args s' = true := h _ (by simp [Bundle.ownAtoms0])
  obtain ⟨vm₁, cX, kX, hfX, hkX, -, -, X₁, st1⟩ := Y.newCold hexec (own := own) (C := cls) (index := ik) (n := 6) hown' hk' hins hini'
    (g := F0 m pc ls rest) rfl (by rw [hb]; exact d0) (Nat.le_refl _) (Nat.le_refl _)
  generalize hT1 : (T.setVm vm₁).pushCell { cls := cX, slots := kX.instanceTypes.map defaultValue, vm := .none } = T1 at X₁ st1
  have hcat : (Value.ref T.heap.size).category = 1 := rfl
  have hcellA : T1.heap[T.heap.size]? = some (freshCell cX kX) := by rw [← hT1]; exact State.heap_pushCell_size _ _
  have d3' : decode c.code (pc + 3) = .ok (.dup, 1) := by rw [hb]; exact d3
  obtain ⟨V, ce, L, Z, hL, hlt, hcl9, hvm9, st⟩ := vx_ctorMade0 X₁ hexec htr (own := own) (cls := cls) (names := names) (ic := ic) hown' hcls hnames h (fun x hx => nomatch hx) hfX hkX hcellA (by rw [hhp]; exact Nat.le_refl _)
    (g := { method := m, pc := pc + 4, locals := ls, stack := .ref T.heap.size :: .ref T.heap.size :: rest, locked := none }) rfl hsize (rest := rest) rfl
    (by rw [hb]; exact d4) hRframes (by simp only [List.map_cons, List.sum_cons, hcat]; omega)
  have Z0 := Stand.forget (locs := []) Z (fun y hy => by rw [hL y hy, hhp]; exact Nat.le_refl _)
  obtain ⟨f1, f2⟩ := vx_frame Z0.same
  rw [hhp] at f1 f2
  have hcid : ce.cls = D.1 ci := by
    rw [hcl9]
    have h1 := (hK.1 ci _ hc).2.1
    rw [hvm] at hfX
    exact Option.some.inj (hfX.symm.trans h1)
  have hh : (V.setCell T.heap.size ce).heap[T.heap.size]? = some ce := heapAt_setCell_self (s := V) ce hlt
  subst hA'
  have X5 := vx_back9 X Y Z0
  have X6 : Stand p l e R s m args below meth c (V.setCell T.heap.size ce) locs (cells + 1) (slots + 6) := { X5 with same := X5.same.mono (by omega) (by omega) }
  have hk9 : ∀ (k : Nat) (x : Nat × va_E), ws[k]? = some x → (V.setCell T.heap.size ce).heap[x.1]? = T.heap[x.1]? := fun k x hx => f2 x.1 ((hP k x hx).lt) (fun z hz => nomatch hz)
  obtain ⟨t, a1, b1⟩ := kk T.heap.size (V.setCell T.heap.size ce).heap ((hP.kept hk9).app (fun k x hx => by
      have hz : k < 1 := (List.getElem?_eq_some_iff.mp hx).1
      rw [show k = 0 by omega] at hx
      cases hx
      exact ⟨_, hc, ce, hh, hcid, hvm9, fun k hk => absurd hk (Nat.not_lt_zero k)⟩)) (hD.push hP rfl (hA _ hS.1)) ⟨Nat.le_trans hS.1 f1, fun q h1 h2 => (f2 q (Nat.lt_of_lt_of_le h1 hS.1) (fun z hz => nomatch hz)).trans (hS.2.1 q h1 h2), hS.2.2⟩ _ rfl X6
  refine ⟨t, st1 _ ?_, b1⟩
  show Steps p.tables e below (T1.setTop { method := m, pc := pc + 3, locals := ls, stack := .ref T.heap.size :: rest, locked := none }) _
  jvm_step X₁.here [X₁.here.top, hexec, d3', Value.category]
  exact st _ a1
/-- 'throw x' of an object that was made before -/
theorem vx_athrow {cc : ByteArray} {pc : Nat} (hexec : p.tables.exec = Jvm.exec) (hb : c.code = cc) {q : Addr} (hdg : decode cc pc = .ok (.athrow, 1)) (k : vx_W p l e R s m args below meth c H locs cells slots Q (F0 m pc ls rest) q) : W p l e R s m args below meth c H locs cells slots Q (F0 m pc ls (.ref q :: rest)) := by
  intro T hT X
  obtain ⟨t, st, hq⟩ := k T hT X
  refine ⟨t, ?_, hq⟩
  have hdg' : decode c.code pc = .ok (.athrow, 1) := by rw [hb]; exact hdg
  jvm_step X.here [X.here.top, hexec, hdg', athrow.wp_sem]
  exact st
end VXK2
/-! ===== END ===== -/
/-! ===== BEGIN a constructor that throws (launches without stack traces) ===== -/
section VXIA
variable {p : Program} {l : Launch} {e : Env} {R : Room} {s : State} {m : MethodId} {args : Array Value} {below : List Frame} {meth : Method} {c : Code} {T : State} {locs : List Loc} {cells slots : Nat}
theorem vx_callI (X : Stand p l e R s m args below meth c T locs cells slots) (hexec : p.tables.exec = Jvm.exec) {own : String} {index : Nat} {y : MethodName} {bytes : ByteArray} {maxL : Nat}
    (hown : s.vm.findClass own = some m.cls) (hy1 : y.name = "<init>") (hlink : (Cond.methodLink own index y).before args s = true) (hinst : (Cond.instanceMethod y).before args s = true)
    (hcode : (Cond.code y bytes maxL none).before args s = true) (hy : y.cls ≠ "java/lang/invoke/MethodHandle" ∧ y.cls ≠ "java/lang/invoke/VarHandle")
    {W9 : Nat} {Pre : Pt → Array Value → Prop} {Post : Pt → Array Value → Option Value → Pt → Prop} {PostX : Pt → Array Value → Addr → Pt → Prop} (hK : vx_Back l R p e below s args y 3 W9 Pre Post PostX)
    {g : JFrame} (hg : g.method = m) (hsize : g.locals.size = c.maxLocals) {a : Addr} {argsL rest : List Value} (hlen : ∀ sig, parseMethodDescriptor y.desc = some sig → argsL.length = sig.parameters.length)
    (hstack : g.stack = argsL.reverse ++ .ref a :: rest) (hW : 2 * g.monitorRoom + (rest.map fun v => v.category).sum ≤ W9) (hdg : decode c.code g.pc = .ok (.invokespecial index, 3))
    (hpre : ∀ vm₁, s.WarmedH vm₁ → Pre ⟨T.setVm vm₁, locs, cells, slots⟩ (Value.ref a :: argsL).toArray) :
    (∃ (v : Option Value) (vm₁ : Vm) (B : Pt), s.WarmedH vm₁ ∧ Stand p l e R s m args below meth c B.U B.locs B.cells B.slots ∧ Post ⟨T.setVm vm₁, locs, cells, slots⟩ (Value.ref a :: argsL).toArray v B ∧
      ∀ target, Steps p.tables e below (B.U.setTop { g with pc := g.pc + 3, stack := v.toList ++ rest }) target → Steps p.tables e below (T.setTop g) target) ∨
    (∃ (q : Addr) (vm₁ : Vm) (B : Pt), s.WarmedH vm₁ ∧ Stand p l e R s m args below meth c B.U B.locs B.cells B.slots ∧ PostX ⟨T.setVm vm₁, locs, cells, slots⟩ (Value.ref a :: argsL).toArray q B ∧
      Steps p.tables e below (T.setTop g) ((B.U.setTop { g with stack := rest }).pushFrame (.throwing q))) := by
  subst hg
  have hpl : e.platform.magicAccessors = ({} : Platform).magicAccessors := by rw [X.admits.platform]
  obtain ⟨mk, methM, cM, kP, vm₁, hnamed, hmethM, hcodeM, -, hlocalsM, -, hkP, -, hW₁, hstep₁⟩ := Steps.initColdArgs (e := e) X.here hexec X.warmed hpl hown hy1 hy hlink hinst hcode (f := g) rfl hlen hstack hdg
  have X₁ := X.noted hW₁
  rcases hK g.method meth c ⟨T.setVm vm₁, locs, cells, slots⟩ { g with stack := rest } (.invokespecial index) mk (Value.ref a :: argsL).toArray X₁ rfl hsize hdg hW (X₁.named hnamed) (hpre vm₁ X₁.warmed) with ⟨v, B, X', hpost, hsteps⟩ | ⟨q, B, X', hpost, hsteps⟩
  · exact Or.inl ⟨v, vm₁, B, X₁.warmed, X', hpost, fun target h => hstep₁ _ fun acts => by rw [doInvoke_state]; exact hsteps.trans h⟩
  · exact Or.inr ⟨q, vm₁, B, X₁.warmed, X', hpost, hstep₁ _ fun acts => by rw [doInvoke_state]; exact hsteps⟩
end VXIA
section VXIB
variable {p : Program} {l : Launch} {e : Env} {R : Room} {s : State} {m : MethodId} {args : Array Value} {below : List Frame} {meth : Method} {c : Code} {H : Heap} {locs : List Loc} {cells slots : Nat}
variable {y : MethodName} {bytes cc : ByteArray} {maxL nL mc ms n index : Nat} {ret : Option FieldType} {ws : List Cond} {rm : Room} {Pc : Array Value → State → Prop} {Qc : Array Value → State → Outcome → State → Prop} {XC : String → State → State → Prop} {free : Addr → Prop} {Ts : List Cond} {own C : String} {b : Addr} {As rest : List Value} {g : JFrame}
theorem vx_runI (S : CallFix p m c cc nL s args Ts own) (hM : vx_Met l y ws rm Pc Qc XC mc ms free) (cw : CallB R s args own index y bytes maxL none ws rm mc ms n ∧ y.name = "<init>" ∧ (Cond.instanceMethod y).before args s = true) (hp : PreS s H Pc (.ref b :: As))
    (hg : g.method = m) (hn : As.length = n) (hsize : g.locals.size = nL) (hstack : g.stack = As.reverse ++ .ref b :: rest) (hW : 2 * g.monitorRoom + (rest.map fun v => v.category).sum ≤ 8) (hdg : decode cc g.pc = .ok (.invokespecial index, 3)) (hf : cells + mc ≤ R.cells ∧ slots + ms ≤ R.slots) :
    vx_Run p l e R s m args below meth c H locs cells slots mc ms g rest (Qc (Value.ref b :: As).toArray) XC free := by
  have hK : vx_Back l R p e below s args y 3 8 (PreOf R mc ms Pc) (PostOf Qc mc ms free) (vx_Post XC mc ms free) := vx_callBack cw.1 hM hp.1
  obtain ⟨⟨-, -, -, -, -, -, hcode, -, hy, hlen, hl⟩, hy1, hin⟩ := cw
  obtain ⟨hx, hb, hml, ho, -⟩ := S
  have hPc := hp.2
  intro T hT X
  rcases vx_callI X hx (bytes := bytes) (maxL := maxL) ho hy1 hl hin hcode hy hK hg (hsize.trans hml.symm) (a := b) (argsL := As) (rest := rest) (fun sig h => hn.trans (hlen sig h)) hstack hW (by rw [hb]; exact hdg)
    (fun vm₁ hW₁ => ⟨hf.1, hf.2, hPc (T.setVm vm₁) hT hW₁⟩) with ⟨v, vm₁, ⟨U', l2, c2, s2⟩, hW₁, X', ⟨g', mk, t, L, e1, e2, hq, h1, hL, h2, h3⟩, st⟩ | ⟨q, vm₁, ⟨U', l2, c2, s2⟩, hW₁, X', ⟨g', mk, t, L, E, ce, e1, e2, hq, hce, hcv, hcl, h1, hL, h2, h3⟩, st⟩
  · dsimp only [Pt.U, Pt.locs, Pt.cells, Pt.slots] at X' e1 e2 h1 h2 h3 st
    subst h1; subst h2; subst h3
    exact Or.inl ⟨v, (T.setVm vm₁).calling g' mk (Value.ref b :: As).toArray, t, U', L, hT, X', hL, e1, e2, hq, st⟩
  · dsimp only [Pt.U, Pt.locs, Pt.cells, Pt.slots] at X' e1 e2 h1 h2 h3 st hcl
    subst h1; subst h2; subst h3
    exact Or.inr ⟨q, (T.setVm vm₁).calling g' mk (Value.ref b :: As).toArray, t, U', L, E, ce, hT, X', hL, e1, e2, hq, hce, hcv, vx_cls hW₁ hcl, st⟩
end VXIB
/-! ===== END ===== -/
/-! ===== BEGIN a private constructor of a nest mate that throws ===== -/
section VXIC
variable {p : Program} {l : Launch} {e : Env} {R : Room} {s : State} {m : MethodId} {args : Array Value} {below : List Frame} {meth : Method} {c : Code} {T : State} {locs : List Loc} {cells slots : Nat}
theorem vx_callIN (X : Stand p l e R s m args below meth c T locs cells slots) (hexec : p.tables.exec = Jvm.exec) {own : String} {index : Nat} {host : String} {y : MethodName} {bytes : ByteArray} {maxL : Nat}
    (hown : s.vm.findClass own = some m.cls) (hy1 : y.name = "<init>") (hlink : (Cond.methodLinkNest own index y host).before args s = true) (hinst : (Cond.instanceMethod y).before args s = true)
    (hcode : (Cond.code y bytes maxL none).before args s = true) (hy : y.cls ≠ "java/lang/invoke/MethodHandle" ∧ y.cls ≠ "java/lang/invoke/VarHandle")
    {W9 : Nat} {Pre : Pt → Array Value → Prop} {Post : Pt → Array Value → Option Value → Pt → Prop} {PostX : Pt → Array Value → Addr → Pt → Prop} (hK : vx_Back l R p e below s args y 3 W9 Pre Post PostX)
    {g : JFrame} (hg : g.method = m) (hsize : g.locals.size = c.maxLocals) {a : Addr} {argsL rest : List Value} (hlen : ∀ sig, parseMethodDescriptor y.desc = some sig → argsL.length = sig.parameters.length)
    (hstack : g.stack = argsL.reverse ++ .ref a :: rest) (hW : 2 * g.monitorRoom + (rest.map fun v => v.category).sum ≤ W9) (hdg : decode c.code g.pc = .ok (.invokespecial index, 3))
    (hpre : ∀ vm₁, s.WarmedH vm₁ → Pre ⟨T.setVm vm₁, locs, cells, slots⟩ (Value.ref a :: argsL).toArray) :
    (∃ (v : Option Value) (vm₁ : Vm) (B : Pt), s.WarmedH vm₁ ∧ Stand p l e R s m args below meth c B.U B.locs B.cells B.slots ∧ Post ⟨T.setVm vm₁, locs, cells, slots⟩ (Value.ref a :: argsL).toArray v B ∧
      ∀ target, Steps p.tables e below (B.U.setTop { g with pc := g.pc + 3, stack := v.toList ++ rest }) target → Steps p.tables e below (T.setTop g) target) ∨
    (∃ (q : Addr) (vm₁ : Vm) (B : Pt), s.WarmedH vm₁ ∧ Stand p l e R s m args below meth c B.U B.locs B.cells B.slots ∧ PostX ⟨T.setVm vm₁, locs, cells, slots⟩ (Value.ref a :: argsL).toArray q B ∧
      Steps p.tables e below (T.setTop g) ((B.U.setTop { g with stack := rest }).pushFrame (.throwing q))) := by
  subst hg
  have hpl : e.platform.magicAccessors = ({} : Platform).magicAccessors := by rw [X.admits.platform]
  obtain ⟨mk, methM, cM, kP, vm₁, hnamed, hmethM, hcodeM, -, hlocalsM, -, hkP, -, hW₁, hstep₁⟩ := Steps.initColdArgsNest (e := e) X.here hexec X.warmed hpl hown hy1 hy hlink hinst hcode (f := g) rfl hlen hstack hdg
  have X₁ := X.noted hW₁
  rcases hK g.method meth c ⟨T.setVm vm₁, locs, cells, slots⟩ { g with stack := rest } (.invokespecial index) mk (Value.ref a :: argsL).toArray X₁ rfl hsize hdg hW (X₁.named hnamed) (hpre vm₁ X₁.warmed) with ⟨v, B, X', hpost, hsteps⟩ | ⟨q, B, X', hpost, hsteps⟩
  · exact Or.inl ⟨v, vm₁, B, X₁.warmed, X', hpost, fun target h => hstep₁ _ fun acts => by rw [doInvoke_state]; exact hsteps.trans h⟩
  · exact Or.inr ⟨q, vm₁, B, X₁.warmed, X', hpost, hstep₁ _ fun acts => by rw [doInvoke_state]; exact hsteps⟩
end VXIC
section VXID
variable {p : Program} {l : Launch} {e : Env} {R : Room} {s : State} {m : MethodId} {args : Array Value} {below : List Frame} {meth : Method} {c : Code} {H : Heap} {locs : List Loc} {cells slots : Nat}
theorem vx_runIN {y : MethodName} {bytes cc : ByteArray} {maxL nL mc ms n index : Nat} {ws : List Cond} {rm : Room} {Pc : Array Value → State → Prop} {Qc : Array Value → State → Outcome → State → Prop} {XC : String → State → State → Prop} {free : Addr → Prop} {Ts : List Cond} {own host : String} {b : Addr} {As rest : List Value} {g : JFrame}
    (S : CallFix p m c cc nL s args Ts own) (hM : vx_Met l y ws rm Pc Qc XC mc ms free) (cw : va_CN R s args own index y host bytes maxL none ws rm mc ms n ∧ y.name = "<init>" ∧ (Cond.instanceMethod y).before args s = true) (hp : PreS s H Pc (.ref b :: As))
    (hg : g.method = m) (hn : As.length = n) (hsize : g.locals.size = nL) (hstack : g.stack = As.reverse ++ .ref b :: rest) (hW : 2 * g.monitorRoom + (rest.map fun v => v.category).sum ≤ 8) (hdg : decode cc g.pc = .ok (.invokespecial index, 3)) (hf : cells + mc ≤ R.cells ∧ slots + ms ≤ R.slots) :
    vx_Run p l e R s m args below meth c H locs cells slots mc ms g rest (Qc (Value.ref b :: As).toArray) XC free := by
  obtain ⟨⟨⟨hrc, hrs, hfr, hlo, hws, hcw⟩, hcode, hini, hy, hlen, hl⟩, hx1, hx2⟩ := cw
  have hK : vx_Back l R p e below s args y 3 8 (PreOf R mc ms Pc) (PostOf Qc mc ms free) (vx_Post XC mc ms free) := vx_back (bytes := bytes) (maxL := maxL) (ret := none) hM hp.1 hrc hrs hfr hlo hws hcw (fun a' U hW => word_at hW (Or.inl (by first | rfl | simp [Cond.onTables, Cond.keeps, Cond.steady])) hini)
  obtain ⟨hx, hb, hml, ho, -⟩ := S
  have hPc := hp.2
  intro T hT X
  rcases vx_callIN X hx (bytes := bytes) (maxL := maxL) ho hx1 hl hx2 hcode hy hK hg (hsize.trans hml.symm) (a := b) (argsL := As) (rest := rest) (fun sig h => hn.trans (hlen sig h)) hstack hW (by rw [hb]; exact hdg)
    (fun vm₁ hW₁ => ⟨hf.1, hf.2, hPc (T.setVm vm₁) hT hW₁⟩) with ⟨v, vm₁, ⟨U', l2, c2, s2⟩, hW₁, X', ⟨g', mk, t, L, e1, e2, hq, h1, hL, h2, h3⟩, st⟩ | ⟨q, vm₁, ⟨U', l2, c2, s2⟩, hW₁, X', ⟨g', mk, t, L, E, ce, e1, e2, hq, hce, hcv, hcl, h1, hL, h2, h3⟩, st⟩
  · dsimp only [Pt.U, Pt.locs, Pt.cells, Pt.slots] at X' e1 e2 h1 h2 h3 st
    subst h1; subst h2; subst h3
    exact Or.inl ⟨v, (T.setVm vm₁).calling g' mk (Value.ref b :: As).toArray, t, U', L, hT, X', hL, e1, e2, hq, st⟩
  · dsimp only [Pt.U, Pt.locs, Pt.cells, Pt.slots] at X' e1 e2 h1 h2 h3 st hcl
    subst h1; subst h2; subst h3
    exact Or.inr ⟨q, (T.setVm vm₁).calling g' mk (Value.ref b :: As).toArray, t, U', L, E, ce, hT, X', hL, e1, e2, hq, hce, hcv, vx_cls hW₁ hcl, st⟩
end VXID
/-! ===== END ===== -/
/-! ===== BEGIN a method of a class above, found by the receiver, that may throw (follows va_callVU, va_runU of this kit) ===== -/
section
variable {p : Program} {l : Launch} {e : Env} {R : Room} {s : State} {m : MethodId} {args : Array Value} {below : List Frame} {meth : Method} {c : Code} {H : Heap} {locs : List Loc} {cells slots : Nat}
theorem vx_callVU {T : State} {locs : List Loc} {cells slots : Nat} (X : Stand p l e R s m args below meth c T locs cells slots) (hexec : p.tables.exec = Jvm.exec) {own C owner : String} {index : Nat} {x y : MethodName} {bytes : ByteArray} {maxL : Nat} {ret : Option FieldType}
    (hown : s.vm.findClass own = some m.cls) (hlink : (Cond.methodLink own index x).before args s = true) (hsame : (Cond.sameMethod x.cls owner x.name x.desc).before args s = true)
    (hd0 : va_Decl s ⟨owner, x.name, x.desc⟩) (howner : owner ≠ "java/lang/invoke/MethodHandle" ∧ owner ≠ "java/lang/invoke/VarHandle")
    (hsel : (Cond.selects C x y).before args s = true) (hinst : (Cond.instanceMethod y).before args s = true) (hcode : (Cond.code y bytes maxL ret).before args s = true)
    {W : Nat} {Pre : Pt → Array Value → Prop} {Post : Pt → Array Value → Option Value → Pt → Prop} {PostX : Pt → Array Value → Addr → Pt → Prop} (hK : vx_Back l R p e below s args y 3 W Pre Post PostX)
    {b : Addr} {cellB : Cell} (hcell : T.heap[b]? = some cellB) (hobj : cellB.vm.isStatics = false) (hcls : s.vm.findClass C = some cellB.cls)
    {g : JFrame} (hg : g.method = m) (hsize : g.locals.size = c.maxLocals) {argsL rest : List Value} (hlen : ∀ sig, parseMethodDescriptor x.desc = some sig → argsL.length = sig.parameters.length)
    (hstack : g.stack = argsL.reverse ++ .ref b :: rest) (hW : 2 * g.monitorRoom + (rest.map fun v => v.category).sum ≤ W) (hdg : decode c.code g.pc = .ok (.invokevirtual index, 3))
    (hpre : ∀ vm₁, s.WarmedH vm₁ → Pre ⟨T.setVm vm₁, locs, cells, slots⟩ (Value.ref b :: argsL).toArray) :
    (∃ (v : Option Value) (vm₁ : Vm) (B : Pt), s.WarmedH vm₁ ∧ Stand p l e R s m args below meth c B.U B.locs B.cells B.slots ∧ Post ⟨T.setVm vm₁, locs, cells, slots⟩ (Value.ref b :: argsL).toArray v B ∧
      ∀ target, Steps p.tables e below (B.U.setTop { g with pc := g.pc + 3, stack := v.toList ++ rest }) target → Steps p.tables e below (T.setTop g) target) ∨
    (∃ (q : Addr) (vm₁ : Vm) (B : Pt), s.WarmedH vm₁ ∧ Stand p l e R s m args below meth c B.U B.locs B.cells B.slots ∧ PostX ⟨T.setVm vm₁, locs, cells, slots⟩ (Value.ref b :: argsL).toArray q B ∧
      Steps p.tables e below (T.setTop g) ((B.U.setTop { g with stack := rest }).pushFrame (.throwing q))) := by
  obtain ⟨r0, r, hn, hrm, hstR, hsigR⟩ := hd0
  obtain ⟨cn, ck, r1, hcn, hck, hni, hf, hn1⟩ := Cond.sameMethod_found hsame
  cases hn.symm.trans hn1
  obtain ⟨mk, methM, hnamed, hmethM, -, habM⟩ := Cond.instanceMethod_spec hinst
  obtain ⟨c2, r2, m2, q1, q2, q3, q4, kP, hkP, hkPi⟩ := Cond.selects_spec hsel
  cases hcls.symm.trans q1
  cases hf.symm.trans q2
  cases hnamed.symm.trans q3
  have hselP : selectMethod e.platform s.vm cellB.cls r0 = .method mk := by rw [Launch.admits_selectMethod X.admits]; exact q4
  obtain ⟨vm₁, X₁, hstep₁⟩ := X.invokevirtualUp hexec hown hlink hsame howner hn hrm hstR (a := b) (cell := cellB) hcell
    (fun z h => by rw [h] at hobj; cases hobj) hselP hmethM habM hkP hkPi (g := g) hg (argsL := argsL) (rest := rest) (hlen _ hsigR) hstack hdg
  rcases hK m meth c ⟨T.setVm vm₁, locs, cells, slots⟩ { g with stack := rest } (.invokevirtual index) mk (Value.ref b :: argsL).toArray X₁ hg hsize hdg hW (X₁.named hnamed) (hpre vm₁ X₁.warmed) with ⟨v, B, X', hpost, hsteps⟩ | ⟨q, B, X', hpost, hsteps⟩
  · exact Or.inl ⟨v, vm₁, B, X₁.warmed, X', hpost, fun target h => hstep₁ _ fun acts => by rw [doInvoke_state]; exact hsteps.trans h⟩
  · exact Or.inr ⟨q, vm₁, B, X₁.warmed, X', hpost, hstep₁ _ fun acts => by rw [doInvoke_state]; exact hsteps⟩
theorem vx_runU {x y : MethodName} {bytes cc : ByteArray} {maxL nL mc ms n index : Nat} {ret : Option FieldType} {ws : List Cond} {rm : Room} {Pc : Array Value → State → Prop} {Qc : Array Value → State → Outcome → State → Prop} {XC : String → State → State → Prop} {free : Addr → Prop} {Ts : List Cond} {own C owner : String} {b : Addr} {As rest : List Value} {g : JFrame}
    (S : CallFix p m c cc nL s args Ts own) (hM : vx_Met l y ws rm Pc Qc XC mc ms free) (cw : va_CU R s args own C owner index x y bytes maxL ret ws rm mc ms n) (hp : PreV s H C b Pc As)
    (hg : g.method = m) (hn : As.length = n) (hsize : g.locals.size = nL) (hstack : g.stack = As.reverse ++ .ref b :: rest) (hW : 2 * g.monitorRoom + (rest.map fun v => v.category).sum ≤ 8) (hdg : decode cc g.pc = .ok (.invokevirtual index, 3)) (hf : cells + mc ≤ R.cells ∧ slots + ms ≤ R.slots) :
    vx_Run p l e R s m args below meth c H locs cells slots mc ms g rest (Qc (Value.ref b :: As).toArray) XC free := by
  obtain ⟨hrc, hrs, hfr, hlo, hws, hcw⟩ := cw.back
  have hini := cw.init
  have hK : vx_Back l R p e below s args y 3 8 (PreOf R mc ms Pc) (PostOf Qc mc ms free) (vx_Post XC mc ms free) := vx_back (bytes := bytes) (maxL := maxL) (ret := ret) hM hp.1 hrc hrs hfr hlo hws hcw (fun a' U hW => word_at hW (Or.inl (by first | rfl | simp [Cond.onTables, Cond.keeps, Cond.steady])) hini)
  obtain ⟨hx, hb, hml, ho, -⟩ := S
  obtain ⟨-, ⟨cellB, hcB, hoB, hclB⟩, hPc⟩ := hp
  intro T hT X
  rcases vx_callVU X hx (C := C) (owner := owner) (bytes := bytes) (maxL := maxL) (ret := ret) ho cw.link cw.same cw.decl cw.notMH cw.sel cw.inst cw.code hK (by rw [hT]; exact hcB) hoB hclB hg (hsize.trans hml.symm) (argsL := As) (rest := rest) (fun sig h => hn.trans (cw.len sig h)) hstack hW (by rw [hb]; exact hdg)
    (fun vm₁ hW₁ => ⟨hf.1, hf.2, hPc (T.setVm vm₁) hT hW₁⟩) with ⟨v, vm₁, ⟨U', l2, c2, s2⟩, hW₁, X', ⟨g', mk, t, L, e1, e2, hq, h1, hL, h2, h3⟩, st⟩ | ⟨q, vm₁, ⟨U', l2, c2, s2⟩, hW₁, X', ⟨g', mk, t, L, E, ce, e1, e2, hq, hce, hcv, hcl, h1, hL, h2, h3⟩, st⟩
  · dsimp only [Pt.U, Pt.locs, Pt.cells, Pt.slots] at X' e1 e2 h1 h2 h3 st
    subst h1; subst h2; subst h3
    exact Or.inl ⟨v, (T.setVm vm₁).calling g' mk (Value.ref b :: As).toArray, t, U', L, hT, X', hL, e1, e2, hq, st⟩
  · dsimp only [Pt.U, Pt.locs, Pt.cells, Pt.slots] at X' e1 e2 h1 h2 h3 st hcl
    subst h1; subst h2; subst h3
    exact Or.inr ⟨q, (T.setVm vm₁).calling g' mk (Value.ref b :: As).toArray, t, U', L, E, ce, hT, X', hL, e1, e2, hq, hce, hcv, vx_cls hW₁ hcl, st⟩
end
/-! ===== END ===== -/
/-! ===== BEGIN super.m(..) that may throw (follows va_callSU, va_runSU) ===== -/
section
variable {p : Program} {l : Launch} {e : Env} {R : Room} {s : State} {m : MethodId} {args : Array Value} {below : List Frame} {meth : Method} {c : Code} {H : Heap} {locs : List Loc} {cells slots : Nat}
theorem vx_callSU {T : State} {locs : List Loc} {cells slots : Nat} (X : Stand p l e R s m args below meth c T locs cells slots) (hexec : p.tables.exec = Jvm.exec) {own : String} {index : Nat} {y : MethodName} {bytes : ByteArray} {maxL : Nat} {ret : Option FieldType}
    (hown : s.vm.findClass own = some m.cls) (hlink : (Cond.methodLink own index y).before args s = true) (hsame : (Cond.sameMethod y.cls y.cls y.name y.desc).before args s = true) (hsup : (Cond.superclass own y.cls).before args s = true)
    (hinst : (Cond.instanceMethod y).before args s = true) (hcode : (Cond.code y bytes maxL ret).before args s = true) (hno : y.name ≠ "<init>")
    {W : Nat} {Pre : Pt → Array Value → Prop} {Post : Pt → Array Value → Option Value → Pt → Prop} {PostX : Pt → Array Value → Addr → Pt → Prop} (hK : vx_Back l R p e below s args y 3 W Pre Post PostX)
    {b : Addr} {cellB : Cell} {kB : Class} (hcell : T.heap[b]? = some cellB) (hobj : cellB.vm.isStatics = false) (hkB : s.vm.classes[cellB.cls]? = some kB)
    {g : JFrame} (hg : g.method = m) (hsize : g.locals.size = c.maxLocals) {argsL rest : List Value} (hlen : ∀ sig, parseMethodDescriptor y.desc = some sig → argsL.length = sig.parameters.length)
    (hstack : g.stack = argsL.reverse ++ .ref b :: rest) (hW : 2 * g.monitorRoom + (rest.map fun v => v.category).sum ≤ W) (hdg : decode c.code g.pc = .ok (.invokespecial index, 3))
    (hpre : ∀ vm₁, s.WarmedH vm₁ → Pre ⟨T.setVm vm₁, locs, cells, slots⟩ (Value.ref b :: argsL).toArray) :
    (∃ (v : Option Value) (vm₁ : Vm) (B : Pt), s.WarmedH vm₁ ∧ Stand p l e R s m args below meth c B.U B.locs B.cells B.slots ∧ Post ⟨T.setVm vm₁, locs, cells, slots⟩ (Value.ref b :: argsL).toArray v B ∧
      ∀ target, Steps p.tables e below (B.U.setTop { g with pc := g.pc + 3, stack := v.toList ++ rest }) target → Steps p.tables e below (T.setTop g) target) ∨
    (∃ (q : Addr) (vm₁ : Vm) (B : Pt), s.WarmedH vm₁ ∧ Stand p l e R s m args below meth c B.U B.locs B.cells B.slots ∧ PostX ⟨T.setVm vm₁, locs, cells, slots⟩ (Value.ref b :: argsL).toArray q B ∧
      Steps p.tables e below (T.setTop g) ((B.U.setTop { g with stack := rest }).pushFrame (.throwing q))) := by
  obtain ⟨mk, methM, hnamed, hmethM, hstM, habM⟩ := Cond.instanceMethod_spec hinst
  obtain ⟨methM', cM, hmethM', -, -, -, -, -, -, hsigM⟩ := Cond.code_spec hnamed hcode
  cases hmethM.symm.trans hmethM'
  obtain ⟨ps, dk, kp, hps, hdk, hkp, hsuper, -, -, hnid⟩ := Cond.superclass_spec hown hsup
  have hn : s.methodNamed? ⟨y.cls, y.name, y.desc⟩ = some mk := hnamed
  have hpm : ps = mk.cls := Option.some.inj (hps.symm.trans (findClass_of_methodNamed hnamed))
  have hsub : s.vm.isSubclass ps mk.cls = true := by rw [hpm]; simp [Vm.isSubclass, Vm.isSubclassAux]
  obtain ⟨vm₁, X₁, hstep₁⟩ := X.invokespecialUp hexec hown hlink hsame hn hmethM hstM habM hno hdk hnid hps hsuper hsub (a := b) (cell := cellB) hcell
    (fun z h => by rw [h] at hobj; cases hobj) hkB (g := g) hg (argsL := argsL) (rest := rest) (hlen _ hsigM) hstack hdg
  rcases hK m meth c ⟨T.setVm vm₁, locs, cells, slots⟩ { g with stack := rest } (.invokespecial index) mk (Value.ref b :: argsL).toArray X₁ hg hsize hdg hW (X₁.named hnamed) (hpre vm₁ X₁.warmed) with ⟨v, B, X', hpost, hsteps⟩ | ⟨q, B, X', hpost, hsteps⟩
  · exact Or.inl ⟨v, vm₁, B, X₁.warmed, X', hpost, fun target h => hstep₁ _ (by rw [doInvoke_state]; exact hsteps.trans h)⟩
  · exact Or.inr ⟨q, vm₁, B, X₁.warmed, X', hpost, hstep₁ _ (by rw [doInvoke_state]; exact hsteps)⟩
theorem vx_runSU {y : MethodName} {bytes cc : ByteArray} {maxL nL mc ms n index : Nat} {ret : Option FieldType} {ws : List Cond} {rm : Room} {Pc : Array Value → State → Prop} {Qc : Array Value → State → Outcome → State → Prop} {XC : String → State → State → Prop} {free : Addr → Prop} {Ts : List Cond} {own C : String} {cC : ClassId} {b : Addr} {As rest : List Value} {g : JFrame}
    (hat : ClassAt s C cC) (S : CallFix p m c cc nL s args Ts own) (hM : vx_Met l y ws rm Pc Qc XC mc ms free) (cw : va_CS R s args own index y bytes maxL ret ws rm mc ms n) (hp : PreV s H C b Pc As)
    (hg : g.method = m) (hn : As.length = n) (hsize : g.locals.size = nL) (hstack : g.stack = As.reverse ++ .ref b :: rest) (hW : 2 * g.monitorRoom + (rest.map fun v => v.category).sum ≤ 8) (hdg : decode cc g.pc = .ok (.invokespecial index, 3)) (hf : cells + mc ≤ R.cells ∧ slots + ms ≤ R.slots) :
    vx_Run p l e R s m args below meth c H locs cells slots mc ms g rest (Qc (Value.ref b :: As).toArray) XC free := by
  obtain ⟨⟨hrc, hrs, hfr, hlo, hws, hcw⟩, hl1, hl2, hl3, hl4, hini, hcode, hno, hlen⟩ := cw
  have hK : vx_Back l R p e below s args y 3 8 (PreOf R mc ms Pc) (PostOf Qc mc ms free) (vx_Post XC mc ms free) := vx_back (bytes := bytes) (maxL := maxL) (ret := ret) hM hp.1 hrc hrs hfr hlo hws hcw (fun a' U hW => word_at hW (Or.inl (by first | rfl | simp [Cond.onTables, Cond.keeps, Cond.steady])) hini)
  obtain ⟨hx, hb, hml, ho, -⟩ := S
  obtain ⟨-, ⟨cellB, hcB, hoB, hclB⟩, hPc⟩ := hp
  obtain ⟨hfc, kB, hkB, -⟩ := hat
  cases hfc.symm.trans hclB
  intro T hT X
  rcases vx_callSU X hx (bytes := bytes) (maxL := maxL) (ret := ret) ho hl1 hl2 hl3 hl4 hcode hno hK (by rw [hT]; exact hcB) hoB hkB hg (hsize.trans hml.symm) (argsL := As) (rest := rest) (fun sig h => hn.trans (hlen sig h)) hstack hW (by rw [hb]; exact hdg)
    (fun vm₁ hW₁ => ⟨hf.1, hf.2, hPc (T.setVm vm₁) hT hW₁⟩) with ⟨v, vm₁, ⟨U', l2, c2, s2⟩, hW₁, X', ⟨g', mk, t, L, e1, e2, hq, h1, hL, h2, h3⟩, st⟩ | ⟨q, vm₁, ⟨U', l2, c2, s2⟩, hW₁, X', ⟨g', mk, t, L, E, ce, e1, e2, hq, hce, hcv, hcl, h1, hL, h2, h3⟩, st⟩
  · dsimp only [Pt.U, Pt.locs, Pt.cells, Pt.slots] at X' e1 e2 h1 h2 h3 st
    subst h1; subst h2; subst h3
    exact Or.inl ⟨v, (T.setVm vm₁).calling g' mk (Value.ref b :: As).toArray, t, U', L, hT, X', hL, e1, e2, hq, st⟩
  · dsimp only [Pt.U, Pt.locs, Pt.cells, Pt.slots] at X' e1 e2 h1 h2 h3 st hcl
    subst h1; subst h2; subst h3
    exact Or.inr ⟨q, (T.setVm vm₁).calling g' mk (Value.ref b :: As).toArray, t, U', L, E, ce, hT, X', hL, e1, e2, hq, hce, hcv, vx_cls hW₁ hcl, st⟩
end
/-! ===== END ===== -/
/-! ===== BEGIN a private method of a nest mate that may throw (follows va_callVN, va_callSN, va_runVN, va_runSN) ===== -/
section
variable {p : Program} {l : Launch} {e : Env} {R : Room} {s : State} {m : MethodId} {args : Array Value} {below : List Frame} {meth : Method} {c : Code} {H : Heap} {locs : List Loc} {cells slots : Nat}
variable {T : State}
theorem vx_callVN (X : Stand p l e R s m args below meth c T locs cells slots) (hexec : p.tables.exec = Jvm.exec) {own C : String} {index : Nat} {host : String} {y : MethodName} {bytes : ByteArray} {maxL : Nat} {ret : Option FieldType}
    (hown : s.vm.findClass own = some m.cls) (hlink : (Cond.methodLinkNest own index y host).before args s = true) (hinst : (Cond.instanceMethod y).before args s = true) (hsel : (Cond.selects C y y).before args s = true)
    (hcode : (Cond.code y bytes maxL ret).before args s = true) (hy : y.cls ≠ "java/lang/invoke/MethodHandle" ∧ y.cls ≠ "java/lang/invoke/VarHandle")
    {W : Nat} {Pre : Pt → Array Value → Prop} {Post : Pt → Array Value → Option Value → Pt → Prop} {PostX : Pt → Array Value → Addr → Pt → Prop} (hK : vx_Back l R p e below s args y 3 W Pre Post PostX)
    {b : Addr} {cellB : Cell} (hcell : T.heap[b]? = some cellB) (hobj : cellB.vm.isStatics = false) (hcls : s.vm.findClass C = some cellB.cls)
    {g : JFrame} (hg : g.method = m) (hsize : g.locals.size = c.maxLocals) {argsL rest : List Value} (hlen : ∀ sig, parseMethodDescriptor y.desc = some sig → argsL.length = sig.parameters.length)
    (hstack : g.stack = argsL.reverse ++ .ref b :: rest) (hW : 2 * g.monitorRoom + (rest.map fun v => v.category).sum ≤ W) (hdg : decode c.code g.pc = .ok (.invokevirtual index, 3))
    (hpre : ∀ vm₁, s.WarmedH vm₁ → Pre ⟨T.setVm vm₁, locs, cells, slots⟩ (Value.ref b :: argsL).toArray) :
    (∃ (v : Option Value) (vm₁ : Vm) (B : Pt), s.WarmedH vm₁ ∧ Stand p l e R s m args below meth c B.U B.locs B.cells B.slots ∧ Post ⟨T.setVm vm₁, locs, cells, slots⟩ (Value.ref b :: argsL).toArray v B ∧
      ∀ target, Steps p.tables e below (B.U.setTop { g with pc := g.pc + 3, stack := v.toList ++ rest }) target → Steps p.tables e below (T.setTop g) target) ∨
    (∃ (q : Addr) (vm₁ : Vm) (B : Pt), s.WarmedH vm₁ ∧ Stand p l e R s m args below meth c B.U B.locs B.cells B.slots ∧ PostX ⟨T.setVm vm₁, locs, cells, slots⟩ (Value.ref b :: argsL).toArray q B ∧
      Steps p.tables e below (T.setTop g) ((B.U.setTop { g with stack := rest }).pushFrame (.throwing q))) := by
  obtain ⟨mk, methM, hnamed, hmethM, hstM, habM⟩ := Cond.instanceMethod_spec hinst
  obtain ⟨methM', cM, hmethM', -, -, -, -, -, -, hsigM⟩ := Cond.code_spec hnamed hcode
  cases hmethM.symm.trans hmethM'
  obtain ⟨c2, r2, m2, q1, q2, q3, q4, kP, hkP, hkPi⟩ := Cond.selects_spec hsel
  cases hcls.symm.trans q1
  cases (State.methodFound?_of_named hnamed hy).symm.trans q2
  cases hnamed.symm.trans q3
  have hselP : selectMethod e.platform s.vm cellB.cls mk = .method mk := by rw [Launch.admits_selectMethod X.admits]; exact q4
  obtain ⟨vm₁, X₁, hstep₁⟩ := X.invokevirtualNest hexec hown hlink hnamed hmethM hstM hkP hkPi hy (a := b) (cell := cellB) hcell
    (fun z h => by rw [h] at hobj; cases hobj) hselP hmethM habM hkP hkPi (g := g) hg (argsL := argsL) (rest := rest) (hlen _ hsigM) hstack hdg
  rcases hK m meth c ⟨T.setVm vm₁, locs, cells, slots⟩ { g with stack := rest } (.invokevirtual index) mk (Value.ref b :: argsL).toArray X₁ hg hsize hdg hW (X₁.named hnamed) (hpre vm₁ X₁.warmed) with ⟨v, B, X', hpost, hsteps⟩ | ⟨q, B, X', hpost, hsteps⟩
  · exact Or.inl ⟨v, vm₁, B, X₁.warmed, X', hpost, fun target h => hstep₁ _ fun acts => by rw [doInvoke_state]; exact hsteps.trans h⟩
  · exact Or.inr ⟨q, vm₁, B, X₁.warmed, X', hpost, hstep₁ _ fun acts => by rw [doInvoke_state]; exact hsteps⟩
theorem vx_callSN (X : Stand p l e R s m args below meth c T locs cells slots) (hexec : p.tables.exec = Jvm.exec) {own : String} {index : Nat} {host : String} {y : MethodName} {bytes : ByteArray} {maxL : Nat} {ret : Option FieldType}
    (hown : s.vm.findClass own = some m.cls) (hlink : (Cond.methodLinkNest own index y host).before args s = true) (hstat : (Cond.static y).before args s = true) (hinit : (Cond.initialized y.cls).before args s = true)
    (hcode : (Cond.code y bytes maxL ret).before args s = true) (hy : y.cls ≠ "java/lang/invoke/MethodHandle" ∧ y.cls ≠ "java/lang/invoke/VarHandle")
    {W : Nat} {Pre : Pt → Array Value → Prop} {Post : Pt → Array Value → Option Value → Pt → Prop} {PostX : Pt → Array Value → Addr → Pt → Prop} (hK : vx_Back l R p e below s args y 3 W Pre Post PostX)
    {g : JFrame} (hg : g.method = m) (hsize : g.locals.size = c.maxLocals) {argsL rest : List Value} (hlen : ∀ sig, parseMethodDescriptor y.desc = some sig → argsL.length = sig.parameters.length)
    (hstack : g.stack = argsL.reverse ++ rest) (hW : 2 * g.monitorRoom + (rest.map fun v => v.category).sum ≤ W) (hdg : decode c.code g.pc = .ok (.invokestatic index, 3))
    (hpre : ∀ vm₁, s.WarmedH vm₁ → Pre ⟨T.setVm vm₁, locs, cells, slots⟩ argsL.toArray) :
    (∃ (v : Option Value) (vm₁ : Vm) (B : Pt), s.WarmedH vm₁ ∧ Stand p l e R s m args below meth c B.U B.locs B.cells B.slots ∧ Post ⟨T.setVm vm₁, locs, cells, slots⟩ argsL.toArray v B ∧
      ∀ target, Steps p.tables e below (B.U.setTop { g with pc := g.pc + 3, stack := v.toList ++ rest }) target → Steps p.tables e below (T.setTop g) target) ∨
    (∃ (q : Addr) (vm₁ : Vm) (B : Pt), s.WarmedH vm₁ ∧ Stand p l e R s m args below meth c B.U B.locs B.cells B.slots ∧ PostX ⟨T.setVm vm₁, locs, cells, slots⟩ argsL.toArray q B ∧
      Steps p.tables e below (T.setTop g) ((B.U.setTop { g with stack := rest }).pushFrame (.throwing q))) := by
  obtain ⟨mk, hnamed⟩ := Cond.code_named hcode
  obtain ⟨methM, cM, hmethM, -, -, -, -, -, -, hsigM⟩ := Cond.code_spec hnamed hcode
  have hstatic : methM.isStatic = true := Cond.static_spec hnamed hmethM hstat
  obtain ⟨kP, hkP, -⟩ := className_of_methodNamed hnamed
  have hinitP : kP.init = .initialized := Cond.initialized_spec (findClass_of_methodNamed hnamed) hkP hinit
  obtain ⟨vm₁, X₁, hstep₁⟩ := X.invokestaticNest hexec hown hlink hnamed hmethM hstatic hkP hinitP hy (g := g) hg (argsL := argsL) (rest := rest) (hlen _ hsigM) hstack hdg
  rcases hK m meth c ⟨T.setVm vm₁, locs, cells, slots⟩ { g with stack := rest } (.invokestatic index) mk argsL.toArray X₁ hg hsize hdg hW (X₁.named hnamed) (hpre vm₁ X₁.warmed) with ⟨v, B, X', hpost, hsteps⟩ | ⟨q, B, X', hpost, hsteps⟩
  · exact Or.inl ⟨v, vm₁, B, X₁.warmed, X', hpost, fun target h => hstep₁ _ fun acts => by rw [doInvoke_state]; exact hsteps.trans h⟩
  · exact Or.inr ⟨q, vm₁, B, X₁.warmed, X', hpost, hstep₁ _ fun acts => by rw [doInvoke_state]; exact hsteps⟩
theorem vx_runVN {y : MethodName} {bytes cc : ByteArray} {maxL nL mc ms n index : Nat} {ret : Option FieldType} {ws : List Cond} {rm : Room} {Pc : Array Value → State → Prop} {Qc : Array Value → State → Outcome → State → Prop} {XC : String → State → State → Prop} {free : Addr → Prop} {Ts : List Cond} {own C host : String} {b : Addr} {As rest : List Value} {g : JFrame}
    (S : CallFix p m c cc nL s args Ts own) (hM : vx_Met l y ws rm Pc Qc XC mc ms free) (cw : va_CN R s args own index y host bytes maxL ret ws rm mc ms n ∧ (Cond.instanceMethod y).before args s = true ∧ (Cond.selects C y y).before args s = true) (hp : PreV s H C b Pc As)
    (hg : g.method = m) (hn : As.length = n) (hsize : g.locals.size = nL) (hstack : g.stack = As.reverse ++ .ref b :: rest) (hW : 2 * g.monitorRoom + (rest.map fun v => v.category).sum ≤ 8) (hdg : decode cc g.pc = .ok (.invokevirtual index, 3)) (hf : cells + mc ≤ R.cells ∧ slots + ms ≤ R.slots) :
    vx_Run p l e R s m args below meth c H locs cells slots mc ms g rest (Qc (Value.ref b :: As).toArray) XC free := by
  obtain ⟨⟨⟨hrc, hrs, hfr, hlo, hws, hcw⟩, hcode, hini, hy, hlen, hl⟩, hx1, hx2⟩ := cw
  have hK : vx_Back l R p e below s args y 3 8 (PreOf R mc ms Pc) (PostOf Qc mc ms free) (vx_Post XC mc ms free) := vx_back (bytes := bytes) (maxL := maxL) (ret := ret) hM hp.1 hrc hrs hfr hlo hws hcw (fun a' U hW => word_at hW (Or.inl (by first | rfl | simp [Cond.onTables, Cond.keeps, Cond.steady])) hini)
  obtain ⟨hx, hb, hml, ho, -⟩ := S
  obtain ⟨-, ⟨cellB, hcB, hoB, hclB⟩, hPc⟩ := hp
  intro T hT X
  rcases vx_callVN X hx (C := C) (bytes := bytes) (maxL := maxL) (ret := ret) ho hl hx1 hx2 hcode hy hK (by rw [hT]; exact hcB) hoB hclB hg (hsize.trans hml.symm) (argsL := As) (rest := rest) (fun sig h => hn.trans (hlen sig h)) hstack hW (by rw [hb]; exact hdg)
    (fun vm₁ hW₁ => ⟨hf.1, hf.2, hPc (T.setVm vm₁) hT hW₁⟩) with ⟨v, vm₁, ⟨U', l2, c2, s2⟩, hW₁, X', ⟨g', mk, t, L, e1, e2, hq, h1, hL, h2, h3⟩, st⟩ | ⟨q, vm₁, ⟨U', l2, c2, s2⟩, hW₁, X', ⟨g', mk, t, L, E, ce, e1, e2, hq, hce, hcv, hcl, h1, hL, h2, h3⟩, st⟩
  · dsimp only [Pt.U, Pt.locs, Pt.cells, Pt.slots] at X' e1 e2 h1 h2 h3 st
    subst h1; subst h2; subst h3
    exact Or.inl ⟨v, (T.setVm vm₁).calling g' mk (Value.ref b :: As).toArray, t, U', L, hT, X', hL, e1, e2, hq, st⟩
  · dsimp only [Pt.U, Pt.locs, Pt.cells, Pt.slots] at X' e1 e2 h1 h2 h3 st hcl
    subst h1; subst h2; subst h3
    exact Or.inr ⟨q, (T.setVm vm₁).calling g' mk (Value.ref b :: As).toArray, t, U', L, E, ce, hT, X', hL, e1, e2, hq, hce, hcv, vx_cls hW₁ hcl, st⟩
theorem vx_runSN {y : MethodName} {bytes cc : ByteArray} {maxL nL mc ms n index : Nat} {ret : Option FieldType} {ws : List Cond} {rm : Room} {Pc : Array Value → State → Prop} {Qc : Array Value → State → Outcome → State → Prop} {XC : String → State → State → Prop} {free : Addr → Prop} {Ts : List Cond} {own host : String} {As rest : List Value} {g : JFrame}
    (S : CallFix p m c cc nL s args Ts own) (hM : vx_Met l y ws rm Pc Qc XC mc ms free) (cw : va_CN R s args own index y host bytes maxL ret ws rm mc ms n ∧ (Cond.static y).before args s = true ∧ True) (hp : PreS s H Pc As)
    (hg : g.method = m) (hn : As.length = n) (hsize : g.locals.size = nL) (hstack : g.stack = As.reverse ++ rest) (hW : 2 * g.monitorRoom + (rest.map fun v => v.category).sum ≤ 8) (hdg : decode cc g.pc = .ok (.invokestatic index, 3)) (hf : cells + mc ≤ R.cells ∧ slots + ms ≤ R.slots) :
    vx_Run p l e R s m args below meth c H locs cells slots mc ms g rest (Qc As.toArray) XC free := by
  obtain ⟨⟨⟨hrc, hrs, hfr, hlo, hws, hcw⟩, hcode, hini, hy, hlen, hl⟩, hx1, hx2⟩ := cw
  have hK : vx_Back l R p e below s args y 3 8 (PreOf R mc ms Pc) (PostOf Qc mc ms free) (vx_Post XC mc ms free) := vx_back (bytes := bytes) (maxL := maxL) (ret := ret) hM hp.1 hrc hrs hfr hlo hws hcw (fun a' U hW => word_at hW (Or.inl (by first | rfl | simp [Cond.onTables, Cond.keeps, Cond.steady])) hini)
  obtain ⟨hx, hb, hml, ho, -⟩ := S
  have hPc := hp.2
  intro T hT X
  rcases vx_callSN X hx (bytes := bytes) (maxL := maxL) (ret := ret) ho hl hx1 hini hcode hy hK hg (hsize.trans hml.symm) (argsL := As) (rest := rest) (fun sig h => hn.trans (hlen sig h)) hstack hW (by rw [hb]; exact hdg)
    (fun vm₁ hW₁ => ⟨hf.1, hf.2, hPc (T.setVm vm₁) hT hW₁⟩) with ⟨v, vm₁, ⟨U', l2, c2, s2⟩, hW₁, X', ⟨g', mk, t, L, e1, e2, hq, h1, hL, h2, h3⟩, st⟩ | ⟨q, vm₁, ⟨U', l2, c2, s2⟩, hW₁, X', ⟨g', mk, t, L, E, ce, e1, e2, hq, hce, hcv, hcl, h1, hL, h2, h3⟩, st⟩
  · dsimp only [Pt.U, Pt.locs, Pt.cells, Pt.slots] at X' e1 e2 h1 h2 h3 st
    subst h1; subst h2; subst h3
    exact Or.inl ⟨v, (T.setVm vm₁).calling g' mk As.toArray, t, U', L, hT, X', hL, e1, e2, hq, st⟩
  · dsimp only [Pt.U, Pt.locs, Pt.cells, Pt.slots] at X' e1 e2 h1 h2 h3 st hcl
    subst h1; subst h2; subst h3
    exact Or.inr ⟨q, (T.setVm vm₁).calling g' mk As.toArray, t, U', L, E, ce, hT, X', hL, e1, e2, hq, hce, hcv, vx_cls hW₁ hcl, st⟩
end
/-! ===== END ===== -/
/-! ===== BEGIN calls by an interface of methods that may throw (vx_callIF, vx_runF follow va_callIF, va_runF of this kit) ===== -/
section
variable {p : Program} {l : Launch} {e : Env} {R : Room} {s : State} {m : MethodId} {args : Array Value} {below : List Frame} {meth : Method} {c : Code} {H : Heap} {locs : List Loc} {cells slots : Nat} {Q : State → Prop}
variable {mc ms : Nat} {free : Addr → Prop} {A0 A1 : Nat → Prop} {H0 : Heap} {a : Array Value} {pc : Nat} {ls : Array Slot} {st0 rest : List Value}
def vx_Run5 (p : Program) (l : Launch) (e : Env) (R : Room) (s : State) (m : MethodId) (args : Array Value) (below : List Frame) (meth : Method) (c : Code) (H : Heap) (locs : List Loc) (cells slots mc ms : Nat) (g : JFrame) (rest : List Value) (Qa : State → Outcome → State → Prop) (XC : String → State → State → Prop) (free : Addr → Prop) : Prop :=
  ∀ T : State, T.heap = H → Stand p l e R s m args below meth c T locs cells slots →
    (∃ (v : Option Value) (st₀ t T' : State) (L : List Loc), st₀.heap = H ∧ Stand p l e R s m args below meth c T' (locs ++ L) (cells + mc) (slots + ms) ∧ (∀ q ∈ L, free q.base) ∧ T'.heap = t.heap ∧ T'.vm = t.vm ∧ Qa st₀ (.returned v) t ∧
      Goes p e below T g T' { g with pc := g.pc + 5, stack := v.toList ++ rest }) ∨
    (∃ (q : Addr) (st₀ t T' : State) (L : List Loc) (E : String) (ce : Cell), st₀.heap = H ∧ Stand p l e R s m args below meth c T' (locs ++ L) (cells + mc) (slots + ms) ∧ (∀ z ∈ L, free z.base) ∧ T'.heap = t.heap ∧ T'.vm = t.vm ∧ XC E st₀ t ∧ t.heap[q]? = some ce ∧ ce.vm = .none ∧ s.vm.findClass E = some ce.cls ∧
      Steps p.tables e below (T.setTop g) ((T'.setTop { g with stack := rest }).pushFrame (.throwing q)))
theorem vx_callIF {T : State} (X : Stand p l e R s m args below meth c T locs cells slots) (hexec : p.tables.exec = Jvm.exec) {own C : String} {index count : Nat} {x y : MethodName} {bytes : ByteArray} {maxL : Nat} {ret : Option FieldType}
    (hown : s.vm.findClass own = some m.cls) (hlink : (Cond.methodLink own index x).before args s = true) (hdecl : (Cond.declares x).before args s = true) (hface : (Cond.interfaceMethod x.cls x.cls x.name x.desc).before args s = true)
    (hsel : (Cond.selects C x y).before args s = true) (hinst : (Cond.instanceMethod y).before args s = true) (hpub : (Cond.publicMethod y).before args s = true) (hunh : (Cond.unhidden C x.name x.desc).before args s = true)
    (hcast : (Cond.castable C x.cls).before args s = true) (hcode : (Cond.code y bytes maxL ret).before args s = true) (hx : x.cls ≠ "java/lang/invoke/MethodHandle" ∧ x.cls ≠ "java/lang/invoke/VarHandle")
    {W9 : Nat} {Pre : Pt → Array Value → Prop} {Post : Pt → Array Value → Option Value → Pt → Prop} {PostX : Pt → Array Value → Addr → Pt → Prop} (hK : vx_Back l R p e below s args y 5 W9 Pre Post PostX)
    {b : Addr} {cellB : Cell} {kB : Class} (hcell : T.heap[b]? = some cellB) (hobj : cellB.vm.isStatics = false) (hcls : s.vm.findClass C = some cellB.cls) (hkB : s.vm.classes[cellB.cls]? = some kB)
    {g : JFrame} (hg : g.method = m) (hsize : g.locals.size = c.maxLocals) {argsL rest : List Value} (hlen : ∀ sig, parseMethodDescriptor x.desc = some sig → argsL.length = sig.parameters.length)
    (hstack : g.stack = argsL.reverse ++ .ref b :: rest) (hW : 2 * g.monitorRoom + (rest.map fun v => v.category).sum ≤ W9) (hdg : decode c.code g.pc = .ok (.invokeinterface index count, 5))
    (hpre : ∀ vm₁, s.WarmedH vm₁ → Pre ⟨T.setVm vm₁, locs, cells, slots⟩ (Value.ref b :: argsL).toArray) :
    (∃ (v : Option Value) (vm₁ : Vm) (B : Pt), s.WarmedH vm₁ ∧ Stand p l e R s m args below meth c B.U B.locs B.cells B.slots ∧ Post ⟨T.setVm vm₁, locs, cells, slots⟩ (Value.ref b :: argsL).toArray v B ∧
      ∀ target, Steps p.tables e below (B.U.setTop { g with pc := g.pc + 5, stack := v.toList ++ rest }) target → Steps p.tables e below (T.setTop g) target) ∨
    (∃ (q : Addr) (vm₁ : Vm) (B : Pt), s.WarmedH vm₁ ∧ Stand p l e R s m args below meth c B.U B.locs B.cells B.slots ∧ PostX ⟨T.setVm vm₁, locs, cells, slots⟩ (Value.ref b :: argsL).toArray q B ∧
      Steps p.tables e below (T.setTop g) ((B.U.setTop { g with stack := rest }).pushFrame (.throwing q))) := by
  obtain ⟨r0, r, hn, hrm, hstR, hsigR⟩ := Cond.declares_spec hdecl
  obtain ⟨cL, kL, r1, hcL, hkL, hiL, hfoundL, hn1⟩ := Cond.interfaceMethod_spec hface
  cases hn.symm.trans hn1
  have hr0cls : r0.cls = cL := Option.some.inj ((findClass_of_methodNamed hn).symm.trans hcL)
  obtain ⟨hnameR, hdescR⟩ := name_of_methodNamed hn hrm
  obtain ⟨mk, methM, hnamed, hmethM, -, habM⟩ := Cond.instanceMethod_spec hinst
  obtain ⟨c2, r2, m2, q1, q2, q3, q4, -⟩ := Cond.selects_spec hsel
  cases hcls.symm.trans q1
  cases hfoundL.symm.trans q2
  cases hnamed.symm.trans q3
  have hselP : selectMethod e.platform s.vm cellB.cls r0 = .method mk := by rw [Launch.admits_selectMethod X.admits]; exact q4
  have hpubM : hasFlag methM.accessFlags Acc.public_ = true := Cond.publicMethod_spec hnamed hmethM hpub
  have hway : ((cellB.cls :: s.vm.superclasses cellB.cls).any fun k => (declaredIn s.vm r.name r.desc k).any fun (_, z) => z.isPrivate || z.isStatic) = false := by
    rw [hnameR, hdescR]; exact Cond.unhidden_spec hcls hunh
  obtain ⟨c3, t3, w1, w2, w3⟩ := Cond.castable_spec hcast
  cases hcls.symm.trans w1
  cases hcL.symm.trans w2
  obtain ⟨vm₁, X₁, hstep₁⟩ := X.invokeinterface hexec hown hlink hn hrm hstR (by rw [hr0cls]; exact hkL) hiL hx (a := b) (cell := cellB) (kcell := kB) hcell
    (fun z h => by rw [h] at hobj; cases hobj) hkB (by rw [hr0cls]; exact w3) hselP hmethM hway hpubM habM (g := g) hg (argsL := argsL) (rest := rest) (hlen _ hsigR) hstack hdg
  rcases hK m meth c ⟨T.setVm vm₁, locs, cells, slots⟩ { g with stack := rest } (.invokeinterface index count) mk (Value.ref b :: argsL).toArray X₁ hg hsize hdg hW (X₁.named hnamed) (hpre vm₁ X₁.warmed) with ⟨v, B, X', hpost, hsteps⟩ | ⟨q, B, X', hpost, hsteps⟩
  · exact Or.inl ⟨v, vm₁, B, X₁.warmed, X', hpost, fun target h => hstep₁ _ fun acts => by rw [doInvoke_state]; exact hsteps.trans h⟩
  · exact Or.inr ⟨q, vm₁, B, X₁.warmed, X', hpost, hstep₁ _ fun acts => by rw [doInvoke_state]; exact hsteps⟩
theorem vx_runF {x y : MethodName} {bytes cc : ByteArray} {maxL nL mc ms n index count : Nat} {ret : Option FieldType} {ws : List Cond} {rm : Room} {Pc : Array Value → State → Prop} {Qc : Array Value → State → Outcome → State → Prop} {XC : String → State → State → Prop} {free : Addr → Prop} {Ts : List Cond} {own C : String} {cC : ClassId} {b : Addr} {As rest : List Value} {g : JFrame}
    (hat : ClassAt s C cC) (S : CallFix p m c cc nL s args Ts own) (hM : vx_Met l y ws rm Pc Qc XC mc ms free) (cw : va_CI R s args own C index x y bytes maxL ret ws rm mc ms n) (hp : PreV s H C b Pc As)
    (hg : g.method = m) (hn : As.length = n) (hsize : g.locals.size = nL) (hstack : g.stack = As.reverse ++ .ref b :: rest) (hW : 2 * g.monitorRoom + (rest.map fun v => v.category).sum ≤ 8) (hdg : decode cc g.pc = .ok (.invokeinterface index count, 5)) (hf : cells + mc ≤ R.cells ∧ slots + ms ≤ R.slots) :
    vx_Run5 p l e R s m args below meth c H locs cells slots mc ms g rest (Qc (Value.ref b :: As).toArray) XC free := by
  obtain ⟨hrc, hrs, hfr, hlo, hws, hcw⟩ := cw.back
  have hini := cw.init
  have hK : vx_Back l R p e below s args y 5 8 (PreOf R mc ms Pc) (PostOf Qc mc ms free) (vx_Post XC mc ms free) := vx_back (bytes := bytes) (maxL := maxL) (ret := ret) hM hp.1 hrc hrs hfr hlo hws hcw (fun a' U hW => word_at hW (Or.inl (by first | rfl | simp [Cond.onTables, Cond.keeps, Cond.steady])) hini)
  obtain ⟨hx, hb, hml, ho, -⟩ := S
  obtain ⟨-, ⟨cellB, hcB, hoB, hclB⟩, hPc⟩ := hp
  obtain ⟨hfc, kB, hkB, -⟩ := hat
  cases hfc.symm.trans hclB
  intro T hT X
  rcases vx_callIF X hx (C := C) (bytes := bytes) (maxL := maxL) (ret := ret) ho cw.link cw.decl cw.face cw.sel cw.inst cw.pub cw.unh cw.cast cw.code cw.notMH hK (by rw [hT]; exact hcB) hoB hclB hkB hg (hsize.trans hml.symm) (argsL := As) (rest := rest) (fun sig h => hn.trans (cw.len sig h)) hstack hW (by rw [hb]; exact hdg)
    (fun vm₁ hW₁ => ⟨hf.1, hf.2, hPc (T.setVm vm₁) hT hW₁⟩) with ⟨v, vm₁, ⟨U', l2, c2, s2⟩, hW₁, X', ⟨g', mk, t, L, e1, e2, hq, h1, hL, h2, h3⟩, st⟩ | ⟨q, vm₁, ⟨U', l2, c2, s2⟩, hW₁, X', ⟨g', mk, t, L, E, ce, e1, e2, hq, hce, hcv, hcl, h1, hL, h2, h3⟩, st⟩
  · dsimp only [Pt.U, Pt.locs, Pt.cells, Pt.slots] at X' e1 e2 h1 h2 h3 st
    subst h1; subst h2; subst h3
    exact Or.inl ⟨v, (T.setVm vm₁).calling g' mk (Value.ref b :: As).toArray, t, U', L, hT, X', hL, e1, e2, hq, st⟩
  · dsimp only [Pt.U, Pt.locs, Pt.cells, Pt.slots] at X' e1 e2 h1 h2 h3 st hcl
    subst h1; subst h2; subst h3
    exact Or.inr ⟨q, (T.setVm vm₁).calling g' mk (Value.ref b :: As).toArray, t, U', L, E, ce, hT, X', hL, e1, e2, hq, hce, hcv, vx_cls hW₁ hcl, st⟩
theorem vx_callFv {S SX : Type} {post : S → Prop} {px : SX → Prop} {B : S → State → Prop} {BX : String → SX → State → Prop} {AX : Nat → Prop} (hr : vx_Run5 p l e R s m args below meth c H locs cells slots mc ms (F0 m pc ls st0) rest (va_Qv post B A1 a) (vx_X px BX AX) free) (hS : va_S A0 H0 H locs) (hA : ∀ q, q < H.size → A1 q → A0 q) (hf : ∀ q, free q → A0 q) (hAX : ∀ q, q < H.size → AX q → A0 q)
    (kx : ∀ (E : String) (ce : Cell) (q9 : Addr) (u : SX) (t : State) (H1 : Heap) (locs1 : List Loc), t.heap = H1 → s.vm.Alike t.vm → px u → BX E u t → H.size ≤ H1.size → (∀ q : Nat, q < H.size → ¬ AX q → H1[q]? = H[q]?) → va_S A0 H0 H1 locs1 → H1[q9]? = some ce → ce.vm = .none → s.vm.findClass E = some ce.cls → vx_W p l e R s m args below meth c H1 locs1 (cells + mc) (slots + ms) Q (F0 m pc ls rest) q9)
    (kk : ∀ (u : S) (t : State) (H1 : Heap) (locs1 : List Loc), t.heap = H1 → s.vm.Alike t.vm → post u → B u t → H.size ≤ H1.size → (∀ q : Nat, q < H.size → ¬ A1 q → H1[q]? = H[q]?) → va_S A0 H0 H1 locs1 → W p l e R s m args below meth c H1 locs1 (cells + mc) (slots + ms) Q (F0 m (pc + 5) ls (rest))) : W p l e R s m args below meth c H locs cells slots Q (F0 m pc ls st0) := by
  intro T hT X
  rcases hr T hT X with ⟨v, st₀, t, T', L, h0, X', hL, e1, e2, ⟨⟨u, hv, hp, hb⟩, hF⟩, st⟩ | ⟨q, st₀, t, T', L, E, ce, h0, X', hL, e1, e2, ⟨u, hp, hb, hF⟩, hce, hcv, hcl, st⟩
  · cases hv
    obtain ⟨k1, k2, k3⟩ := vx_keep h0 e1 hS hA hf hL hF
    obtain ⟨t2, a1, b1⟩ := kk u t T'.heap (locs ++ L) e1.symm (by rw [← e2]; exact X'.warmed.alike) hp hb k1 k2 k3 T' rfl X'
    exact ⟨t2, st t2 a1, b1⟩
  · obtain ⟨k1, k2, k3⟩ := vx_keep h0 e1 hS hAX hf hL hF
    obtain ⟨t2, a1, b1⟩ := kx E ce q u t T'.heap (locs ++ L) e1.symm (by rw [← e2]; exact X'.warmed.alike) hp hb k1 k2 k3 (by rw [e1]; exact hce) hcv hcl T' rfl X'
    exact ⟨t2, st.trans a1, b1⟩
theorem vx_callFi {S SX : Type} {post : Int32 → S → Prop} {px : SX → Prop} {B : S → State → Prop} {BX : String → SX → State → Prop} {AX : Nat → Prop} (hr : vx_Run5 p l e R s m args below meth c H locs cells slots mc ms (F0 m pc ls st0) rest (va_Qi post B A1 a) (vx_X px BX AX) free) (hS : va_S A0 H0 H locs) (hA : ∀ q, q < H.size → A1 q → A0 q) (hf : ∀ q, free q → A0 q) (hAX : ∀ q, q < H.size → AX q → A0 q)
    (kx : ∀ (E : String) (ce : Cell) (q9 : Addr) (u : SX) (t : State) (H1 : Heap) (locs1 : List Loc), t.heap = H1 → s.vm.Alike t.vm → px u → BX E u t → H.size ≤ H1.size → (∀ q : Nat, q < H.size → ¬ AX q → H1[q]? = H[q]?) → va_S A0 H0 H1 locs1 → H1[q9]? = some ce → ce.vm = .none → s.vm.findClass E = some ce.cls → vx_W p l e R s m args below meth c H1 locs1 (cells + mc) (slots + ms) Q (F0 m pc ls rest) q9)
    (kk : ∀ (r : Int32) (u : S) (t : State) (H1 : Heap) (locs1 : List Loc), t.heap = H1 → s.vm.Alike t.vm → post r u → B u t → H.size ≤ H1.size → (∀ q : Nat, q < H.size → ¬ A1 q → H1[q]? = H[q]?) → va_S A0 H0 H1 locs1 → W p l e R s m args below meth c H1 locs1 (cells + mc) (slots + ms) Q (F0 m (pc + 5) ls (.int r :: rest))) : W p l e R s m args below meth c H locs cells slots Q (F0 m pc ls st0) := by
  intro T hT X
  rcases hr T hT X with ⟨v, st₀, t, T', L, h0, X', hL, e1, e2, ⟨⟨r, u, hv, hp, hb⟩, hF⟩, st⟩ | ⟨q, st₀, t, T', L, E, ce, h0, X', hL, e1, e2, ⟨u, hp, hb, hF⟩, hce, hcv, hcl, st⟩
  · cases hv
    obtain ⟨k1, k2, k3⟩ := vx_keep h0 e1 hS hA hf hL hF
    obtain ⟨t2, a1, b1⟩ := kk r u t T'.heap (locs ++ L) e1.symm (by rw [← e2]; exact X'.warmed.alike) hp hb k1 k2 k3 T' rfl X'
    exact ⟨t2, st t2 a1, b1⟩
  · obtain ⟨k1, k2, k3⟩ := vx_keep h0 e1 hS hAX hf hL hF
    obtain ⟨t2, a1, b1⟩ := kx E ce q u t T'.heap (locs ++ L) e1.symm (by rw [← e2]; exact X'.warmed.alike) hp hb k1 k2 k3 (by rw [e1]; exact hce) hcv hcl T' rfl X'
    exact ⟨t2, st.trans a1, b1⟩
theorem vx_callFl {S SX : Type} {post : Int64 → S → Prop} {px : SX → Prop} {B : S → State → Prop} {BX : String → SX → State → Prop} {AX : Nat → Prop} (hr : vx_Run5 p l e R s m args below meth c H locs cells slots mc ms (F0 m pc ls st0) rest (va_Ql post B A1 a) (vx_X px BX AX) free) (hS : va_S A0 H0 H locs) (hA : ∀ q, q < H.size → A1 q → A0 q) (hf : ∀ q, free q → A0 q) (hAX : ∀ q, q < H.size → AX q → A0 q)
    (kx : ∀ (E : String) (ce : Cell) (q9 : Addr) (u : SX) (t : State) (H1 : Heap) (locs1 : List Loc), t.heap = H1 → s.vm.Alike t.vm → px u → BX E u t → H.size ≤ H1.size → (∀ q : Nat, q < H.size → ¬ AX q → H1[q]? = H[q]?) → va_S A0 H0 H1 locs1 → H1[q9]? = some ce → ce.vm = .none → s.vm.findClass E = some ce.cls → vx_W p l e R s m args below meth c H1 locs1 (cells + mc) (slots + ms) Q (F0 m pc ls rest) q9)
    (kk : ∀ (r : Int64) (u : S) (t : State) (H1 : Heap) (locs1 : List Loc), t.heap = H1 → s.vm.Alike t.vm → post r u → B u t → H.size ≤ H1.size → (∀ q : Nat, q < H.size → ¬ A1 q → H1[q]? = H[q]?) → va_S A0 H0 H1 locs1 → W p l e R s m args below meth c H1 locs1 (cells + mc) (slots + ms) Q (F0 m (pc + 5) ls (.long r :: rest))) : W p l e R s m args below meth c H locs cells slots Q (F0 m pc ls st0) := by
  intro T hT X
  rcases hr T hT X with ⟨v, st₀, t, T', L, h0, X', hL, e1, e2, ⟨⟨r, u, hv, hp, hb⟩, hF⟩, st⟩ | ⟨q, st₀, t, T', L, E, ce, h0, X', hL, e1, e2, ⟨u, hp, hb, hF⟩, hce, hcv, hcl, st⟩
  · cases hv
    obtain ⟨k1, k2, k3⟩ := vx_keep h0 e1 hS hA hf hL hF
    obtain ⟨t2, a1, b1⟩ := kk r u t T'.heap (locs ++ L) e1.symm (by rw [← e2]; exact X'.warmed.alike) hp hb k1 k2 k3 T' rfl X'
    exact ⟨t2, st t2 a1, b1⟩
  · obtain ⟨k1, k2, k3⟩ := vx_keep h0 e1 hS hAX hf hL hF
    obtain ⟨t2, a1, b1⟩ := kx E ce q u t T'.heap (locs ++ L) e1.symm (by rw [← e2]; exact X'.warmed.alike) hp hb k1 k2 k3 (by rw [e1]; exact hce) hcv hcl T' rfl X'
    exact ⟨t2, st.trans a1, b1⟩
theorem vx_callFf {S SX : Type} {post : UInt32 → S → Prop} {px : SX → Prop} {B : S → State → Prop} {BX : String → SX → State → Prop} {AX : Nat → Prop} (hr : vx_Run5 p l e R s m args below meth c H locs cells slots mc ms (F0 m pc ls st0) rest (va_Qf post B A1 a) (vx_X px BX AX) free) (hS : va_S A0 H0 H locs) (hA : ∀ q, q < H.size → A1 q → A0 q) (hf : ∀ q, free q → A0 q) (hAX : ∀ q, q < H.size → AX q → A0 q)
    (kx : ∀ (E : String) (ce : Cell) (q9 : Addr) (u : SX) (t : State) (H1 : Heap) (locs1 : List Loc), t.heap = H1 → s.vm.Alike t.vm → px u → BX E u t → H.size ≤ H1.size → (∀ q : Nat, q < H.size → ¬ AX q → H1[q]? = H[q]?) → va_S A0 H0 H1 locs1 → H1[q9]? = some ce → ce.vm = .none → s.vm.findClass E = some ce.cls → vx_W p l e R s m args below meth c H1 locs1 (cells + mc) (slots + ms) Q (F0 m pc ls rest) q9)
    (kk : ∀ (r : UInt32) (u : S) (t : State) (H1 : Heap) (locs1 : List Loc), t.heap = H1 → s.vm.Alike t.vm → post r u → B u t → H.size ≤ H1.size → (∀ q : Nat, q < H.size → ¬ A1 q → H1[q]? = H[q]?) → va_S A0 H0 H1 locs1 → W p l e R s m args below meth c H1 locs1 (cells + mc) (slots + ms) Q (F0 m (pc + 5) ls (.float r :: rest))) : W p l e R s m args below meth c H locs cells slots Q (F0 m pc ls st0) := by
  intro T hT X
  rcases hr T hT X with ⟨v, st₀, t, T', L, h0, X', hL, e1, e2, ⟨⟨r, u, hv, hp, hb⟩, hF⟩, st⟩ | ⟨q, st₀, t, T', L, E, ce, h0, X', hL, e1, e2, ⟨u, hp, hb, hF⟩, hce, hcv, hcl, st⟩
  · cases hv
    obtain ⟨k1, k2, k3⟩ := vx_keep h0 e1 hS hA hf hL hF
    obtain ⟨t2, a1, b1⟩ := kk r u t T'.heap (locs ++ L) e1.symm (by rw [← e2]; exact X'.warmed.alike) hp hb k1 k2 k3 T' rfl X'
    exact ⟨t2, st t2 a1, b1⟩
  · obtain ⟨k1, k2, k3⟩ := vx_keep h0 e1 hS hAX hf hL hF
    obtain ⟨t2, a1, b1⟩ := kx E ce q u t T'.heap (locs ++ L) e1.symm (by rw [← e2]; exact X'.warmed.alike) hp hb k1 k2 k3 (by rw [e1]; exact hce) hcv hcl T' rfl X'
    exact ⟨t2, st.trans a1, b1⟩
theorem vx_callFd {S SX : Type} {post : UInt64 → S → Prop} {px : SX → Prop} {B : S → State → Prop} {BX : String → SX → State → Prop} {AX : Nat → Prop} (hr : vx_Run5 p l e R s m args below meth c H locs cells slots mc ms (F0 m pc ls st0) rest (va_Qd post B A1 a) (vx_X px BX AX) free) (hS : va_S A0 H0 H locs) (hA : ∀ q, q < H.size → A1 q → A0 q) (hf : ∀ q, free q → A0 q) (hAX : ∀ q, q < H.size → AX q → A0 q)
    (kx : ∀ (E : String) (ce : Cell) (q9 : Addr) (u : SX) (t : State) (H1 : Heap) (locs1 : List Loc), t.heap = H1 → s.vm.Alike t.vm → px u → BX E u t → H.size ≤ H1.size → (∀ q : Nat, q < H.size → ¬ AX q → H1[q]? = H[q]?) → va_S A0 H0 H1 locs1 → H1[q9]? = some ce → ce.vm = .none → s.vm.findClass E = some ce.cls → vx_W p l e R s m args below meth c H1 locs1 (cells + mc) (slots + ms) Q (F0 m pc ls rest) q9)
    (kk : ∀ (r : UInt64) (u : S) (t : State) (H1 : Heap) (locs1 : List Loc), t.heap = H1 → s.vm.Alike t.vm → post r u → B u t → H.size ≤ H1.size → (∀ q : Nat, q < H.size → ¬ A1 q → H1[q]? = H[q]?) → va_S A0 H0 H1 locs1 → W p l e R s m args below meth c H1 locs1 (cells + mc) (slots + ms) Q (F0 m (pc + 5) ls (.double r :: rest))) : W p l e R s m args below meth c H locs cells slots Q (F0 m pc ls st0) := by
  intro T hT X
  rcases hr T hT X with ⟨v, st₀, t, T', L, h0, X', hL, e1, e2, ⟨⟨r, u, hv, hp, hb⟩, hF⟩, st⟩ | ⟨q, st₀, t, T', L, E, ce, h0, X', hL, e1, e2, ⟨u, hp, hb, hF⟩, hce, hcv, hcl, st⟩
  · cases hv
    obtain ⟨k1, k2, k3⟩ := vx_keep h0 e1 hS hA hf hL hF
    obtain ⟨t2, a1, b1⟩ := kk r u t T'.heap (locs ++ L) e1.symm (by rw [← e2]; exact X'.warmed.alike) hp hb k1 k2 k3 T' rfl X'
    exact ⟨t2, st t2 a1, b1⟩
  · obtain ⟨k1, k2, k3⟩ := vx_keep h0 e1 hS hAX hf hL hF
    obtain ⟨t2, a1, b1⟩ := kx E ce q u t T'.heap (locs ++ L) e1.symm (by rw [← e2]; exact X'.warmed.alike) hp hb k1 k2 k3 (by rw [e1]; exact hce) hcv hcl T' rfl X'
    exact ⟨t2, st.trans a1, b1⟩
end
/-! ===== END ===== -/
/-! ===== BEGIN by an interface, a method with a table of its own that may throw (follows va_callIFW, va_runFW) ===== -/
section
variable {p : Program} {l : Launch} {e : Env} {R : Room} {s : State} {m : MethodId} {args : Array Value} {below : List Frame} {meth : Method} {c : Code} {H : Heap} {locs : List Loc} {cells slots : Nat}
theorem vx_callIFW {T : State} (X : Stand p l e R s m args below meth c T locs cells slots) (hexec : p.tables.exec = Jvm.exec) {own C : String} {index count : Nat} {x y : MethodName} {bytes : ByteArray} {maxL : Nat} {ret : Option FieldType} {hh : List (Nat × Nat × Nat × Nat)}
    (hown : s.vm.findClass own = some m.cls) (hlink : (Cond.methodLink own index x).before args s = true) (hdecl : (Cond.declares x).before args s = true) (hface : (Cond.interfaceMethod x.cls x.cls x.name x.desc).before args s = true)
    (hsel : (Cond.selects C x y).before args s = true) (hinst : (Cond.instanceMethod y).before args s = true) (hpub : (Cond.publicMethod y).before args s = true) (hunh : (Cond.unhidden C x.name x.desc).before args s = true)
    (hcast : (Cond.castable C x.cls).before args s = true) (hcode : (Cond.codeWith y bytes maxL ret hh).before args s = true) (hx : x.cls ≠ "java/lang/invoke/MethodHandle" ∧ x.cls ≠ "java/lang/invoke/VarHandle")
    {W : Nat} {Pre : Pt → Array Value → Prop} {Post : Pt → Array Value → Option Value → Pt → Prop} {PostX : Pt → Array Value → Addr → Pt → Prop} (hK : vx_Back l R p e below s args y 5 W Pre Post PostX)
    {b : Addr} {cellB : Cell} {kB : Class} (hcell : T.heap[b]? = some cellB) (hobj : cellB.vm.isStatics = false) (hcls : s.vm.findClass C = some cellB.cls) (hkB : s.vm.classes[cellB.cls]? = some kB)
    {g : JFrame} (hg : g.method = m) (hsize : g.locals.size = c.maxLocals) {argsL rest : List Value} (hlen : ∀ sig, parseMethodDescriptor x.desc = some sig → argsL.length = sig.parameters.length)
    (hstack : g.stack = argsL.reverse ++ .ref b :: rest) (hW : 2 * g.monitorRoom + (rest.map fun v => v.category).sum ≤ W) (hdg : decode c.code g.pc = .ok (.invokeinterface index count, 5))
    (hpre : ∀ vm₁, s.WarmedH vm₁ → Pre ⟨T.setVm vm₁, locs, cells, slots⟩ (Value.ref b :: argsL).toArray) :
    (∃ (v : Option Value) (vm₁ : Vm) (B : Pt), s.WarmedH vm₁ ∧ Stand p l e R s m args below meth c B.U B.locs B.cells B.slots ∧ Post ⟨T.setVm vm₁, locs, cells, slots⟩ (Value.ref b :: argsL).toArray v B ∧
      ∀ target, Steps p.tables e below (B.U.setTop { g with pc := g.pc + 5, stack := v.toList ++ rest }) target → Steps p.tables e below (T.setTop g) target) ∨
    (∃ (q : Addr) (vm₁ : Vm) (B : Pt), s.WarmedH vm₁ ∧ Stand p l e R s m args below meth c B.U B.locs B.cells B.slots ∧ PostX ⟨T.setVm vm₁, locs, cells, slots⟩ (Value.ref b :: argsL).toArray q B ∧
      Steps p.tables e below (T.setTop g) ((B.U.setTop { g with stack := rest }).pushFrame (.throwing q))) := by
  obtain ⟨r0, r, hn, hrm, hstR, hsigR⟩ := Cond.declares_spec hdecl
  obtain ⟨cL, kL, r1, hcL, hkL, hiL, hfoundL, hn1⟩ := Cond.interfaceMethod_spec hface
  cases hn.symm.trans hn1
  have hr0cls : r0.cls = cL := Option.some.inj ((findClass_of_methodNamed hn).symm.trans hcL)
  obtain ⟨hnameR, hdescR⟩ := name_of_methodNamed hn hrm
  obtain ⟨mk, methM, hnamed, hmethM, -, habM⟩ := Cond.instanceMethod_spec hinst
  obtain ⟨c2, r2, m2, q1, q2, q3, q4, -⟩ := Cond.selects_spec hsel
  cases hcls.symm.trans q1
  cases hfoundL.symm.trans q2
  cases hnamed.symm.trans q3
  have hselP : selectMethod e.platform s.vm cellB.cls r0 = .method mk := by rw [Launch.admits_selectMethod X.admits]; exact q4
  have hpubM : hasFlag methM.accessFlags Acc.public_ = true := Cond.publicMethod_spec hnamed hmethM hpub
  have hway : ((cellB.cls :: s.vm.superclasses cellB.cls).any fun k => (declaredIn s.vm r.name r.desc k).any fun (_, z) => z.isPrivate || z.isStatic) = false := by
    rw [hnameR, hdescR]; exact Cond.unhidden_spec hcls hunh
  obtain ⟨c3, t3, w1, w2, w3⟩ := Cond.castable_spec hcast
  cases hcls.symm.trans w1
  cases hcL.symm.trans w2
  obtain ⟨vm₁, X₁, hstep₁⟩ := X.invokeinterface hexec hown hlink hn hrm hstR (by rw [hr0cls]; exact hkL) hiL hx (a := b) (cell := cellB) (kcell := kB) hcell
    (fun z h => by rw [h] at hobj; cases hobj) hkB (by rw [hr0cls]; exact w3) hselP hmethM hway hpubM habM (g := g) hg (argsL := argsL) (rest := rest) (hlen _ hsigR) hstack hdg
  rcases hK m meth c ⟨T.setVm vm₁, locs, cells, slots⟩ { g with stack := rest } (.invokeinterface index count) mk (Value.ref b :: argsL).toArray X₁ hg hsize hdg hW (X₁.named hnamed) (hpre vm₁ X₁.warmed) with ⟨v, B, X', hpost, hsteps⟩ | ⟨q, B, X', hpost, hsteps⟩
  · exact Or.inl ⟨v, vm₁, B, X₁.warmed, X', hpost, fun target h => hstep₁ _ fun acts => by rw [doInvoke_state]; exact hsteps.trans h⟩
  · exact Or.inr ⟨q, vm₁, B, X₁.warmed, X', hpost, hstep₁ _ fun acts => by rw [doInvoke_state]; exact hsteps⟩
theorem vx_runFW {x y : MethodName} {bytes cc : ByteArray} {maxL nL mc ms n index count : Nat} {ret : Option FieldType} {hh : List (Nat × Nat × Nat × Nat)} {ws : List Cond} {rm : Room} {Pc : Array Value → State → Prop} {Qc : Array Value → State → Outcome → State → Prop} {XC : String → State → State → Prop} {free : Addr → Prop} {Ts : List Cond} {own C : String} {cC : ClassId} {b : Addr} {As rest : List Value} {g : JFrame}
    (hat : ClassAt s C cC) (S : CallFix p m c cc nL s args Ts own) (hM : vx_Met l y ws rm Pc Qc XC mc ms free) (cw : va_CIW R s args own C index x y bytes maxL ret hh ws rm mc ms n) (hp : PreV s H C b Pc As)
    (hg : g.method = m) (hn : As.length = n) (hsize : g.locals.size = nL) (hstack : g.stack = As.reverse ++ .ref b :: rest) (hW : 2 * g.monitorRoom + (rest.map fun v => v.category).sum ≤ 8) (hdg : decode cc g.pc = .ok (.invokeinterface index count, 5)) (hf : cells + mc ≤ R.cells ∧ slots + ms ≤ R.slots) :
    vx_Run5 p l e R s m args below meth c H locs cells slots mc ms g rest (Qc (Value.ref b :: As).toArray) XC free := by
  obtain ⟨hrc, hrs, hfr, hlo, hws, hcw⟩ := cw.back
  have hini := cw.init
  have hK : vx_Back l R p e below s args y 5 8 (PreOf R mc ms Pc) (PostOf Qc mc ms free) (vx_Post XC mc ms free) := vx_backW (hh := hh) (bytes := bytes) (maxL := maxL) (ret := ret) hM hp.1 hrc hrs hfr hlo hws hcw (fun a' U hW => word_at hW (Or.inl (by first | rfl | simp [Cond.onTables, Cond.keeps, Cond.steady])) hini)
  obtain ⟨hx, hb, hml, ho, -⟩ := S
  obtain ⟨-, ⟨cellB, hcB, hoB, hclB⟩, hPc⟩ := hp
  obtain ⟨hfc, kB, hkB, -⟩ := hat
  cases hfc.symm.trans hclB
  intro T hT X
  rcases vx_callIFW X hx (C := C) (hh := hh) (bytes := bytes) (maxL := maxL) (ret := ret) ho cw.link cw.decl cw.face cw.sel cw.inst cw.pub cw.unh cw.cast cw.code cw.notMH hK (by rw [hT]; exact hcB) hoB hclB hkB hg (hsize.trans hml.symm) (argsL := As) (rest := rest) (fun sig h => hn.trans (cw.len sig h)) hstack hW (by rw [hb]; exact hdg)
    (fun vm₁ hW₁ => ⟨hf.1, hf.2, hPc (T.setVm vm₁) hT hW₁⟩) with ⟨v, vm₁, ⟨U', l2, c2, s2⟩, hW₁, X', ⟨g', mk, t, L, e1, e2, hq, h1, hL, h2, h3⟩, st⟩ | ⟨q, vm₁, ⟨U', l2, c2, s2⟩, hW₁, X', ⟨g', mk, t, L, E, ce, e1, e2, hq, hce, hcv, hcl, h1, hL, h2, h3⟩, st⟩
  · dsimp only [Pt.U, Pt.locs, Pt.cells, Pt.slots] at X' e1 e2 h1 h2 h3 st
    subst h1; subst h2; subst h3
    exact Or.inl ⟨v, (T.setVm vm₁).calling g' mk (Value.ref b :: As).toArray, t, U', L, hT, X', hL, e1, e2, hq, st⟩
  · dsimp only [Pt.U, Pt.locs, Pt.cells, Pt.slots] at X' e1 e2 h1 h2 h3 st hcl
    subst h1; subst h2; subst h3
    exact Or.inr ⟨q, (T.setVm vm₁).calling g' mk (Value.ref b :: As).toArray, t, U', L, E, ce, hT, X', hL, e1, e2, hq, hce, hcv, vx_cls hW₁ hcl, st⟩
end
/-! ===== END ===== -/
/-! ===== BEGIN .. of methods that hand back an object of the pool ===== -/
section
variable {p : Program} {l : Launch} {e : Env} {R : Room} {s : State} {m : MethodId} {args : Array Value} {below : List Frame} {meth : Method} {c : Code} {H : Heap} {locs : List Loc} {cells slots : Nat} {Q : State → Prop}
variable {mc ms : Nat} {free : Addr → Prop} {A0 A1 : Nat → Prop} {H0 : Heap} {a : Array Value} {pc : Nat} {ls : Array Slot} {st0 rest : List Value}
theorem vx_callq {S SX : Type} {post : Option Nat → S → Prop} {px : SX → Prop} {B : S → State → Prop} {BX : String → SX → State → Prop} {AX : Nat → Prop} (hr : vx_Run p l e R s m args below meth c H locs cells slots mc ms (F0 m pc ls st0) rest (va_Qq post B A1 a) (vx_X px BX AX) free) (hS : va_S A0 H0 H locs) (hA : ∀ q, q < H.size → A1 q → A0 q) (hf : ∀ q, free q → A0 q) (hAX : ∀ q, q < H.size → AX q → A0 q)
    (kx : ∀ (E : String) (ce : Cell) (q9 : Addr) (u : SX) (t : State) (H1 : Heap) (locs1 : List Loc), t.heap = H1 → s.vm.Alike t.vm → px u → BX E u t → H.size ≤ H1.size → (∀ q : Nat, q < H.size → ¬ AX q → H1[q]? = H[q]?) → va_S A0 H0 H1 locs1 → H1[q9]? = some ce → ce.vm = .none → s.vm.findClass E = some ce.cls → vx_W p l e R s m args below meth c H1 locs1 (cells + mc) (slots + ms) Q (F0 m pc ls rest) q9)
    (kk : ∀ (r : Option Nat) (u : S) (t : State) (H1 : Heap) (locs1 : List Loc), t.heap = H1 → s.vm.Alike t.vm → post r u → B u t → H.size ≤ H1.size → (∀ q : Nat, q < H.size → ¬ A1 q → H1[q]? = H[q]?) → va_S A0 H0 H1 locs1 → W p l e R s m args below meth c H1 locs1 (cells + mc) (slots + ms) Q (F0 m (pc + 3) ls (va_rf r :: rest))) : W p l e R s m args below meth c H locs cells slots Q (F0 m pc ls st0) := by
  intro T hT X
  rcases hr T hT X with ⟨v, st₀, t, T', L, h0, X', hL, e1, e2, ⟨⟨r, u, hv, hp, hb⟩, hF⟩, st⟩ | ⟨q, st₀, t, T', L, E, ce, h0, X', hL, e1, e2, ⟨u, hp, hb, hF⟩, hce, hcv, hcl, st⟩
  · cases hv
    obtain ⟨k1, k2, k3⟩ := vx_keep h0 e1 hS hA hf hL hF
    obtain ⟨t2, a1, b1⟩ := kk r u t T'.heap (locs ++ L) e1.symm (by rw [← e2]; exact X'.warmed.alike) hp hb k1 k2 k3 T' rfl X'
    exact ⟨t2, st t2 a1, b1⟩
  · obtain ⟨k1, k2, k3⟩ := vx_keep h0 e1 hS hAX hf hL hF
    obtain ⟨t2, a1, b1⟩ := kx E ce q u t T'.heap (locs ++ L) e1.symm (by rw [← e2]; exact X'.warmed.alike) hp hb k1 k2 k3 (by rw [e1]; exact hce) hcv hcl T' rfl X'
    exact ⟨t2, st.trans a1, b1⟩
end
/-! ===== END ===== -/
/-! ===== BEGIN .. a constant ===== -/
section
variable {p : Program} {l : Launch} {e : Env} {R : Room} {s : State} {m : MethodId} {args : Array Value} {below : List Frame} {meth : Method} {c : Code} {H : Heap} {locs : List Loc} {cells slots : Nat} {Q : State → Prop}
variable {mc ms : Nat} {free : Addr → Prop} {A0 A1 : Nat → Prop} {H0 : Heap} {a : Array Value} {pc : Nat} {ls : Array Slot} {st0 rest : List Value}
theorem vx_calle {ad : Nat → Nat} {S SX : Type} {post : Option Nat → S → Prop} {px : SX → Prop} {B : S → State → Prop} {BX : String → SX → State → Prop} {AX : Nat → Prop} (hr : vx_Run p l e R s m args below meth c H locs cells slots mc ms (F0 m pc ls st0) rest (va_Qe ad post B A1 a) (vx_X px BX AX) free) (hS : va_S A0 H0 H locs) (hA : ∀ q, q < H.size → A1 q → A0 q) (hf : ∀ q, free q → A0 q) (hAX : ∀ q, q < H.size → AX q → A0 q)
    (kx : ∀ (E : String) (ce : Cell) (q9 : Addr) (u : SX) (t : State) (H1 : Heap) (locs1 : List Loc), t.heap = H1 → s.vm.Alike t.vm → px u → BX E u t → H.size ≤ H1.size → (∀ q : Nat, q < H.size → ¬ AX q → H1[q]? = H[q]?) → va_S A0 H0 H1 locs1 → H1[q9]? = some ce → ce.vm = .none → s.vm.findClass E = some ce.cls → vx_W p l e R s m args below meth c H1 locs1 (cells + mc) (slots + ms) Q (F0 m pc ls rest) q9)
    (kk : ∀ (r : Option Nat) (u : S) (t : State) (H1 : Heap) (locs1 : List Loc), t.heap = H1 → s.vm.Alike t.vm → post r u → B u t → H.size ≤ H1.size → (∀ q : Nat, q < H.size → ¬ A1 q → H1[q]? = H[q]?) → va_S A0 H0 H1 locs1 → W p l e R s m args below meth c H1 locs1 (cells + mc) (slots + ms) Q (F0 m (pc + 3) ls (va_re ad r :: rest))) : W p l e R s m args below meth c H locs cells slots Q (F0 m pc ls st0) := by
  intro T hT X
  rcases hr T hT X with ⟨v, st₀, t, T', L, h0, X', hL, e1, e2, ⟨⟨r, u, hv, hp, hb⟩, hF⟩, st⟩ | ⟨q, st₀, t, T', L, E, ce, h0, X', hL, e1, e2, ⟨u, hp, hb, hF⟩, hce, hcv, hcl, st⟩
  · cases hv
    obtain ⟨k1, k2, k3⟩ := vx_keep h0 e1 hS hA hf hL hF
    obtain ⟨t2, a1, b1⟩ := kk r u t T'.heap (locs ++ L) e1.symm (by rw [← e2]; exact X'.warmed.alike) hp hb k1 k2 k3 T' rfl X'
    exact ⟨t2, st t2 a1, b1⟩
  · obtain ⟨k1, k2, k3⟩ := vx_keep h0 e1 hS hAX hf hL hF
    obtain ⟨t2, a1, b1⟩ := kx E ce q u t T'.heap (locs ++ L) e1.symm (by rw [← e2]; exact X'.warmed.alike) hp hb k1 k2 k3 (by rw [e1]; exact hce) hcv hcl T' rfl X'
    exact ⟨t2, st.trans a1, b1⟩
end
/-! ===== END ===== -/
/-! ===== BEGIN .. by an interface, an object ===== -/
section
variable {p : Program} {l : Launch} {e : Env} {R : Room} {s : State} {m : MethodId} {args : Array Value} {below : List Frame} {meth : Method} {c : Code} {H : Heap} {locs : List Loc} {cells slots : Nat} {Q : State → Prop}
variable {mc ms : Nat} {free : Addr → Prop} {A0 A1 : Nat → Prop} {H0 : Heap} {a : Array Value} {pc : Nat} {ls : Array Slot} {st0 rest : List Value}
theorem vx_callFq {S SX : Type} {post : Option Nat → S → Prop} {px : SX → Prop} {B : S → State → Prop} {BX : String → SX → State → Prop} {AX : Nat → Prop} (hr : vx_Run5 p l e R s m args below meth c H locs cells slots mc ms (F0 m pc ls st0) rest (va_Qq post B A1 a) (vx_X px BX AX) free) (hS : va_S A0 H0 H locs) (hA : ∀ q, q < H.size → A1 q → A0 q) (hf : ∀ q, free q → A0 q) (hAX : ∀ q, q < H.size → AX q → A0 q)
    (kx : ∀ (E : String) (ce : Cell) (q9 : Addr) (u : SX) (t : State) (H1 : Heap) (locs1 : List Loc), t.heap = H1 → s.vm.Alike t.vm → px u → BX E u t → H.size ≤ H1.size → (∀ q : Nat, q < H.size → ¬ AX q → H1[q]? = H[q]?) → va_S A0 H0 H1 locs1 → H1[q9]? = some ce → ce.vm = .none → s.vm.findClass E = some ce.cls → vx_W p l e R s m args below meth c H1 locs1 (cells + mc) (slots + ms) Q (F0 m pc ls rest) q9)
    (kk : ∀ (r : Option Nat) (u : S) (t : State) (H1 : Heap) (locs1 : List Loc), t.heap = H1 → s.vm.Alike t.vm → post r u → B u t → H.size ≤ H1.size → (∀ q : Nat, q < H.size → ¬ A1 q → H1[q]? = H[q]?) → va_S A0 H0 H1 locs1 → W p l e R s m args below meth c H1 locs1 (cells + mc) (slots + ms) Q (F0 m (pc + 5) ls (va_rf r :: rest))) : W p l e R s m args below meth c H locs cells slots Q (F0 m pc ls st0) := by
  intro T hT X
  rcases hr T hT X with ⟨v, st₀, t, T', L, h0, X', hL, e1, e2, ⟨⟨r, u, hv, hp, hb⟩, hF⟩, st⟩ | ⟨q, st₀, t, T', L, E, ce, h0, X', hL, e1, e2, ⟨u, hp, hb, hF⟩, hce, hcv, hcl, st⟩
  · cases hv
    obtain ⟨k1, k2, k3⟩ := vx_keep h0 e1 hS hA hf hL hF
    obtain ⟨t2, a1, b1⟩ := kk r u t T'.heap (locs ++ L) e1.symm (by rw [← e2]; exact X'.warmed.alike) hp hb k1 k2 k3 T' rfl X'
    exact ⟨t2, st t2 a1, b1⟩
  · obtain ⟨k1, k2, k3⟩ := vx_keep h0 e1 hS hAX hf hL hF
    obtain ⟨t2, a1, b1⟩ := kx E ce q u t T'.heap (locs ++ L) e1.symm (by rw [← e2]; exact X'.warmed.alike) hp hb k1 k2 k3 (by rw [e1]; exact hce) hcv hcl T' rfl X'
    exact ⟨t2, st.trans a1, b1⟩
end
/-! ===== END ===== -/
/-! ===== BEGIN .. by an interface, a constant ===== -/
section
variable {p : Program} {l : Launch} {e : Env} {R : Room} {s : State} {m : MethodId} {args : Array Value} {below : List Frame} {meth : Method} {c : Code} {H : Heap} {locs : List Loc} {cells slots : Nat} {Q : State → Prop}
variable {mc ms : Nat} {free : Addr → Prop} {A0 A1 : Nat → Prop} {H0 : Heap} {a : Array Value} {pc : Nat} {ls : Array Slot} {st0 rest : List Value}
theorem vx_callFe {ad : Nat → Nat} {S SX : Type} {post : Option Nat → S → Prop} {px : SX → Prop} {B : S → State → Prop} {BX : String → SX → State → Prop} {AX : Nat → Prop} (hr : vx_Run5 p l e R s m args below meth c H locs cells slots mc ms (F0 m pc ls st0) rest (va_Qe ad post B A1 a) (vx_X px BX AX) free) (hS : va_S A0 H0 H locs) (hA : ∀ q, q < H.size → A1 q → A0 q) (hf : ∀ q, free q → A0 q) (hAX : ∀ q, q < H.size → AX q → A0 q)
    (kx : ∀ (E : String) (ce : Cell) (q9 : Addr) (u : SX) (t : State) (H1 : Heap) (locs1 : List Loc), t.heap = H1 → s.vm.Alike t.vm → px u → BX E u t → H.size ≤ H1.size → (∀ q : Nat, q < H.size → ¬ AX q → H1[q]? = H[q]?) → va_S A0 H0 H1 locs1 → H1[q9]? = some ce → ce.vm = .none → s.vm.findClass E = some ce.cls → vx_W p l e R s m args below meth c H1 locs1 (cells + mc) (slots + ms) Q (F0 m pc ls rest) q9)
    (kk : ∀ (r : Option Nat) (u : S) (t : State) (H1 : Heap) (locs1 : List Loc), t.heap = H1 → s.vm.Alike t.vm → post r u → B u t → H.size ≤ H1.size → (∀ q : Nat, q < H.size → ¬ A1 q → H1[q]? = H[q]?) → va_S A0 H0 H1 locs1 → W p l e R s m args below meth c H1 locs1 (cells + mc) (slots + ms) Q (F0 m (pc + 5) ls (va_re ad r :: rest))) : W p l e R s m args below meth c H locs cells slots Q (F0 m pc ls st0) := by
  intro T hT X
  rcases hr T hT X with ⟨v, st₀, t, T', L, h0, X', hL, e1, e2, ⟨⟨r, u, hv, hp, hb⟩, hF⟩, st⟩ | ⟨q, st₀, t, T', L, E, ce, h0, X', hL, e1, e2, ⟨u, hp, hb, hF⟩, hce, hcv, hcl, st⟩
  · cases hv
    obtain ⟨k1, k2, k3⟩ := vx_keep h0 e1 hS hA hf hL hF
    obtain ⟨t2, a1, b1⟩ := kk r u t T'.heap (locs ++ L) e1.symm (by rw [← e2]; exact X'.warmed.alike) hp hb k1 k2 k3 T' rfl X'
    exact ⟨t2, st t2 a1, b1⟩
  · obtain ⟨k1, k2, k3⟩ := vx_keep h0 e1 hS hAX hf hL hF
    obtain ⟨t2, a1, b1⟩ := kx E ce q u t T'.heap (locs ++ L) e1.symm (by rw [← e2]; exact X'.warmed.alike) hp hb k1 k2 k3 (by rw [e1]; exact hce) hcv hcl T' rfl X'
    exact ⟨t2, st.trans a1, b1⟩
end
/-! ===== END ===== -/
/-! ===== BEGIN what the machine throws by itself: null at a field, at athrow ===== -/
section VXM2
variable {p : Program} {l : Launch} {e : Env} {R : Room} {s : State} {m : MethodId} {args : Array Value} {below : List Frame} {meth : Method} {c : Code} {H : Heap} {locs : List Loc} {cells slots : Nat}
variable {Q : State → Prop} {cc : ByteArray} {pc : Nat} {ls : Array Slot} {rest : List Value}
theorem vx_getfN {D cl tys} {own ref C : String} {T : u_T} {N ci index : Nat} {Ts : List Cond} (hexec : p.tables.exec = Jvm.exec) (hb : c.code = cc) (hts : ∀ w ∈ Ts, w.before args s = true) (hin : ∀ w ∈ u_ws C T N, w ∈ Ts) (hown : s.vm.findClass own = some m.cls) (hK : va_K D cl tys s) (hc : cl[ci]? = some (C, T, N)) (k : Nat) (hk : k < N) (hlink : (Cond.fieldLink own index ref (T k).2.1 (T k).2.2.1).before args s = true) (hsame : ∀ x, s.fieldFound? (T k).1 (T k).2.1 (T k).2.2.1 = some x → s.fieldFound? ref (T k).2.1 (T k).2.2.1 = some x) (hdg : decode cc pc = .ok (.getfield index, 3)) (kk : vx_NoteN p l e R s m args below meth c H locs cells slots Q (F0 m pc ls rest)) : W p l e R s m args below meth c H locs cells slots Q (F0 m pc ls (.null :: rest)) := by
  obtain ⟨hS, hfc, kC, hkC, -⟩ := hK.1 ci _ hc
  obtain ⟨cf, kf, fi, f, hi, -⟩ := hS k hk
  intro U hU X
  obtain ⟨vm', X1, st1⟩ := X.getfieldNull hexec hown hlink (hsame _ hi) (u_facts hfc hkC (u_lays hts hin hk) hi).1 (g := F0 m pc ls (.null :: rest)) rfl (rest := rest) rfl (by rw [hb]; exact hdg)
  obtain ⟨t, st, q⟩ := kk (U.setVm vm') hU X1
  exact ⟨t, st1 t st, q⟩
theorem vx_getfNN {D cl tys} {own ref C host : String} {T : u_T} {N ci index : Nat} {Ts : List Cond} (hexec : p.tables.exec = Jvm.exec) (hb : c.code = cc) (hts : ∀ w ∈ Ts, w.before args s = true) (hin : ∀ w ∈ u_ws C T N, w ∈ Ts) (hown : s.vm.findClass own = some m.cls) (hK : va_K D cl tys s) (hc : cl[ci]? = some (C, T, N)) (k : Nat) (hk : k < N) (hlink : (Cond.fieldLinkNest own index ref (T k).2.1 (T k).2.2.1 host).before args s = true) (hsame : ∀ x, s.fieldFound? (T k).1 (T k).2.1 (T k).2.2.1 = some x → s.fieldFound? ref (T k).2.1 (T k).2.2.1 = some x) (hdg : decode cc pc = .ok (.getfield index, 3)) (kk : vx_NoteN p l e R s m args below meth c H locs cells slots Q (F0 m pc ls rest)) : W p l e R s m args below meth c H locs cells slots Q (F0 m pc ls (.null :: rest)) := by
  obtain ⟨hS, hfc, kC, hkC, -⟩ := hK.1 ci _ hc
  obtain ⟨cf, kf, fi, f, hi, -⟩ := hS k hk
  intro U hU X
  obtain ⟨vm', X1, st1⟩ := X.getfieldNullNest hexec hown hlink (hsame _ hi) (u_facts hfc hkC (u_lays hts hin hk) hi).1 (g := F0 m pc ls (.null :: rest)) rfl (rest := rest) rfl (by rw [hb]; exact hdg)
  obtain ⟨t, st, q⟩ := kk (U.setVm vm') hU X1
  exact ⟨t, st1 t st, q⟩
theorem vx_putfN {D cl tys} {own ref C : String} {T : u_T} {N ci index : Nat} {Ts : List Cond} (hexec : p.tables.exec = Jvm.exec) (hb : c.code = cc) (hts : ∀ w ∈ Ts, w.before args s = true) (hin : ∀ w ∈ u_ws C T N, w ∈ Ts) (hown : s.vm.findClass own = some m.cls) (hK : va_K D cl tys s) (hc : cl[ci]? = some (C, T, N)) (k : Nat) (hk : k < N) (hlink : (Cond.fieldLink own index ref (T k).2.1 (T k).2.2.1).before args s = true) (hsame : ∀ x, s.fieldFound? (T k).1 (T k).2.1 (T k).2.2.1 = some x → s.fieldFound? ref (T k).2.1 (T k).2.2.1 = some x) (hfin : (T k).2.2.2 = false) {v : Value} (hdg : decode cc pc = .ok (.putfield index, 3)) (kk : vx_NoteN p l e R s m args below meth c H locs cells slots Q (F0 m pc ls rest)) : W p l e R s m args below meth c H locs cells slots Q (F0 m pc ls (v :: .null :: rest)) := by
  obtain ⟨hS, hfc, kC, hkC, -⟩ := hK.1 ci _ hc
  obtain ⟨cf, kf, fi, f, hi, -⟩ := hS k hk
  have hlay := hts _ (hin _ (u_in_lay hk))
  unfold u_lay at hlay
  rw [if_neg (by rw [hfin]; decide)] at hlay
  obtain ⟨c9, k9, cf9, kf9, fi9, f9, -, -, hi9, hst9, hnf9, -⟩ := Cond.lays_spec hlay
  cases hi.symm.trans hi9
  intro U hU X
  obtain ⟨vm', X1, st1⟩ := X.putfieldNull hexec hown hlink (hsame _ hi) hst9 hnf9 (g := F0 m pc ls (v :: .null :: rest)) rfl (v := v) (rest := rest) rfl (by rw [hb]; exact hdg)
  obtain ⟨t, st, q⟩ := kk (U.setVm vm') hU X1
  exact ⟨t, st1 t st, q⟩
theorem vx_putfNN {D cl tys} {own ref C host : String} {T : u_T} {N ci index : Nat} {Ts : List Cond} (hexec : p.tables.exec = Jvm.exec) (hb : c.code = cc) (hts : ∀ w ∈ Ts, w.before args s = true) (hin : ∀ w ∈ u_ws C T N, w ∈ Ts) (hown : s.vm.findClass own = some m.cls) (hK : va_K D cl tys s) (hc : cl[ci]? = some (C, T, N)) (k : Nat) (hk : k < N) (hlink : (Cond.fieldLinkNest own index ref (T k).2.1 (T k).2.2.1 host).before args s = true) (hsame : ∀ x, s.fieldFound? (T k).1 (T k).2.1 (T k).2.2.1 = some x → s.fieldFound? ref (T k).2.1 (T k).2.2.1 = some x) (hfin : (T k).2.2.2 = false) {v : Value} (hdg : decode cc pc = .ok (.putfield index, 3)) (kk : vx_NoteN p l e R s m args below meth c H locs cells slots Q (F0 m pc ls rest)) : W p l e R s m args below meth c H locs cells slots Q (F0 m pc ls (v :: .null :: rest)) := by
  obtain ⟨hS, hfc, kC, hkC, -⟩ := hK.1 ci _ hc
  obtain ⟨cf, kf, fi, f, hi, -⟩ := hS k hk
  have hlay := hts _ (hin _ (u_in_lay hk))
  unfold u_lay at hlay
  rw [if_neg (by rw [hfin]; decide)] at hlay
  obtain ⟨c9, k9, cf9, kf9, fi9, f9, -, -, hi9, hst9, hnf9, -⟩ := Cond.lays_spec hlay
  cases hi.symm.trans hi9
  intro U hU X
  obtain ⟨vm', X1, st1⟩ := X.putfieldNullNest hexec hown hlink (hsame _ hi) hst9 hnf9 (g := F0 m pc ls (v :: .null :: rest)) rfl (v := v) (rest := rest) rfl (by rw [hb]; exact hdg)
  obtain ⟨t, st, q⟩ := kk (U.setVm vm') hU X1
  exact ⟨t, st1 t st, q⟩
theorem vx_athrowN (hexec : p.tables.exec = Jvm.exec) (hb : c.code = cc) (hdg : decode cc pc = .ok (.athrow, 1)) (k : vx_NoteN p l e R s m args below meth c H locs cells slots Q (F0 m pc ls rest)) : W p l e R s m args below meth c H locs cells slots Q (F0 m pc ls (.null :: rest)) := by
  intro T hT X
  obtain ⟨t, st, q⟩ := k T hT X
  exact ⟨t, X.athrowNull hexec (g := F0 m pc ls (.null :: rest)) rfl (rest := rest) rfl (by rw [hb]; exact hdg) t st, q⟩
end VXM2
/-! ===== END ===== -/
end
section
def RX0 : String := "SlabCutter$Bytes"
def TX0 : u_T := fun k => match k with
  | 0 => ("SlabCutter$Bytes", "signs", "LSlabCutter$Row;", true)
  | _ => ("SlabCutter$Bytes", "length", "I", false)
def tyX0 : Nat → FieldType := fun k => match k with
  | 0 => .object "SlabCutter$Row"
  | _ => .int
abbrev wsX00 : List Cond := u_ws RX0 TX0 2
theorem nmX0 : ∀ a, a < 2 → ∀ b, b < 2 → a ≠ b → (TX0 a).2.1 ≠ (TX0 b).2.1 := by decide +kernel
theorem tyX0_ok : ∀ k, k < 2 → parseFieldDescriptor (TX0 k).2.2.1 = some (tyX0 k) := by decide +kernel
abbrev cX0_init : ByteArray := prog_2_method_1_code
def yX0_init : MethodName := ⟨RX0, "<init>", "(I)V"⟩
abbrev cX0_add : ByteArray := prog_2_method_2_code
def yX0_add : MethodName := ⟨RX0, "add", "(I)V"⟩
abbrev cX0_addFour : ByteArray := prog_2_method_3_code
def yX0_addFour : MethodName := ⟨RX0, "addFour", "(I)V"⟩
def RX1 : String := "SlabCutter$Chisel"
def TX1 : u_T := fun k => match k with
  | 0 => ("SlabCutter$Chisel", "sharp", "I", false)
  | 1 => ("SlabCutter$Chisel", "honeTime", "I", false)
  | 2 => ("SlabCutter$Chisel", "left", "I", false)
  | 3 => ("SlabCutter$Chisel", "time", "I", false)
  | _ => ("SlabCutter$Chisel", "honed", "I", false)
def tyX1 : Nat → FieldType := fun k => match k with
  | 0 => .int
  | 1 => .int
  | 2 => .int
  | 3 => .int
  | _ => .int
abbrev wsX10 : List Cond := u_ws RX1 TX1 5
theorem nmX1 : ∀ a, a < 5 → ∀ b, b < 5 → a ≠ b → (TX1 a).2.1 ≠ (TX1 b).2.1 := by decide +kernel
theorem tyX1_ok : ∀ k, k < 5 → parseFieldDescriptor (TX1 k).2.2.1 = some (tyX1 k) := by decide +kernel
abbrev cX1_init : ByteArray := prog_3_method_1_code
def yX1_init : MethodName := ⟨RX1, "<init>", "()V"⟩
abbrev cX1_renew : ByteArray := prog_3_method_2_code
def yX1_renew : MethodName := ⟨RX1, "renew", "(II)V"⟩
abbrev cX1_hone : ByteArray := prog_3_method_3_code
def yX1_hone : MethodName := ⟨RX1, "hone", "()V"⟩
abbrev cX1_cut : ByteArray := prog_3_method_4_code
def yX1_cut : MethodName := ⟨RX1, "cut", "(I)V"⟩
abbrev cX1_copy : ByteArray := prog_3_method_5_code
def yX1_copy : MethodName := ⟨RX1, "copy", "(LSlabCutter$Chisel;)V"⟩
def RX2 : String := "SlabCutter$Layout"
def TX2 : u_T := fun k => match k with
  | 0 => ("SlabCutter$Layout", "rowOf", "LSlabCutter$Row;", true)
  | 1 => ("SlabCutter$Layout", "columnOf", "LSlabCutter$Row;", true)
  | 2 => ("SlabCutter$Layout", "places", "LSlabCutter$Row;", true)
  | 3 => ("SlabCutter$Layout", "costs", "LSlabCutter$Row;", true)
  | 4 => ("SlabCutter$Layout", "laid", "I", false)
  | 5 => ("SlabCutter$Layout", "letters", "I", false)
  | 6 => ("SlabCutter$Layout", "row", "I", false)
  | _ => ("SlabCutter$Layout", "column", "I", false)
def tyX2 : Nat → FieldType := fun k => match k with
  | 0 => .object "SlabCutter$Row"
  | 1 => .object "SlabCutter$Row"
  | 2 => .object "SlabCutter$Row"
  | 3 => .object "SlabCutter$Row"
  | 4 => .int
  | 5 => .int
  | 6 => .int
  | _ => .int
abbrev wsX20 : List Cond := u_ws RX2 TX2 8
theorem nmX2 : ∀ a, a < 8 → ∀ b, b < 8 → a ≠ b → (TX2 a).2.1 ≠ (TX2 b).2.1 := by decide +kernel
theorem tyX2_ok : ∀ k, k < 8 → parseFieldDescriptor (TX2 k).2.2.1 = some (tyX2 k) := by decide +kernel
abbrev cX2_init : ByteArray := prog_4_method_1_code
def yX2_init : MethodName := ⟨RX2, "<init>", "()V"⟩
abbrev cX2_lay : ByteArray := prog_4_method_2_code
def yX2_lay : MethodName := ⟨RX2, "lay", "(LSlabCutter$Slab;)V"⟩
abbrev cX2_layWords : ByteArray := prog_4_method_3_code
def yX2_layWords : MethodName := ⟨RX2, "layWords", "(LSlabCutter$Slab;I)V"⟩
abbrev cX2_layWord : ByteArray := prog_4_method_4_code
def yX2_layWord : MethodName := ⟨RX2, "layWord", "(LSlabCutter$Slab;I)Z"⟩
abbrev cX2_cells : ByteArray := prog_4_method_5_code
def yX2_cells : MethodName := ⟨RX2, "cells", "(II)I"⟩
abbrev cX2_centre : ByteArray := prog_4_method_6_code
def yX2_centre : MethodName := ⟨RX2, "centre", "(LSlabCutter$Slab;II)V"⟩
abbrev cX2_centreRow : ByteArray := prog_4_method_7_code
def yX2_centreRow : MethodName := ⟨RX2, "centreRow", "(LSlabCutter$Slab;II)V"⟩
abbrev cX2_listLetters : ByteArray := prog_4_method_8_code
def yX2_listLetters : MethodName := ⟨RX2, "listLetters", "(LSlabCutter$Slab;)V"⟩
abbrev cX2_costsOf : ByteArray := prog_4_method_9_code
def yX2_costsOf : MethodName := ⟨RX2, "costsOf", "(II)I"⟩
abbrev cX2_wordOn : ByteArray := prog_4_method_10_code
def yX2_wordOn : MethodName := ⟨RX2, "wordOn", "(LSlabCutter$Slab;II)I"⟩
def RX3 : String := "SlabCutter$Parser"
def TX3 : u_T := fun k => match k with
  | 0 => ("SlabCutter$Parser", "tokens", "LSlabCutter$Tokens;", true)
  | 1 => ("SlabCutter$Parser", "code", "I", false)
  | 2 => ("SlabCutter$Parser", "position", "I", false)
  | 3 => ("SlabCutter$Parser", "number", "I", false)
  | 4 => ("SlabCutter$Parser", "flaws", "I", false)
  | 5 => ("SlabCutter$Parser", "gapTold", "Z", false)
  | _ => ("SlabCutter$Parser", "chiselTold", "Z", false)
def tyX3 : Nat → FieldType := fun k => match k with
  | 0 => .object "SlabCutter$Tokens"
  | 1 => .int
  | 2 => .int
  | 3 => .int
  | 4 => .int
  | 5 => .boolean
  | _ => .boolean
abbrev wsX30 : List Cond := u_ws RX3 TX3 7
theorem nmX3 : ∀ a, a < 7 → ∀ b, b < 7 → a ≠ b → (TX3 a).2.1 ≠ (TX3 b).2.1 := by decide +kernel
theorem tyX3_ok : ∀ k, k < 7 → parseFieldDescriptor (TX3 k).2.2.1 = some (tyX3 k) := by decide +kernel
abbrev cX3_init : ByteArray := prog_5_method_1_code
def yX3_init : MethodName := ⟨RX3, "<init>", "(LSlabCutter$Tokens;)V"⟩
abbrev cX3_read : ByteArray := prog_5_method_2_code
def yX3_read : MethodName := ⟨RX3, "read", "(LSlabCutter$Slab;)Z"⟩
abbrev cX3_fail : ByteArray := prog_5_method_3_code
def yX3_fail : MethodName := ⟨RX3, "fail", "(I)Z"⟩
abbrev cX3_readSize : ByteArray := prog_5_method_4_code
def yX3_readSize : MethodName := ⟨RX3, "readSize", "(LSlabCutter$Slab;)Z"⟩
abbrev cX3_readStatement : ByteArray := prog_5_method_5_code
def yX3_readStatement : MethodName := ⟨RX3, "readStatement", "(LSlabCutter$Slab;)Z"⟩
abbrev cX3_readFlaws : ByteArray := prog_5_method_6_code
def yX3_readFlaws : MethodName := ⟨RX3, "readFlaws", "(LSlabCutter$Slab;)Z"⟩
abbrev cX3_readFlaw : ByteArray := prog_5_method_7_code
def yX3_readFlaw : MethodName := ⟨RX3, "readFlaw", "(LSlabCutter$Slab;)Z"⟩
abbrev cX3_readGap : ByteArray := prog_5_method_8_code
def yX3_readGap : MethodName := ⟨RX3, "readGap", "(LSlabCutter$Slab;)Z"⟩
abbrev cX3_readChisel : ByteArray := prog_5_method_9_code
def yX3_readChisel : MethodName := ⟨RX3, "readChisel", "(LSlabCutter$Slab;)Z"⟩
abbrev cX3_readPart : ByteArray := prog_5_method_10_code
def yX3_readPart : MethodName := ⟨RX3, "readPart", "(LSlabCutter$Slab;I)Z"⟩
abbrev cX3_readWord : ByteArray := prog_5_method_11_code
def yX3_readWord : MethodName := ⟨RX3, "readWord", "(LSlabCutter$Slab;)Z"⟩
abbrev cX3_checkNumber : ByteArray := prog_5_method_12_code
def yX3_checkNumber : MethodName := ⟨RX3, "checkNumber", "(II)Z"⟩
abbrev cX3_readNumber : ByteArray := prog_5_method_13_code
def yX3_readNumber : MethodName := ⟨RX3, "readNumber", "(II)Z"⟩
abbrev cX3_readEnd : ByteArray := prog_5_method_14_code
def yX3_readEnd : MethodName := ⟨RX3, "readEnd", "()Z"⟩
def RX4 : String := "SlabCutter$Past"
def TX4 : u_T := fun k => match k with
  | 0 => ("SlabCutter$Past", "slabs", "[LSlabCutter$Slab;", true)
  | _ => ("SlabCutter$Past", "count", "I", false)
def tyX4 : Nat → FieldType := fun k => match k with
  | 0 => .array (.object "SlabCutter$Slab")
  | _ => .int
abbrev wsX40 : List Cond := u_ws RX4 TX4 2
theorem nmX4 : ∀ a, a < 2 → ∀ b, b < 2 → a ≠ b → (TX4 a).2.1 ≠ (TX4 b).2.1 := by decide +kernel
theorem tyX4_ok : ∀ k, k < 2 → parseFieldDescriptor (TX4 k).2.2.1 = some (tyX4 k) := by decide +kernel
abbrev cX4_init : ByteArray := prog_6_method_1_code
def yX4_init : MethodName := ⟨RX4, "<init>", "()V"⟩
abbrev cX4_remember : ByteArray := prog_6_method_2_code
def yX4_remember : MethodName := ⟨RX4, "remember", "(LSlabCutter$Slab;)V"⟩
abbrev cX4_oldestToEnd : ByteArray := prog_6_method_3_code
def yX4_oldestToEnd : MethodName := ⟨RX4, "oldestToEnd", "()V"⟩
def RX5 : String := "SlabCutter$Row"
def TX5 : u_T := fun k => match k with
  | _ => ("SlabCutter$Row", "values", "[I", true)
def tyX5 : Nat → FieldType := fun k => match k with
  | _ => .array .int
abbrev wsX50 : List Cond := u_ws RX5 TX5 1
theorem nmX5 : ∀ a, a < 1 → ∀ b, b < 1 → a ≠ b → (TX5 a).2.1 ≠ (TX5 b).2.1 := by decide +kernel
theorem tyX5_ok : ∀ k, k < 1 → parseFieldDescriptor (TX5 k).2.2.1 = some (tyX5 k) := by decide +kernel
abbrev cX5_init : ByteArray := prog_7_method_1_code
def yX5_init : MethodName := ⟨RX5, "<init>", "(I)V"⟩
abbrev cX5_at : ByteArray := prog_7_method_2_code
def yX5_at : MethodName := ⟨RX5, "at", "(I)I"⟩
abbrev cX5_put : ByteArray := prog_7_method_3_code
def yX5_put : MethodName := ⟨RX5, "put", "(II)V"⟩
abbrev cX5_clear : ByteArray := prog_7_method_4_code
def yX5_clear : MethodName := ⟨RX5, "clear", "()V"⟩
abbrev cX5_copy : ByteArray := prog_7_method_5_code
def yX5_copy : MethodName := ⟨RX5, "copy", "(LSlabCutter$Row;)V"⟩
def RX6 : String := "SlabCutter$Slab"
def TX6 : u_T := fun k => match k with
  | 0 => ("SlabCutter$Slab", "columns", "I", false)
  | 1 => ("SlabCutter$Slab", "rows", "I", false)
  | 2 => ("SlabCutter$Slab", "gap", "I", false)
  | 3 => ("SlabCutter$Slab", "flaws", "LSlabCutter$Row;", true)
  | 4 => ("SlabCutter$Slab", "parts", "I", false)
  | 5 => ("SlabCutter$Slab", "kinds", "LSlabCutter$Row;", true)
  | 6 => ("SlabCutter$Slab", "sizes", "LSlabCutter$Row;", true)
  | 7 => ("SlabCutter$Slab", "words", "I", false)
  | 8 => ("SlabCutter$Slab", "lengths", "LSlabCutter$Row;", true)
  | 9 => ("SlabCutter$Slab", "bytes", "LSlabCutter$Row;", true)
  | 10 => ("SlabCutter$Slab", "chisel", "LSlabCutter$Chisel;", true)
  | _ => ("SlabCutter$Slab", "carved", "I", false)
def tyX6 : Nat → FieldType := fun k => match k with
  | 0 => .int
  | 1 => .int
  | 2 => .int
  | 3 => .object "SlabCutter$Row"
  | 4 => .int
  | 5 => .object "SlabCutter$Row"
  | 6 => .object "SlabCutter$Row"
  | 7 => .int
  | 8 => .object "SlabCutter$Row"
  | 9 => .object "SlabCutter$Row"
  | 10 => .object "SlabCutter$Chisel"
  | _ => .int
abbrev wsX60 : List Cond := u_ws RX6 TX6 12
theorem nmX6 : ∀ a, a < 12 → ∀ b, b < 12 → a ≠ b → (TX6 a).2.1 ≠ (TX6 b).2.1 := by decide +kernel
theorem tyX6_ok : ∀ k, k < 12 → parseFieldDescriptor (TX6 k).2.2.1 = some (tyX6 k) := by decide +kernel
abbrev cX6_init : ByteArray := prog_8_method_1_code
def yX6_init : MethodName := ⟨RX6, "<init>", "()V"⟩
abbrev cX6_begin : ByteArray := prog_8_method_2_code
def yX6_begin : MethodName := ⟨RX6, "begin", "(II)V"⟩
abbrev cX6_copy : ByteArray := prog_8_method_3_code
def yX6_copy : MethodName := ⟨RX6, "copy", "(LSlabCutter$Slab;)V"⟩
abbrev cX6_flawed : ByteArray := prog_8_method_4_code
def yX6_flawed : MethodName := ⟨RX6, "flawed", "(II)Z"⟩
abbrev cX6_mark : ByteArray := prog_8_method_5_code
def yX6_mark : MethodName := ⟨RX6, "mark", "(IIZ)V"⟩
abbrev cX6_flawCount : ByteArray := prog_8_method_6_code
def yX6_flawCount : MethodName := ⟨RX6, "flawCount", "()I"⟩
abbrev cX6_touched : ByteArray := prog_8_method_7_code
def yX6_touched : MethodName := ⟨RX6, "touched", "(II)Z"⟩
abbrev cX6_turnFlaws : ByteArray := prog_8_method_8_code
def yX6_turnFlaws : MethodName := ⟨RX6, "turnFlaws", "(LSlabCutter$Slab;)V"⟩
abbrev cX6_cutFlaws : ByteArray := prog_8_method_9_code
def yX6_cutFlaws : MethodName := ⟨RX6, "cutFlaws", "(IZ)V"⟩
abbrev cX6_clearParts : ByteArray := prog_8_method_10_code
def yX6_clearParts : MethodName := ⟨RX6, "clearParts", "()V"⟩
abbrev cX6_openPart : ByteArray := prog_8_method_11_code
def yX6_openPart : MethodName := ⟨RX6, "openPart", "(I)V"⟩
abbrev cX6_takeWord : ByteArray := prog_8_method_12_code
def yX6_takeWord : MethodName := ⟨RX6, "takeWord", "(LSlabCutter$Row;II)V"⟩
abbrev cX6_takePart : ByteArray := prog_8_method_13_code
def yX6_takePart : MethodName := ⟨RX6, "takePart", "(LSlabCutter$Slab;I)V"⟩
abbrev cX6_byteOf : ByteArray := prog_8_method_14_code
def yX6_byteOf : MethodName := ⟨RX6, "byteOf", "(II)I"⟩
abbrev cX6_sameWord : ByteArray := prog_8_method_15_code
def yX6_sameWord : MethodName := ⟨RX6, "sameWord", "(LSlabCutter$Slab;I)Z"⟩
abbrev cX6_firstOf : ByteArray := prog_8_method_16_code
def yX6_firstOf : MethodName := ⟨RX6, "firstOf", "(I)I"⟩
abbrev cX6_partOf : ByteArray := prog_8_method_17_code
def yX6_partOf : MethodName := ⟨RX6, "partOf", "(I)I"⟩
abbrev cX6_lettersAhead : ByteArray := prog_8_method_18_code
def yX6_lettersAhead : MethodName := ⟨RX6, "lettersAhead", "(I)I"⟩
abbrev cX6_strokesOn : ByteArray := prog_8_method_19_code
def yX6_strokesOn : MethodName := ⟨RX6, "strokesOn", "(III)I"⟩
def RX7 : String := "SlabCutter$Tokens"
def TX7 : u_T := fun k => match k with
  | 0 => ("SlabCutter$Tokens", "text", "LSlabCutter$Bytes;", true)
  | 1 => ("SlabCutter$Tokens", "kind", "I", false)
  | 2 => ("SlabCutter$Tokens", "start", "I", false)
  | _ => ("SlabCutter$Tokens", "length", "I", false)
def tyX7 : Nat → FieldType := fun k => match k with
  | 0 => .object "SlabCutter$Bytes"
  | 1 => .int
  | 2 => .int
  | _ => .int
abbrev wsX70 : List Cond := u_ws RX7 TX7 4
theorem nmX7 : ∀ a, a < 4 → ∀ b, b < 4 → a ≠ b → (TX7 a).2.1 ≠ (TX7 b).2.1 := by decide +kernel
theorem tyX7_ok : ∀ k, k < 4 → parseFieldDescriptor (TX7 k).2.2.1 = some (tyX7 k) := by decide +kernel
abbrev cX7_init : ByteArray := prog_9_method_1_code
def yX7_init : MethodName := ⟨RX7, "<init>", "(LSlabCutter$Bytes;)V"⟩
abbrev cX7_restart : ByteArray := prog_9_method_2_code
def yX7_restart : MethodName := ⟨RX7, "restart", "()V"⟩
abbrev cX7_step : ByteArray := prog_9_method_3_code
def yX7_step : MethodName := ⟨RX7, "step", "()V"⟩
abbrev cX7_kindOf : ByteArray := prog_9_method_4_code
def yX7_kindOf : MethodName := ⟨RX7, "kindOf", "(I)I"⟩
abbrev cX7_says : ByteArray := prog_9_method_5_code
def yX7_says : MethodName := ⟨RX7, "says", "(Ljava/lang/String;)Z"⟩
abbrev cX7_isPlainWord : ByteArray := prog_9_method_6_code
def yX7_isPlainWord : MethodName := ⟨RX7, "isPlainWord", "()Z"⟩
abbrev cX7_value : ByteArray := prog_9_method_7_code
def yX7_value : MethodName := ⟨RX7, "value", "()I"⟩
def RX8 : String := "SlabCutter"
def TX8 : u_T := fun k => match k with
  | 0 => ("SlabCutter", "input", "LSlabCutter$Bytes;", true)
  | 1 => ("SlabCutter", "output", "LSlabCutter$Bytes;", true)
  | 2 => ("SlabCutter", "tokens", "LSlabCutter$Tokens;", true)
  | 3 => ("SlabCutter", "parser", "LSlabCutter$Parser;", true)
  | 4 => ("SlabCutter", "slab", "LSlabCutter$Slab;", true)
  | 5 => ("SlabCutter", "layout", "LSlabCutter$Layout;", true)
  | 6 => ("SlabCutter", "trial", "LSlabCutter$Slab;", true)
  | 7 => ("SlabCutter", "trialLayout", "LSlabCutter$Layout;", true)
  | 8 => ("SlabCutter", "trialChisel", "LSlabCutter$Chisel;", true)
  | 9 => ("SlabCutter", "past", "LSlabCutter$Past;", true)
  | _ => ("SlabCutter", "slots", "[LSlabCutter$Slab;", true)
def tyX8 : Nat → FieldType := fun k => match k with
  | 0 => .object "SlabCutter$Bytes"
  | 1 => .object "SlabCutter$Bytes"
  | 2 => .object "SlabCutter$Tokens"
  | 3 => .object "SlabCutter$Parser"
  | 4 => .object "SlabCutter$Slab"
  | 5 => .object "SlabCutter$Layout"
  | 6 => .object "SlabCutter$Slab"
  | 7 => .object "SlabCutter$Layout"
  | 8 => .object "SlabCutter$Chisel"
  | 9 => .object "SlabCutter$Past"
  | _ => .array (.object "SlabCutter$Slab")
abbrev wsX80 : List Cond := u_ws RX8 TX8 11
theorem nmX8 : ∀ a, a < 11 → ∀ b, b < 11 → a ≠ b → (TX8 a).2.1 ≠ (TX8 b).2.1 := by decide +kernel
theorem tyX8_ok : ∀ k, k < 11 → parseFieldDescriptor (TX8 k).2.2.1 = some (tyX8 k) := by decide +kernel
abbrev cX8_init : ByteArray := prog_1_method_1_code
def yX8_init : MethodName := ⟨RX8, "<init>", "()V"⟩
abbrev cX8_append : ByteArray := prog_1_method_2_code
def yX8_append : MethodName := ⟨RX8, "append", "(IIIII)I"⟩
abbrev cX8_truncate : ByteArray := prog_1_method_3_code
def yX8_truncate : MethodName := ⟨RX8, "truncate", "(I)V"⟩
abbrev cX8_load : ByteArray := prog_1_method_4_code
def yX8_load : MethodName := ⟨RX8, "load", "()I"⟩
abbrev cX8_errorCode : ByteArray := prog_1_method_5_code
def yX8_errorCode : MethodName := ⟨RX8, "errorCode", "()I"⟩
abbrev cX8_property : ByteArray := prog_1_method_7_code
def yX8_property : MethodName := ⟨RX8, "property", "(I)I"⟩
abbrev cX8_word : ByteArray := prog_1_method_9_code
def yX8_word : MethodName := ⟨RX8, "word", "(II)I"⟩
abbrev cX8_letter : ByteArray := prog_1_method_10_code
def yX8_letter : MethodName := ⟨RX8, "letter", "(II)I"⟩
abbrev cX8_cell : ByteArray := prog_1_method_11_code
def yX8_cell : MethodName := ⟨RX8, "cell", "(II)I"⟩
abbrev cX8_wordAt : ByteArray := prog_1_method_12_code
def yX8_wordAt : MethodName := ⟨RX8, "wordAt", "(II)I"⟩
abbrev cX8_freeIn : ByteArray := prog_1_method_13_code
def yX8_freeIn : MethodName := ⟨RX8, "freeIn", "(I)I"⟩
abbrev cX8_firstMissing : ByteArray := prog_1_method_16_code
def yX8_firstMissing : MethodName := ⟨RX8, "firstMissing", "()I"⟩
abbrev cX8_strokesLeft : ByteArray := prog_1_method_17_code
def yX8_strokesLeft : MethodName := ⟨RX8, "strokesLeft", "()I"⟩
abbrev cX8_dear : ByteArray := prog_1_method_32_code
def yX8_dear : MethodName := ⟨RX8, "dear", "()I"⟩
abbrev cX8_carvedShare : ByteArray := prog_1_method_33_code
def yX8_carvedShare : MethodName := ⟨RX8, "carvedShare", "()F"⟩
abbrev cX8_meanStrokes : ByteArray := prog_1_method_34_code
def yX8_meanStrokes : MethodName := ⟨RX8, "meanStrokes", "()D"⟩
abbrev cX8_addPart : ByteArray := prog_1_method_36_code
def yX8_addPart : MethodName := ⟨RX8, "addPart", "(I)I"⟩
abbrev cX8_dropPart : ByteArray := prog_1_method_37_code
def yX8_dropPart : MethodName := ⟨RX8, "dropPart", "(I)I"⟩
abbrev cX8_movePart : ByteArray := prog_1_method_38_code
def yX8_movePart : MethodName := ⟨RX8, "movePart", "(II)I"⟩
abbrev cX8_setFlaw : ByteArray := prog_1_method_39_code
def yX8_setFlaw : MethodName := ⟨RX8, "setFlaw", "(IIZ)Z"⟩
abbrev cX8_setGap : ByteArray := prog_1_method_40_code
def yX8_setGap : MethodName := ⟨RX8, "setGap", "(I)I"⟩
abbrev cX8_turnSlab : ByteArray := prog_1_method_41_code
def yX8_turnSlab : MethodName := ⟨RX8, "turnSlab", "()I"⟩
abbrev cX8_cutRows : ByteArray := prog_1_method_42_code
def yX8_cutRows : MethodName := ⟨RX8, "cutRows", "(IZ)I"⟩
abbrev cX8_carve : ByteArray := prog_1_method_43_code
def yX8_carve : MethodName := ⟨RX8, "carve", "(I)I"⟩
abbrev cX8_sharpen : ByteArray := prog_1_method_44_code
def yX8_sharpen : MethodName := ⟨RX8, "sharpen", "()I"⟩
abbrev cX8_setChisel : ByteArray := prog_1_method_45_code
def yX8_setChisel : MethodName := ⟨RX8, "setChisel", "(II)I"⟩
abbrev cX8_needPart : ByteArray := prog_1_method_53_code
def yX8_needPart : MethodName := ⟨RX8, "needPart", "(I)V"⟩
abbrev cX8_needWord : ByteArray := prog_1_method_54_code
def yX8_needWord : MethodName := ⟨RX8, "needWord", "(I)V"⟩
abbrev cX8_needRow : ByteArray := prog_1_method_55_code
def yX8_needRow : MethodName := ⟨RX8, "needRow", "(I)V"⟩
abbrev cX8_needCell : ByteArray := prog_1_method_56_code
def yX8_needCell : MethodName := ⟨RX8, "needCell", "(II)V"⟩
abbrev cX8_needGap : ByteArray := prog_1_method_58_code
def yX8_needGap : MethodName := ⟨RX8, "needGap", "(I)V"⟩
abbrev cX8_tryWithout : ByteArray := prog_1_method_60_code
def yX8_tryWithout : MethodName := ⟨RX8, "tryWithout", "(I)V"⟩
abbrev cX8_tryMoved : ByteArray := prog_1_method_61_code
def yX8_tryMoved : MethodName := ⟨RX8, "tryMoved", "(II)V"⟩
abbrev cX8_partForPlace : ByteArray := prog_1_method_62_code
def yX8_partForPlace : MethodName := ⟨RX8, "partForPlace", "(III)I"⟩
abbrev cX8_needCarvedStay : ByteArray := prog_1_method_64_code
def yX8_needCarvedStay : MethodName := ⟨RX8, "needCarvedStay", "()V"⟩
abbrev cX8_settle : ByteArray := prog_1_method_65_code
def yX8_settle : MethodName := ⟨RX8, "settle", "()V"⟩
abbrev cX8_layAnew : ByteArray := prog_1_method_66_code
def yX8_layAnew : MethodName := ⟨RX8, "layAnew", "()V"⟩
abbrev cX8_carvedStay : ByteArray := prog_1_method_67_code
def yX8_carvedStay : MethodName := ⟨RX8, "carvedStay", "()Z"⟩
abbrev cX8_sameOnTrial : ByteArray := prog_1_method_68_code
def yX8_sameOnTrial : MethodName := ⟨RX8, "sameOnTrial", "(I)Z"⟩
abbrev cX8_takeInputWords : ByteArray := prog_1_method_69_code
def yX8_takeInputWords : MethodName := ⟨RX8, "takeInputWords", "(I)I"⟩
abbrev cX8_strokesOfWord : ByteArray := prog_1_method_70_code
def yX8_strokesOfWord : MethodName := ⟨RX8, "strokesOfWord", "(I)I"⟩
abbrev cX8_carvedOfWord : ByteArray := prog_1_method_71_code
def yX8_carvedOfWord : MethodName := ⟨RX8, "carvedOfWord", "(I)I"⟩
def RX9 : String := "SlabCutterModel"
def TX9 : u_T := fun k => match k with
  | _ => ("", "", "", false)
def tyX9 : Nat → FieldType := fun k => match k with
  | _ => .int
abbrev wsX90 : List Cond := u_ws RX9 TX9 0
theorem nmX9 : ∀ a, a < 0 → ∀ b, b < 0 → a ≠ b → (TX9 a).2.1 ≠ (TX9 b).2.1 := by decide +kernel
theorem tyX9_ok : ∀ k, k < 0 → parseFieldDescriptor (TX9 k).2.2.1 = some (tyX9 k) := by decide +kernel
def RJ5 : String := "java/lang/AbstractStringBuilder"
def TJ5 : u_T := fun k => match k with
  | _ => ("", "", "", false)
def tyJ5 : Nat → FieldType := fun k => match k with
  | _ => .int
theorem nmJ5 : ∀ a, a < 0 → ∀ b, b < 0 → a ≠ b → (TJ5 a).2.1 ≠ (TJ5 b).2.1 := by decide +kernel
theorem tyJ5_ok : ∀ k, k < 0 → parseFieldDescriptor (TJ5 k).2.2.1 = some (tyJ5 k) := by decide +kernel
abbrev cJ5_init_d00df : ByteArray := prog_12_method_2_code
def yJ5_init_d00df : MethodName := ⟨RJ5, "<init>", "(I)V"⟩
abbrev cJ5_init_a7421 : ByteArray := prog_12_method_3_code
def yJ5_init_a7421 : MethodName := ⟨RJ5, "<init>", "(Ljava/lang/String;)V"⟩
abbrev cJ5_length_8abf5 : ByteArray := prog_12_method_6_code
def yJ5_length_8abf5 : MethodName := ⟨RJ5, "length", "()I"⟩
abbrev cJ5_ensureCapacityInternal_d00df : ByteArray := prog_12_method_9_code
def yJ5_ensureCapacityInternal_d00df : MethodName := ⟨RJ5, "ensureCapacityInternal", "(I)V"⟩
abbrev cJ5_newCapacity_0f7a4 : ByteArray := prog_12_method_10_code
def yJ5_newCapacity_0f7a4 : MethodName := ⟨RJ5, "newCapacity", "(I)I"⟩
abbrev cJ5_inflate_da8c8 : ByteArray := prog_12_method_11_code
def yJ5_inflate_da8c8 : MethodName := ⟨RJ5, "inflate", "()V"⟩
abbrev cJ5_append_cf1ce : ByteArray := prog_12_method_22_code
def yJ5_append_cf1ce : MethodName := ⟨RJ5, "append", "(Ljava/lang/String;)Ljava/lang/AbstractStringBuilder;"⟩
abbrev cJ5_appendNull_278bc : ByteArray := prog_12_method_26_code
def yJ5_appendNull_278bc : MethodName := ⟨RJ5, "appendNull", "()Ljava/lang/AbstractStringBuilder;"⟩
abbrev cJ5_append_3fe6f : ByteArray := prog_12_method_31_code
def yJ5_append_3fe6f : MethodName := ⟨RJ5, "append", "(C)Ljava/lang/AbstractStringBuilder;"⟩
abbrev cJ5_append_c97b9 : ByteArray := prog_12_method_32_code
def yJ5_append_c97b9 : MethodName := ⟨RJ5, "append", "(I)Ljava/lang/AbstractStringBuilder;"⟩
abbrev cJ5_getValue_6d5f1 : ByteArray := prog_12_method_64_code
def yJ5_getValue_6d5f1 : MethodName := ⟨RJ5, "getValue", "()[B"⟩
abbrev cJ5_isLatin1_aae02 : ByteArray := prog_12_method_68_code
def yJ5_isLatin1_aae02 : MethodName := ⟨RJ5, "isLatin1", "()Z"⟩
abbrev cJ5_inflateIfNeededFor_a7421 : ByteArray := prog_12_method_71_code
def yJ5_inflateIfNeededFor_a7421 : MethodName := ⟨RJ5, "inflateIfNeededFor", "(Ljava/lang/String;)V"⟩
abbrev cJ5_putStringAt_47b60 : ByteArray := prog_12_method_73_code
def yJ5_putStringAt_47b60 : MethodName := ⟨RJ5, "putStringAt", "(ILjava/lang/String;)V"⟩
def RJ6 : String := "java/lang/Integer"
def TJ6 : u_T := fun k => match k with
  | _ => ("", "", "", false)
def tyJ6 : Nat → FieldType := fun k => match k with
  | _ => .int
theorem nmJ6 : ∀ a, a < 0 → ∀ b, b < 0 → a ≠ b → (TJ6 a).2.1 ≠ (TJ6 b).2.1 := by decide +kernel
theorem tyJ6_ok : ∀ k, k < 0 → parseFieldDescriptor (TJ6 k).2.2.1 = some (tyJ6 k) := by decide +kernel
abbrev cJ6_getChars_ba4f3 : ByteArray := prog_18_method_12_code
def yJ6_getChars_ba4f3 : MethodName := ⟨RJ6, "getChars", "(II[B)I"⟩
abbrev cJ6_stringSize_0f7a4 : ByteArray := prog_18_method_13_code
def yJ6_stringSize_0f7a4 : MethodName := ⟨RJ6, "stringSize", "(I)I"⟩
abbrev cJ6_bitCount_0f7a4 : ByteArray := prog_18_method_49_code
def yJ6_bitCount_0f7a4 : MethodName := ⟨RJ6, "bitCount", "(I)I"⟩
def RJ9 : String := "java/lang/Math"
def TJ9 : u_T := fun k => match k with
  | _ => ("", "", "", false)
def tyJ9 : Nat → FieldType := fun k => match k with
  | _ => .int
theorem nmJ9 : ∀ a, a < 0 → ∀ b, b < 0 → a ≠ b → (TJ9 a).2.1 ≠ (TJ9 b).2.1 := by decide +kernel
theorem tyJ9_ok : ∀ k, k < 0 → parseFieldDescriptor (TJ9 k).2.2.1 = some (tyJ9 k) := by decide +kernel
abbrev cJ9_max_7cf53 : ByteArray := prog_19_method_65_code
def yJ9_max_7cf53 : MethodName := ⟨RJ9, "max", "(II)I"⟩
abbrev cJ9_min_7cf53 : ByteArray := prog_19_method_69_code
def yJ9_min_7cf53 : MethodName := ⟨RJ9, "min", "(II)I"⟩
def RJ0 : String := "java/lang/String"
def TJ0 : u_T := fun k => match k with
  | 0 => ("java/lang/String", "value", "[B", true)
  | 1 => ("java/lang/String", "coder", "B", true)
  | 2 => ("java/lang/String", "hash", "I", false)
  | _ => ("java/lang/String", "hashIsZero", "Z", false)
def tyJ0 : Nat → FieldType := fun k => match k with
  | 0 => .array .byte
  | 1 => .byte
  | 2 => .int
  | _ => .boolean
theorem nmJ0 : ∀ a, a < 4 → ∀ b, b < 4 → a ≠ b → (TJ0 a).2.1 ≠ (TJ0 b).2.1 := by decide +kernel
theorem tyJ0_ok : ∀ k, k < 4 → parseFieldDescriptor (TJ0 k).2.2.1 = some (tyJ0 k) := by decide +kernel
abbrev cJ0_init_81219 : ByteArray := prog_22_method_53_code
def yJ0_init_81219 : MethodName := ⟨RJ0, "<init>", "(Ljava/lang/StringBuilder;)V"⟩
abbrev cJ0_length_8abf5 : ByteArray := prog_22_method_54_code
def yJ0_length_8abf5 : MethodName := ⟨RJ0, "length", "()I"⟩
abbrev cJ0_charAt_5068e : ByteArray := prog_22_method_56_code
def yJ0_charAt_5068e : MethodName := ⟨RJ0, "charAt", "(I)C"⟩
abbrev cJ0_getBytes_840e7 : ByteArray := prog_22_method_147_code
def yJ0_getBytes_840e7 : MethodName := ⟨RJ0, "getBytes", "([BIB)V"⟩
abbrev cJ0_init_db425 : ByteArray := prog_22_method_150_code
def yJ0_init_db425 : MethodName := ⟨RJ0, "<init>", "(Ljava/lang/AbstractStringBuilder;Ljava/lang/Void;)V"⟩
abbrev cJ0_coder_7d493 : ByteArray := prog_22_method_152_code
def yJ0_coder_7d493 : MethodName := ⟨RJ0, "coder", "()B"⟩
abbrev cJ0_isLatin1_aae02 : ByteArray := prog_22_method_154_code
def yJ0_isLatin1_aae02 : MethodName := ⟨RJ0, "isLatin1", "()Z"⟩
abbrev cJ0_checkIndex_df160 : ByteArray := prog_22_method_155_code
def yJ0_checkIndex_df160 : MethodName := ⟨RJ0, "checkIndex", "(II)V"⟩
abbrev cJ0_checkBoundsOffCount_cabcc : ByteArray := prog_22_method_157_code
def yJ0_checkBoundsOffCount_cabcc : MethodName := ⟨RJ0, "checkBoundsOffCount", "(III)I"⟩
abbrev cJ0_checkBoundsBeginEnd_23922 : ByteArray := prog_22_method_158_code
def yJ0_checkBoundsBeginEnd_23922 : MethodName := ⟨RJ0, "checkBoundsBeginEnd", "(III)V"⟩
def RJ4 : String := "java/lang/StringBuilder"
def TJ4 : u_T := fun k => match k with
  | 0 => ("java/lang/AbstractStringBuilder", "value", "[B", false)
  | 1 => ("java/lang/AbstractStringBuilder", "coder", "B", false)
  | 2 => ("java/lang/AbstractStringBuilder", "maybeLatin1", "Z", false)
  | _ => ("java/lang/AbstractStringBuilder", "count", "I", false)
def tyJ4 : Nat → FieldType := fun k => match k with
  | 0 => .array .byte
  | 1 => .byte
  | 2 => .boolean
  | _ => .int
theorem nmJ4 : ∀ a, a < 4 → ∀ b, b < 4 → a ≠ b → (TJ4 a).2.1 ≠ (TJ4 b).2.1 := by decide +kernel
theorem tyJ4_ok : ∀ k, k < 4 → parseFieldDescriptor (TJ4 k).2.2.1 = some (tyJ4 k) := by decide +kernel
abbrev cJ4_init_da8c8 : ByteArray := prog_23_method_1_code
def yJ4_init_da8c8 : MethodName := ⟨RJ4, "<init>", "()V"⟩
abbrev cJ4_init_a7421 : ByteArray := prog_23_method_3_code
def yJ4_init_a7421 : MethodName := ⟨RJ4, "<init>", "(Ljava/lang/String;)V"⟩
abbrev cJ4_append_15ec4 : ByteArray := prog_23_method_7_code
def yJ4_append_15ec4 : MethodName := ⟨RJ4, "append", "(Ljava/lang/String;)Ljava/lang/StringBuilder;"⟩
abbrev cJ4_append_cf468 : ByteArray := prog_23_method_14_code
def yJ4_append_cf468 : MethodName := ⟨RJ4, "append", "(C)Ljava/lang/StringBuilder;"⟩
abbrev cJ4_append_bf812 : ByteArray := prog_23_method_15_code
def yJ4_append_bf812 : MethodName := ⟨RJ4, "append", "(I)Ljava/lang/StringBuilder;"⟩
abbrev cJ4_toString_0e30d : ByteArray := prog_23_method_42_code
def yJ4_toString_0e30d : MethodName := ⟨RJ4, "toString", "()Ljava/lang/String;"⟩
abbrev cJ4_append_cf1ce : ByteArray := prog_23_method_80_code
def yJ4_append_cf1ce : MethodName := ⟨RJ4, "append", "(Ljava/lang/String;)Ljava/lang/AbstractStringBuilder;"⟩
abbrev cJ4_length_8abf5 : ByteArray := prog_23_method_93_code
def yJ4_length_8abf5 : MethodName := ⟨RJ4, "length", "()I"⟩
def RJ1 : String := "java/lang/StringLatin1"
def TJ1 : u_T := fun k => match k with
  | _ => ("", "", "", false)
def tyJ1 : Nat → FieldType := fun k => match k with
  | _ => .int
theorem nmJ1 : ∀ a, a < 0 → ∀ b, b < 0 → a ≠ b → (TJ1 a).2.1 ≠ (TJ1 b).2.1 := by decide +kernel
theorem tyJ1_ok : ∀ k, k < 0 → parseFieldDescriptor (TJ1 k).2.2.1 = some (tyJ1 k) := by decide +kernel
abbrev cJ1_charAt_3b067 : ByteArray := prog_24_method_2_code
def yJ1_charAt_3b067 : MethodName := ⟨RJ1, "charAt", "([BI)C"⟩
abbrev cJ1_canEncode_fc78d : ByteArray := prog_24_method_3_code
def yJ1_canEncode_fc78d : MethodName := ⟨RJ1, "canEncode", "(C)Z"⟩
abbrev cJ1_inflate_0e8fd : ByteArray := prog_24_method_50_code
def yJ1_inflate_0e8fd : MethodName := ⟨RJ1, "inflate", "([BI[BII)V"⟩
def RJ2 : String := "java/lang/StringUTF16"
def TJ2 : u_T := fun k => match k with
  | _ => ("", "", "", false)
def tyJ2 : Nat → FieldType := fun k => match k with
  | _ => .int
theorem nmJ2 : ∀ a, a < 0 → ∀ b, b < 0 → a ≠ b → (TJ2 a).2.1 ≠ (TJ2 b).2.1 := by decide +kernel
theorem tyJ2_ok : ∀ k, k < 0 → parseFieldDescriptor (TJ2 k).2.2.1 = some (tyJ2 k) := by decide +kernel
abbrev cJ2_newBytesFor_77867 : ByteArray := prog_25_method_2_code
def yJ2_newBytesFor_77867 : MethodName := ⟨RJ2, "newBytesFor", "(I)[B"⟩
abbrev cJ2_newBytesLength_0f7a4 : ByteArray := prog_25_method_3_code
def yJ2_newBytesLength_0f7a4 : MethodName := ⟨RJ2, "newBytesLength", "(I)I"⟩
abbrev cJ2_putChar_b72d1 : ByteArray := prog_25_method_4_code
def yJ2_putChar_b72d1 : MethodName := ⟨RJ2, "putChar", "([BII)V"⟩
abbrev cJ2_getChar_3b067 : ByteArray := prog_25_method_5_code
def yJ2_getChar_3b067 : MethodName := ⟨RJ2, "getChar", "([BI)C"⟩
abbrev cJ2_length_9d52b : ByteArray := prog_25_method_6_code
def yJ2_length_9d52b : MethodName := ⟨RJ2, "length", "([B)I"⟩
abbrev cJ2_coderFromArrayLen_85cad : ByteArray := prog_25_method_15_code
def yJ2_coderFromArrayLen_85cad : MethodName := ⟨RJ2, "coderFromArrayLen", "([BI)B"⟩
abbrev cJ2_compress_39247 : ByteArray := prog_25_method_17_code
def yJ2_compress_39247 : MethodName := ⟨RJ2, "compress", "([BII)[B"⟩
abbrev cJ2_compress_5af95 : ByteArray := prog_25_method_22_code
def yJ2_compress_5af95 : MethodName := ⟨RJ2, "compress", "([BI[BII)I"⟩
abbrev cJ2_putCharSB_b72d1 : ByteArray := prog_25_method_71_code
def yJ2_putCharSB_b72d1 : MethodName := ⟨RJ2, "putCharSB", "([BII)V"⟩
abbrev cJ2_getChars_46870 : ByteArray := prog_25_method_77_code
def yJ2_getChars_46870 : MethodName := ⟨RJ2, "getChars", "(III[B)I"⟩
abbrev cJ2_putCharsAt_cd4e5 : ByteArray := prog_25_method_81_code
def yJ2_putCharsAt_cd4e5 : MethodName := ⟨RJ2, "putCharsAt", "([BICCCC)I"⟩
abbrev cJ2_charAt_3b067 : ByteArray := prog_25_method_83_code
def yJ2_charAt_3b067 : MethodName := ⟨RJ2, "charAt", "([BI)C"⟩
abbrev cJ2_inflate_0e8fd : ByteArray := prog_25_method_86_code
def yJ2_inflate_0e8fd : MethodName := ⟨RJ2, "inflate", "([BI[BII)V"⟩
abbrev cJ2_getChars_ba4f3 : ByteArray := prog_25_method_89_code
def yJ2_getChars_ba4f3 : MethodName := ⟨RJ2, "getChars", "(II[B)I"⟩
abbrev cJ2_checkIndex_2214a : ByteArray := prog_25_method_91_code
def yJ2_checkIndex_2214a : MethodName := ⟨RJ2, "checkIndex", "(I[B)V"⟩
abbrev cJ2_checkBoundsBeginEnd_d044e : ByteArray := prog_25_method_93_code
def yJ2_checkBoundsBeginEnd_d044e : MethodName := ⟨RJ2, "checkBoundsBeginEnd", "(II[B)V"⟩
abbrev cJ2_checkBoundsOffCount_d044e : ByteArray := prog_25_method_94_code
def yJ2_checkBoundsOffCount_d044e : MethodName := ⟨RJ2, "checkBoundsOffCount", "(II[B)V"⟩
def RJ10 : String := "java/lang/System"
def TJ10 : u_T := fun k => match k with
  | _ => ("", "", "", false)
def tyJ10 : Nat → FieldType := fun k => match k with
  | _ => .int
theorem nmJ10 : ∀ a, a < 0 → ∀ b, b < 0 → a ≠ b → (TJ10 a).2.1 ≠ (TJ10 b).2.1 := by decide +kernel
theorem tyJ10_ok : ∀ k, k < 0 → parseFieldDescriptor (TJ10 k).2.2.1 = some (tyJ10 k) := by decide +kernel
def RJ7 : String := "java/util/Arrays"
def TJ7 : u_T := fun k => match k with
  | _ => ("", "", "", false)
def tyJ7 : Nat → FieldType := fun k => match k with
  | _ => .int
theorem nmJ7 : ∀ a, a < 0 → ∀ b, b < 0 → a ≠ b → (TJ7 a).2.1 ≠ (TJ7 b).2.1 := by decide +kernel
theorem tyJ7_ok : ∀ k, k < 0 → parseFieldDescriptor (TJ7 k).2.2.1 = some (tyJ7 k) := by decide +kernel
abbrev cJ7_copyOf_9075b : ByteArray := prog_28_method_121_code
def yJ7_copyOf_9075b : MethodName := ⟨RJ7, "copyOf", "([BI)[B"⟩
abbrev cJ7_checkLength_df160 : ByteArray := prog_28_method_131_code
def yJ7_checkLength_df160 : MethodName := ⟨RJ7, "checkLength", "(II)V"⟩
abbrev cJ7_copyOfRange_39247 : ByteArray := prog_28_method_132_code
def yJ7_copyOfRange_39247 : MethodName := ⟨RJ7, "copyOfRange", "([BII)[B"⟩
abbrev cJ7_copyOfRangeByte_39247 : ByteArray := prog_28_method_133_code
def yJ7_copyOfRangeByte_39247 : MethodName := ⟨RJ7, "copyOfRangeByte", "([BII)[B"⟩
def RJ8 : String := "jdk/internal/util/ArraysSupport"
def TJ8 : u_T := fun k => match k with
  | _ => ("", "", "", false)
def tyJ8 : Nat → FieldType := fun k => match k with
  | _ => .int
theorem nmJ8 : ∀ a, a < 0 → ∀ b, b < 0 → a ≠ b → (TJ8 a).2.1 ≠ (TJ8 b).2.1 := by decide +kernel
theorem tyJ8_ok : ∀ k, k < 0 → parseFieldDescriptor (TJ8 k).2.2.1 = some (tyJ8 k) := by decide +kernel
abbrev cJ8_newLength_cabcc : ByteArray := prog_29_method_27_code
def yJ8_newLength_cabcc : MethodName := ⟨RJ8, "newLength", "(III)I"⟩
abbrev cJ8_hugeLength_7cf53 : ByteArray := prog_29_method_28_code
def yJ8_hugeLength_7cf53 : MethodName := ⟨RJ8, "hugeLength", "(II)I"⟩
def RJ3 : String := "jdk/internal/util/Preconditions"
def TJ3 : u_T := fun k => match k with
  | _ => ("", "", "", false)
def tyJ3 : Nat → FieldType := fun k => match k with
  | _ => .int
theorem nmJ3 : ∀ a, a < 0 → ∀ b, b < 0 → a ≠ b → (TJ3 a).2.1 ≠ (TJ3 b).2.1 := by decide +kernel
theorem tyJ3_ok : ∀ k, k < 0 → parseFieldDescriptor (TJ3 k).2.2.1 = some (tyJ3 k) := by decide +kernel
abbrev cJ3_checkIndex_8e157 : ByteArray := prog_30_method_11_code
def yJ3_checkIndex_8e157 : MethodName := ⟨RJ3, "checkIndex", "(IILjava/util/function/BiFunction;)I"⟩
abbrev cJ3_checkFromToIndex_8c36e : ByteArray := prog_30_method_12_code
def yJ3_checkFromToIndex_8c36e : MethodName := ⟨RJ3, "checkFromToIndex", "(IIILjava/util/function/BiFunction;)I"⟩
abbrev cJ3_checkFromIndexSize_8c36e : ByteArray := prog_30_method_13_code
def yJ3_checkFromIndexSize_8c36e : MethodName := ⟨RJ3, "checkFromIndexSize", "(IIILjava/util/function/BiFunction;)I"⟩
def RL : String := "SlabCutterLaw"
abbrev cL_draw : ByteArray := method_2_code
def yL_draw : MethodName := ⟨RL, "draw", "([III)I"⟩
abbrev cL_four : ByteArray := method_3_code
def yL_four : MethodName := ⟨RL, "four", "(Ljava/lang/String;I)I"⟩
abbrev cL_feed : ByteArray := method_4_code
def yL_feed : MethodName := ⟨RL, "feed", "(LSlabCutter;Ljava/lang/String;)V"⟩
abbrev cL_word : ByteArray := method_5_code
def yL_word : MethodName := ⟨RL, "word", "(Ljava/lang/StringBuilder;II)V"⟩
abbrev cL_load : ByteArray := method_6_code
def yL_load : MethodName := ⟨RL, "load", "(LSlabCutter;[I)Z"⟩
abbrev cL_added : ByteArray := method_7_code
def yL_added : MethodName := ⟨RL, "added", "(LSlabCutter;I)I"⟩
abbrev cL_dropped : ByteArray := method_8_code
def yL_dropped : MethodName := ⟨RL, "dropped", "(LSlabCutter;I)I"⟩
abbrev cL_moved : ByteArray := method_9_code
def yL_moved : MethodName := ⟨RL, "moved", "(LSlabCutter;II)I"⟩
abbrev cL_flawed : ByteArray := method_10_code
def yL_flawed : MethodName := ⟨RL, "flawed", "(LSlabCutter;IIZ)I"⟩
abbrev cL_spaced : ByteArray := method_11_code
def yL_spaced : MethodName := ⟨RL, "spaced", "(LSlabCutter;I)I"⟩
abbrev cL_turned : ByteArray := method_12_code
def yL_turned : MethodName := ⟨RL, "turned", "(LSlabCutter;)I"⟩
abbrev cL_cut : ByteArray := method_13_code
def yL_cut : MethodName := ⟨RL, "cut", "(LSlabCutter;IZ)I"⟩
abbrev cL_act : ByteArray := method_14_code
def yL_act : MethodName := ⟨RL, "act", "(LSlabCutter;[II)I"⟩
abbrev cL_flaw : ByteArray := method_16_code
def yL_flaw : MethodName := ⟨RL, "flaw", "(LSlabCutter;II)Z"⟩
abbrev cL_touched : ByteArray := method_17_code
def yL_touched : MethodName := ⟨RL, "touched", "(LSlabCutter;II)Z"⟩
abbrev cL_plain : ByteArray := method_18_code
def yL_plain : MethodName := ⟨RL, "plain", "(I)I"⟩
abbrev cL_stands : ByteArray := method_19_code
def yL_stands : MethodName := ⟨RL, "stands", "(LSlabCutter;)Z"⟩
abbrev cL_law : ByteArray := code
def yL_law : MethodName := ⟨RL, "law", "([I)Z"⟩
abbrev vwCl : List vw_C := [(RX0, TX0, 2), (RX1, TX1, 5), (RX2, TX2, 8), (RX3, TX3, 7), (RX4, TX4, 2), (RX5, TX5, 1), (RX6, TX6, 12), (RX7, TX7, 4), (RX8, TX8, 11), (RX8, TX8, 11), (RJ0, TJ0, 4), (RJ4, TJ4, 4)]
end
section
theorem dX0_init_0 : decode cX0_init 0 = .ok (.aload_n 0, 1) := by decide +kernel
theorem dX0_init_1 : decode cX0_init 1 = .ok (.invokespecial 1, 3) := by decide +kernel
theorem dX0_init_4 : decode cX0_init 4 = .ok (.aload_n 0, 1) := by decide +kernel
theorem dX0_init_5 : decode cX0_init 5 = .ok (.iconst 0, 1) := by decide +kernel
theorem dX0_init_6 : decode cX0_init 6 = .ok (.putfield 7, 3) := by decide +kernel
theorem dX0_init_9 : decode cX0_init 9 = .ok (.aload_n 0, 1) := by decide +kernel
theorem dX0_init_10 : decode cX0_init 10 = .ok (.new 13, 3) := by decide +kernel
theorem dX0_init_13 : decode cX0_init 13 = .ok (.dup, 1) := by decide +kernel
theorem dX0_init_14 : decode cX0_init 14 = .ok (.iload_n 1, 1) := by decide +kernel
theorem dX0_init_15 : decode cX0_init 15 = .ok (.invokespecial 15, 3) := by decide +kernel
theorem dX0_init_18 : decode cX0_init 18 = .ok (.putfield 18, 3) := by decide +kernel
theorem dX0_init_21 : decode cX0_init 21 = .ok (.return_, 1) := by decide +kernel
theorem dX0_add_0 : decode cX0_add 0 = .ok (.aload_n 0, 1) := by decide +kernel
theorem dX0_add_1 : decode cX0_add 1 = .ok (.getfield 18, 3) := by decide +kernel
theorem dX0_add_4 : decode cX0_add 4 = .ok (.aload_n 0, 1) := by decide +kernel
theorem dX0_add_5 : decode cX0_add 5 = .ok (.getfield 7, 3) := by decide +kernel
theorem dX0_add_8 : decode cX0_add 8 = .ok (.iload_n 1, 1) := by decide +kernel
theorem dX0_add_9 : decode cX0_add 9 = .ok (.sipush 255, 3) := by decide +kernel
theorem dX0_add_12 : decode cX0_add 12 = .ok (.iand, 1) := by decide +kernel
theorem dX0_add_13 : decode cX0_add 13 = .ok (.invokevirtual 22, 3) := by decide +kernel
theorem dX0_add_16 : decode cX0_add 16 = .ok (.aload_n 0, 1) := by decide +kernel
theorem dX0_add_17 : decode cX0_add 17 = .ok (.dup, 1) := by decide +kernel
theorem dX0_add_18 : decode cX0_add 18 = .ok (.getfield 7, 3) := by decide +kernel
theorem dX0_add_21 : decode cX0_add 21 = .ok (.iconst 1, 1) := by decide +kernel
theorem dX0_add_22 : decode cX0_add 22 = .ok (.iadd, 1) := by decide +kernel
theorem dX0_add_23 : decode cX0_add 23 = .ok (.putfield 7, 3) := by decide +kernel
theorem dX0_add_26 : decode cX0_add 26 = .ok (.return_, 1) := by decide +kernel
theorem dX0_addFour_0 : decode cX0_addFour 0 = .ok (.aload_n 0, 1) := by decide +kernel
theorem dX0_addFour_1 : decode cX0_addFour 1 = .ok (.iload_n 1, 1) := by decide +kernel
theorem dX0_addFour_2 : decode cX0_addFour 2 = .ok (.bipush 24, 2) := by decide +kernel
theorem dX0_addFour_4 : decode cX0_addFour 4 = .ok (.iushr, 1) := by decide +kernel
theorem dX0_addFour_5 : decode cX0_addFour 5 = .ok (.invokevirtual 26, 3) := by decide +kernel
theorem dX0_addFour_8 : decode cX0_addFour 8 = .ok (.aload_n 0, 1) := by decide +kernel
theorem dX0_addFour_9 : decode cX0_addFour 9 = .ok (.iload_n 1, 1) := by decide +kernel
theorem dX0_addFour_10 : decode cX0_addFour 10 = .ok (.bipush 16, 2) := by decide +kernel
theorem dX0_addFour_12 : decode cX0_addFour 12 = .ok (.iushr, 1) := by decide +kernel
theorem dX0_addFour_13 : decode cX0_addFour 13 = .ok (.invokevirtual 26, 3) := by decide +kernel
theorem dX0_addFour_16 : decode cX0_addFour 16 = .ok (.aload_n 0, 1) := by decide +kernel
theorem dX0_addFour_17 : decode cX0_addFour 17 = .ok (.iload_n 1, 1) := by decide +kernel
theorem dX0_addFour_18 : decode cX0_addFour 18 = .ok (.bipush 8, 2) := by decide +kernel
theorem dX0_addFour_20 : decode cX0_addFour 20 = .ok (.iushr, 1) := by decide +kernel
theorem dX0_addFour_21 : decode cX0_addFour 21 = .ok (.invokevirtual 26, 3) := by decide +kernel
theorem dX0_addFour_24 : decode cX0_addFour 24 = .ok (.aload_n 0, 1) := by decide +kernel
theorem dX0_addFour_25 : decode cX0_addFour 25 = .ok (.iload_n 1, 1) := by decide +kernel
theorem dX0_addFour_26 : decode cX0_addFour 26 = .ok (.invokevirtual 26, 3) := by decide +kernel
theorem dX0_addFour_29 : decode cX0_addFour 29 = .ok (.return_, 1) := by decide +kernel
theorem dX1_init_0 : decode cX1_init 0 = .ok (.aload_n 0, 1) := by decide +kernel
theorem dX1_init_1 : decode cX1_init 1 = .ok (.invokespecial 3, 3) := by decide +kernel
theorem dX1_init_4 : decode cX1_init 4 = .ok (.aload_n 0, 1) := by decide +kernel
theorem dX1_init_5 : decode cX1_init 5 = .ok (.bipush 100, 2) := by decide +kernel
theorem dX1_init_7 : decode cX1_init 7 = .ok (.putfield 9, 3) := by decide +kernel
theorem dX1_init_10 : decode cX1_init 10 = .ok (.aload_n 0, 1) := by decide +kernel
theorem dX1_init_11 : decode cX1_init 11 = .ok (.bipush 10, 2) := by decide +kernel
theorem dX1_init_13 : decode cX1_init 13 = .ok (.putfield 15, 3) := by decide +kernel
theorem dX1_init_16 : decode cX1_init 16 = .ok (.aload_n 0, 1) := by decide +kernel
theorem dX1_init_17 : decode cX1_init 17 = .ok (.bipush 100, 2) := by decide +kernel
theorem dX1_init_19 : decode cX1_init 19 = .ok (.putfield 18, 3) := by decide +kernel
theorem dX1_init_22 : decode cX1_init 22 = .ok (.aload_n 0, 1) := by decide +kernel
theorem dX1_init_23 : decode cX1_init 23 = .ok (.iconst 0, 1) := by decide +kernel
theorem dX1_init_24 : decode cX1_init 24 = .ok (.putfield 21, 3) := by decide +kernel
theorem dX1_init_27 : decode cX1_init 27 = .ok (.aload_n 0, 1) := by decide +kernel
theorem dX1_init_28 : decode cX1_init 28 = .ok (.iconst 0, 1) := by decide +kernel
theorem dX1_init_29 : decode cX1_init 29 = .ok (.putfield 24, 3) := by decide +kernel
theorem dX1_init_32 : decode cX1_init 32 = .ok (.return_, 1) := by decide +kernel
theorem dX1_renew_0 : decode cX1_renew 0 = .ok (.aload_n 0, 1) := by decide +kernel
theorem dX1_renew_1 : decode cX1_renew 1 = .ok (.iload_n 1, 1) := by decide +kernel
theorem dX1_renew_2 : decode cX1_renew 2 = .ok (.putfield 9, 3) := by decide +kernel
theorem dX1_renew_5 : decode cX1_renew 5 = .ok (.aload_n 0, 1) := by decide +kernel
theorem dX1_renew_6 : decode cX1_renew 6 = .ok (.iload_n 2, 1) := by decide +kernel
theorem dX1_renew_7 : decode cX1_renew 7 = .ok (.putfield 15, 3) := by decide +kernel
theorem dX1_renew_10 : decode cX1_renew 10 = .ok (.aload_n 0, 1) := by decide +kernel
theorem dX1_renew_11 : decode cX1_renew 11 = .ok (.iload_n 1, 1) := by decide +kernel
theorem dX1_renew_12 : decode cX1_renew 12 = .ok (.putfield 18, 3) := by decide +kernel
theorem dX1_renew_15 : decode cX1_renew 15 = .ok (.return_, 1) := by decide +kernel
theorem dX1_hone_0 : decode cX1_hone 0 = .ok (.aload_n 0, 1) := by decide +kernel
theorem dX1_hone_1 : decode cX1_hone 1 = .ok (.aload_n 0, 1) := by decide +kernel
theorem dX1_hone_2 : decode cX1_hone 2 = .ok (.getfield 9, 3) := by decide +kernel
theorem dX1_hone_5 : decode cX1_hone 5 = .ok (.putfield 18, 3) := by decide +kernel
theorem dX1_hone_8 : decode cX1_hone 8 = .ok (.aload_n 0, 1) := by decide +kernel
theorem dX1_hone_9 : decode cX1_hone 9 = .ok (.dup, 1) := by decide +kernel
theorem dX1_hone_10 : decode cX1_hone 10 = .ok (.getfield 21, 3) := by decide +kernel
theorem dX1_hone_13 : decode cX1_hone 13 = .ok (.aload_n 0, 1) := by decide +kernel
theorem dX1_hone_14 : decode cX1_hone 14 = .ok (.getfield 15, 3) := by decide +kernel
theorem dX1_hone_17 : decode cX1_hone 17 = .ok (.iadd, 1) := by decide +kernel
theorem dX1_hone_18 : decode cX1_hone 18 = .ok (.putfield 21, 3) := by decide +kernel
theorem dX1_hone_21 : decode cX1_hone 21 = .ok (.aload_n 0, 1) := by decide +kernel
theorem dX1_hone_22 : decode cX1_hone 22 = .ok (.dup, 1) := by decide +kernel
theorem dX1_hone_23 : decode cX1_hone 23 = .ok (.getfield 24, 3) := by decide +kernel
theorem dX1_hone_26 : decode cX1_hone 26 = .ok (.iconst 1, 1) := by decide +kernel
theorem dX1_hone_27 : decode cX1_hone 27 = .ok (.iadd, 1) := by decide +kernel
theorem dX1_hone_28 : decode cX1_hone 28 = .ok (.putfield 24, 3) := by decide +kernel
theorem dX1_hone_31 : decode cX1_hone 31 = .ok (.return_, 1) := by decide +kernel
theorem dX1_cut_0 : decode cX1_cut 0 = .ok (.aload_n 0, 1) := by decide +kernel
theorem dX1_cut_1 : decode cX1_cut 1 = .ok (.getfield 18, 3) := by decide +kernel
theorem dX1_cut_4 : decode cX1_cut 4 = .ok (.iload_n 1, 1) := by decide +kernel
theorem dX1_cut_5 : decode cX1_cut 5 = .ok (.if_icmp .ge 18, 3) := by decide +kernel
theorem dX1_cut_8 : decode cX1_cut 8 = .ok (.aload_n 0, 1) := by decide +kernel
theorem dX1_cut_9 : decode cX1_cut 9 = .ok (.getfield 18, 3) := by decide +kernel
theorem dX1_cut_12 : decode cX1_cut 12 = .ok (.aload_n 0, 1) := by decide +kernel
theorem dX1_cut_13 : decode cX1_cut 13 = .ok (.getfield 9, 3) := by decide +kernel
theorem dX1_cut_16 : decode cX1_cut 16 = .ok (.if_icmp .ge 7, 3) := by decide +kernel
theorem dX1_cut_19 : decode cX1_cut 19 = .ok (.aload_n 0, 1) := by decide +kernel
theorem dX1_cut_20 : decode cX1_cut 20 = .ok (.invokevirtual 27, 3) := by decide +kernel
theorem dX1_cut_23 : decode cX1_cut 23 = .ok (.aload_n 0, 1) := by decide +kernel
theorem dX1_cut_24 : decode cX1_cut 24 = .ok (.dup, 1) := by decide +kernel
theorem dX1_cut_25 : decode cX1_cut 25 = .ok (.getfield 21, 3) := by decide +kernel
theorem dX1_cut_28 : decode cX1_cut 28 = .ok (.iload_n 1, 1) := by decide +kernel
theorem dX1_cut_29 : decode cX1_cut 29 = .ok (.iadd, 1) := by decide +kernel
theorem dX1_cut_30 : decode cX1_cut 30 = .ok (.putfield 21, 3) := by decide +kernel
theorem dX1_cut_33 : decode cX1_cut 33 = .ok (.aload_n 0, 1) := by decide +kernel
theorem dX1_cut_34 : decode cX1_cut 34 = .ok (.iconst 0, 1) := by decide +kernel
theorem dX1_cut_35 : decode cX1_cut 35 = .ok (.aload_n 0, 1) := by decide +kernel
theorem dX1_cut_36 : decode cX1_cut 36 = .ok (.getfield 18, 3) := by decide +kernel
theorem dX1_cut_39 : decode cX1_cut 39 = .ok (.iload_n 1, 1) := by decide +kernel
theorem dX1_cut_40 : decode cX1_cut 40 = .ok (.isub, 1) := by decide +kernel
theorem dX1_cut_41 : decode cX1_cut 41 = .ok (.invokestatic 30, 3) := by decide +kernel
theorem dX1_cut_44 : decode cX1_cut 44 = .ok (.putfield 18, 3) := by decide +kernel
theorem dX1_cut_47 : decode cX1_cut 47 = .ok (.return_, 1) := by decide +kernel
theorem dX1_copy_0 : decode cX1_copy 0 = .ok (.aload_n 0, 1) := by decide +kernel
theorem dX1_copy_1 : decode cX1_copy 1 = .ok (.aload_n 1, 1) := by decide +kernel
theorem dX1_copy_2 : decode cX1_copy 2 = .ok (.getfield 9, 3) := by decide +kernel
theorem dX1_copy_5 : decode cX1_copy 5 = .ok (.putfield 9, 3) := by decide +kernel
theorem dX1_copy_8 : decode cX1_copy 8 = .ok (.aload_n 0, 1) := by decide +kernel
theorem dX1_copy_9 : decode cX1_copy 9 = .ok (.aload_n 1, 1) := by decide +kernel
theorem dX1_copy_10 : decode cX1_copy 10 = .ok (.getfield 15, 3) := by decide +kernel
theorem dX1_copy_13 : decode cX1_copy 13 = .ok (.putfield 15, 3) := by decide +kernel
theorem dX1_copy_16 : decode cX1_copy 16 = .ok (.aload_n 0, 1) := by decide +kernel
theorem dX1_copy_17 : decode cX1_copy 17 = .ok (.aload_n 1, 1) := by decide +kernel
theorem dX1_copy_18 : decode cX1_copy 18 = .ok (.getfield 18, 3) := by decide +kernel
theorem dX1_copy_21 : decode cX1_copy 21 = .ok (.putfield 18, 3) := by decide +kernel
theorem dX1_copy_24 : decode cX1_copy 24 = .ok (.aload_n 0, 1) := by decide +kernel
theorem dX1_copy_25 : decode cX1_copy 25 = .ok (.aload_n 1, 1) := by decide +kernel
theorem dX1_copy_26 : decode cX1_copy 26 = .ok (.getfield 21, 3) := by decide +kernel
theorem dX1_copy_29 : decode cX1_copy 29 = .ok (.putfield 21, 3) := by decide +kernel
theorem dX1_copy_32 : decode cX1_copy 32 = .ok (.aload_n 0, 1) := by decide +kernel
theorem dX1_copy_33 : decode cX1_copy 33 = .ok (.aload_n 1, 1) := by decide +kernel
theorem dX1_copy_34 : decode cX1_copy 34 = .ok (.getfield 24, 3) := by decide +kernel
theorem dX1_copy_37 : decode cX1_copy 37 = .ok (.putfield 24, 3) := by decide +kernel
theorem dX1_copy_40 : decode cX1_copy 40 = .ok (.return_, 1) := by decide +kernel
theorem dX2_init_0 : decode cX2_init 0 = .ok (.aload_n 0, 1) := by decide +kernel
theorem dX2_init_1 : decode cX2_init 1 = .ok (.invokespecial 3, 3) := by decide +kernel
theorem dX2_init_4 : decode cX2_init 4 = .ok (.aload_n 0, 1) := by decide +kernel
theorem dX2_init_5 : decode cX2_init 5 = .ok (.new 9, 3) := by decide +kernel
theorem dX2_init_8 : decode cX2_init 8 = .ok (.dup, 1) := by decide +kernel
theorem dX2_init_9 : decode cX2_init 9 = .ok (.bipush 60, 2) := by decide +kernel
theorem dX2_init_11 : decode cX2_init 11 = .ok (.invokespecial 11, 3) := by decide +kernel
theorem dX2_init_14 : decode cX2_init 14 = .ok (.putfield 14, 3) := by decide +kernel
theorem dX2_init_17 : decode cX2_init 17 = .ok (.aload_n 0, 1) := by decide +kernel
theorem dX2_init_18 : decode cX2_init 18 = .ok (.new 9, 3) := by decide +kernel
theorem dX2_init_21 : decode cX2_init 21 = .ok (.dup, 1) := by decide +kernel
theorem dX2_init_22 : decode cX2_init 22 = .ok (.bipush 60, 2) := by decide +kernel
theorem dX2_init_24 : decode cX2_init 24 = .ok (.invokespecial 11, 3) := by decide +kernel
theorem dX2_init_27 : decode cX2_init 27 = .ok (.putfield 20, 3) := by decide +kernel
theorem dX2_init_30 : decode cX2_init 30 = .ok (.aload_n 0, 1) := by decide +kernel
theorem dX2_init_31 : decode cX2_init 31 = .ok (.new 9, 3) := by decide +kernel
theorem dX2_init_34 : decode cX2_init 34 = .ok (.dup, 1) := by decide +kernel
theorem dX2_init_35 : decode cX2_init 35 = .ok (.sipush 288, 3) := by decide +kernel
theorem dX2_init_38 : decode cX2_init 38 = .ok (.invokespecial 11, 3) := by decide +kernel
theorem dX2_init_41 : decode cX2_init 41 = .ok (.putfield 23, 3) := by decide +kernel
theorem dX2_init_44 : decode cX2_init 44 = .ok (.aload_n 0, 1) := by decide +kernel
theorem dX2_init_45 : decode cX2_init 45 = .ok (.new 9, 3) := by decide +kernel
theorem dX2_init_48 : decode cX2_init 48 = .ok (.dup, 1) := by decide +kernel
theorem dX2_init_49 : decode cX2_init 49 = .ok (.sipush 288, 3) := by decide +kernel
theorem dX2_init_52 : decode cX2_init 52 = .ok (.invokespecial 11, 3) := by decide +kernel
theorem dX2_init_55 : decode cX2_init 55 = .ok (.putfield 26, 3) := by decide +kernel
theorem dX2_init_58 : decode cX2_init 58 = .ok (.aload_n 0, 1) := by decide +kernel
theorem dX2_init_59 : decode cX2_init 59 = .ok (.iconst 0, 1) := by decide +kernel
theorem dX2_init_60 : decode cX2_init 60 = .ok (.putfield 29, 3) := by decide +kernel
theorem dX2_init_63 : decode cX2_init 63 = .ok (.aload_n 0, 1) := by decide +kernel
theorem dX2_init_64 : decode cX2_init 64 = .ok (.iconst 0, 1) := by decide +kernel
theorem dX2_init_65 : decode cX2_init 65 = .ok (.putfield 33, 3) := by decide +kernel
theorem dX2_init_68 : decode cX2_init 68 = .ok (.aload_n 0, 1) := by decide +kernel
theorem dX2_init_69 : decode cX2_init 69 = .ok (.iconst 0, 1) := by decide +kernel
theorem dX2_init_70 : decode cX2_init 70 = .ok (.putfield 36, 3) := by decide +kernel
theorem dX2_init_73 : decode cX2_init 73 = .ok (.aload_n 0, 1) := by decide +kernel
theorem dX2_init_74 : decode cX2_init 74 = .ok (.iconst 0, 1) := by decide +kernel
theorem dX2_init_75 : decode cX2_init 75 = .ok (.putfield 39, 3) := by decide +kernel
theorem dX2_init_78 : decode cX2_init 78 = .ok (.return_, 1) := by decide +kernel
theorem dX2_lay_0 : decode cX2_lay 0 = .ok (.aload_n 0, 1) := by decide +kernel
theorem dX2_lay_1 : decode cX2_lay 1 = .ok (.iconst 0, 1) := by decide +kernel
theorem dX2_lay_2 : decode cX2_lay 2 = .ok (.putfield 29, 3) := by decide +kernel
theorem dX2_lay_5 : decode cX2_lay 5 = .ok (.aload_n 0, 1) := by decide +kernel
theorem dX2_lay_6 : decode cX2_lay 6 = .ok (.iconst 0, 1) := by decide +kernel
theorem dX2_lay_7 : decode cX2_lay 7 = .ok (.putfield 36, 3) := by decide +kernel
theorem dX2_lay_10 : decode cX2_lay 10 = .ok (.aload_n 0, 1) := by decide +kernel
theorem dX2_lay_11 : decode cX2_lay 11 = .ok (.iconst 0, 1) := by decide +kernel
theorem dX2_lay_12 : decode cX2_lay 12 = .ok (.putfield 39, 3) := by decide +kernel
theorem dX2_lay_15 : decode cX2_lay 15 = .ok (.iconst 0, 1) := by decide +kernel
theorem dX2_lay_16 : decode cX2_lay 16 = .ok (.istore_n 2, 1) := by decide +kernel
theorem dX2_lay_17 : decode cX2_lay 17 = .ok (.iconst 0, 1) := by decide +kernel
theorem dX2_lay_18 : decode cX2_lay 18 = .ok (.istore_n 3, 1) := by decide +kernel
theorem dX2_lay_19 : decode cX2_lay 19 = .ok (.iload_n 3, 1) := by decide +kernel
theorem dX2_lay_20 : decode cX2_lay 20 = .ok (.aload_n 1, 1) := by decide +kernel
theorem dX2_lay_21 : decode cX2_lay 21 = .ok (.getfield 42, 3) := by decide +kernel
theorem dX2_lay_24 : decode cX2_lay 24 = .ok (.if_icmp .ge 85, 3) := by decide +kernel
theorem dX2_lay_27 : decode cX2_lay 27 = .ok (.aload_n 0, 1) := by decide +kernel
theorem dX2_lay_28 : decode cX2_lay 28 = .ok (.getfield 29, 3) := by decide +kernel
theorem dX2_lay_31 : decode cX2_lay 31 = .ok (.iload_n 2, 1) := by decide +kernel
theorem dX2_lay_32 : decode cX2_lay 32 = .ok (.if_icmp .ne 77, 3) := by decide +kernel
theorem dX2_lay_35 : decode cX2_lay 35 = .ok (.iload_n 2, 1) := by decide +kernel
theorem dX2_lay_36 : decode cX2_lay 36 = .ok (.istore 4, 2) := by decide +kernel
theorem dX2_lay_38 : decode cX2_lay 38 = .ok (.iload 4, 2) := by decide +kernel
theorem dX2_lay_40 : decode cX2_lay 40 = .ok (.aload_n 1, 1) := by decide +kernel
theorem dX2_lay_41 : decode cX2_lay 41 = .ok (.getfield 47, 3) := by decide +kernel
theorem dX2_lay_44 : decode cX2_lay 44 = .ok (.iload_n 3, 1) := by decide +kernel
theorem dX2_lay_45 : decode cX2_lay 45 = .ok (.invokevirtual 50, 3) := by decide +kernel
theorem dX2_lay_48 : decode cX2_lay 48 = .ok (.iadd, 1) := by decide +kernel
theorem dX2_lay_49 : decode cX2_lay 49 = .ok (.istore_n 2, 1) := by decide +kernel
theorem dX2_lay_50 : decode cX2_lay 50 = .ok (.aload_n 0, 1) := by decide +kernel
theorem dX2_lay_51 : decode cX2_lay 51 = .ok (.aload_n 1, 1) := by decide +kernel
theorem dX2_lay_52 : decode cX2_lay 52 = .ok (.iload_n 2, 1) := by decide +kernel
theorem dX2_lay_53 : decode cX2_lay 53 = .ok (.invokevirtual 54, 3) := by decide +kernel
theorem dX2_lay_56 : decode cX2_lay 56 = .ok (.aload_n 0, 1) := by decide +kernel
theorem dX2_lay_57 : decode cX2_lay 57 = .ok (.getfield 29, 3) := by decide +kernel
theorem dX2_lay_60 : decode cX2_lay 60 = .ok (.iload_n 2, 1) := by decide +kernel
theorem dX2_lay_61 : decode cX2_lay 61 = .ok (.if_icmp .ne 22, 3) := by decide +kernel
theorem dX2_lay_64 : decode cX2_lay 64 = .ok (.aload_n 1, 1) := by decide +kernel
theorem dX2_lay_65 : decode cX2_lay 65 = .ok (.getfield 58, 3) := by decide +kernel
theorem dX2_lay_68 : decode cX2_lay 68 = .ok (.iload_n 3, 1) := by decide +kernel
theorem dX2_lay_69 : decode cX2_lay 69 = .ok (.invokevirtual 50, 3) := by decide +kernel
theorem dX2_lay_72 : decode cX2_lay 72 = .ok (.ifCond .ne 11, 3) := by decide +kernel
theorem dX2_lay_75 : decode cX2_lay 75 = .ok (.aload_n 0, 1) := by decide +kernel
theorem dX2_lay_76 : decode cX2_lay 76 = .ok (.aload_n 1, 1) := by decide +kernel
theorem dX2_lay_77 : decode cX2_lay 77 = .ok (.iload 4, 2) := by decide +kernel
theorem dX2_lay_79 : decode cX2_lay 79 = .ok (.iload_n 2, 1) := by decide +kernel
theorem dX2_lay_80 : decode cX2_lay 80 = .ok (.invokevirtual 61, 3) := by decide +kernel
theorem dX2_lay_83 : decode cX2_lay 83 = .ok (.aload_n 0, 1) := by decide +kernel
theorem dX2_lay_84 : decode cX2_lay 84 = .ok (.dup, 1) := by decide +kernel
theorem dX2_lay_85 : decode cX2_lay 85 = .ok (.getfield 36, 3) := by decide +kernel
theorem dX2_lay_88 : decode cX2_lay 88 = .ok (.aload_n 1, 1) := by decide +kernel
theorem dX2_lay_89 : decode cX2_lay 89 = .ok (.getfield 65, 3) := by decide +kernel
theorem dX2_lay_92 : decode cX2_lay 92 = .ok (.iconst 1, 1) := by decide +kernel
theorem dX2_lay_93 : decode cX2_lay 93 = .ok (.iadd, 1) := by decide +kernel
theorem dX2_lay_94 : decode cX2_lay 94 = .ok (.iadd, 1) := by decide +kernel
theorem dX2_lay_95 : decode cX2_lay 95 = .ok (.putfield 36, 3) := by decide +kernel
theorem dX2_lay_98 : decode cX2_lay 98 = .ok (.aload_n 0, 1) := by decide +kernel
theorem dX2_lay_99 : decode cX2_lay 99 = .ok (.iconst 0, 1) := by decide +kernel
theorem dX2_lay_100 : decode cX2_lay 100 = .ok (.putfield 39, 3) := by decide +kernel
theorem dX2_lay_103 : decode cX2_lay 103 = .ok (.iinc 3 1, 3) := by decide +kernel
theorem dX2_lay_106 : decode cX2_lay 106 = .ok (.goto (-87), 3) := by decide +kernel
theorem dX2_lay_109 : decode cX2_lay 109 = .ok (.aload_n 0, 1) := by decide +kernel
theorem dX2_lay_110 : decode cX2_lay 110 = .ok (.getfield 29, 3) := by decide +kernel
theorem dX2_lay_113 : decode cX2_lay 113 = .ok (.istore_n 3, 1) := by decide +kernel
theorem dX2_lay_114 : decode cX2_lay 114 = .ok (.iload_n 3, 1) := by decide +kernel
theorem dX2_lay_115 : decode cX2_lay 115 = .ok (.aload_n 1, 1) := by decide +kernel
theorem dX2_lay_116 : decode cX2_lay 116 = .ok (.getfield 68, 3) := by decide +kernel
theorem dX2_lay_119 : decode cX2_lay 119 = .ok (.if_icmp .ge 27, 3) := by decide +kernel
theorem dX2_lay_122 : decode cX2_lay 122 = .ok (.aload_n 0, 1) := by decide +kernel
theorem dX2_lay_123 : decode cX2_lay 123 = .ok (.getfield 14, 3) := by decide +kernel
theorem dX2_lay_126 : decode cX2_lay 126 = .ok (.iload_n 3, 1) := by decide +kernel
theorem dX2_lay_127 : decode cX2_lay 127 = .ok (.iconst (-1), 1) := by decide +kernel
theorem dX2_lay_128 : decode cX2_lay 128 = .ok (.invokevirtual 71, 3) := by decide +kernel
theorem dX2_lay_131 : decode cX2_lay 131 = .ok (.aload_n 0, 1) := by decide +kernel
theorem dX2_lay_132 : decode cX2_lay 132 = .ok (.getfield 20, 3) := by decide +kernel
theorem dX2_lay_135 : decode cX2_lay 135 = .ok (.iload_n 3, 1) := by decide +kernel
theorem dX2_lay_136 : decode cX2_lay 136 = .ok (.iconst (-1), 1) := by decide +kernel
theorem dX2_lay_137 : decode cX2_lay 137 = .ok (.invokevirtual 71, 3) := by decide +kernel
theorem dX2_lay_140 : decode cX2_lay 140 = .ok (.iinc 3 1, 3) := by decide +kernel
theorem dX2_lay_143 : decode cX2_lay 143 = .ok (.goto (-29), 3) := by decide +kernel
theorem dX2_lay_146 : decode cX2_lay 146 = .ok (.return_, 1) := by decide +kernel
theorem dX2_layWords_0 : decode cX2_layWords 0 = .ok (.iconst 1, 1) := by decide +kernel
theorem dX2_layWords_1 : decode cX2_layWords 1 = .ok (.istore_n 3, 1) := by decide +kernel
theorem dX2_layWords_2 : decode cX2_layWords 2 = .ok (.aload_n 0, 1) := by decide +kernel
theorem dX2_layWords_3 : decode cX2_layWords 3 = .ok (.getfield 29, 3) := by decide +kernel
theorem dX2_layWords_6 : decode cX2_layWords 6 = .ok (.istore 4, 2) := by decide +kernel
theorem dX2_layWords_8 : decode cX2_layWords 8 = .ok (.iload 4, 2) := by decide +kernel
theorem dX2_layWords_10 : decode cX2_layWords 10 = .ok (.iload_n 2, 1) := by decide +kernel
theorem dX2_layWords_11 : decode cX2_layWords 11 = .ok (.if_icmp .ge 21, 3) := by decide +kernel
theorem dX2_layWords_14 : decode cX2_layWords 14 = .ok (.iload_n 3, 1) := by decide +kernel
theorem dX2_layWords_15 : decode cX2_layWords 15 = .ok (.ifCond .eq 17, 3) := by decide +kernel
theorem dX2_layWords_18 : decode cX2_layWords 18 = .ok (.aload_n 0, 1) := by decide +kernel
theorem dX2_layWords_19 : decode cX2_layWords 19 = .ok (.aload_n 1, 1) := by decide +kernel
theorem dX2_layWords_20 : decode cX2_layWords 20 = .ok (.iload 4, 2) := by decide +kernel
theorem dX2_layWords_22 : decode cX2_layWords 22 = .ok (.invokevirtual 75, 3) := by decide +kernel
theorem dX2_layWords_25 : decode cX2_layWords 25 = .ok (.istore_n 3, 1) := by decide +kernel
theorem dX2_layWords_26 : decode cX2_layWords 26 = .ok (.iinc 4 1, 3) := by decide +kernel
theorem dX2_layWords_29 : decode cX2_layWords 29 = .ok (.goto (-21), 3) := by decide +kernel
theorem dX2_layWords_32 : decode cX2_layWords 32 = .ok (.return_, 1) := by decide +kernel
theorem dX2_layWord_0 : decode cX2_layWord 0 = .ok (.aload_n 1, 1) := by decide +kernel
theorem dX2_layWord_1 : decode cX2_layWord 1 = .ok (.getfield 79, 3) := by decide +kernel
theorem dX2_layWord_4 : decode cX2_layWord 4 = .ok (.iload_n 2, 1) := by decide +kernel
theorem dX2_layWord_5 : decode cX2_layWord 5 = .ok (.invokevirtual 50, 3) := by decide +kernel
theorem dX2_layWord_8 : decode cX2_layWord 8 = .ok (.istore_n 3, 1) := by decide +kernel
theorem dX2_layWord_9 : decode cX2_layWord 9 = .ok (.aload_n 0, 1) := by decide +kernel
theorem dX2_layWord_10 : decode cX2_layWord 10 = .ok (.getfield 39, 3) := by decide +kernel
theorem dX2_layWord_13 : decode cX2_layWord 13 = .ok (.istore 4, 2) := by decide +kernel
theorem dX2_layWord_15 : decode cX2_layWord 15 = .ok (.aload_n 0, 1) := by decide +kernel
theorem dX2_layWord_16 : decode cX2_layWord 16 = .ok (.getfield 36, 3) := by decide +kernel
theorem dX2_layWord_19 : decode cX2_layWord 19 = .ok (.istore 5, 2) := by decide +kernel
theorem dX2_layWord_21 : decode cX2_layWord 21 = .ok (.iload 5, 2) := by decide +kernel
theorem dX2_layWord_23 : decode cX2_layWord 23 = .ok (.aload_n 1, 1) := by decide +kernel
theorem dX2_layWord_24 : decode cX2_layWord 24 = .ok (.getfield 82, 3) := by decide +kernel
theorem dX2_layWord_27 : decode cX2_layWord 27 = .ok (.if_icmp .ge 97, 3) := by decide +kernel
theorem dX2_layWord_30 : decode cX2_layWord 30 = .ok (.iload 4, 2) := by decide +kernel
theorem dX2_layWord_32 : decode cX2_layWord 32 = .ok (.istore 6, 2) := by decide +kernel
theorem dX2_layWord_34 : decode cX2_layWord 34 = .ok (.iload 6, 2) := by decide +kernel
theorem dX2_layWord_36 : decode cX2_layWord 36 = .ok (.iload_n 3, 1) := by decide +kernel
theorem dX2_layWord_37 : decode cX2_layWord 37 = .ok (.iadd, 1) := by decide +kernel
theorem dX2_layWord_38 : decode cX2_layWord 38 = .ok (.aload_n 1, 1) := by decide +kernel
theorem dX2_layWord_39 : decode cX2_layWord 39 = .ok (.getfield 85, 3) := by decide +kernel
theorem dX2_layWord_42 : decode cX2_layWord 42 = .ok (.if_icmp .gt 73, 3) := by decide +kernel
theorem dX2_layWord_45 : decode cX2_layWord 45 = .ok (.aload_n 1, 1) := by decide +kernel
theorem dX2_layWord_46 : decode cX2_layWord 46 = .ok (.getfield 88, 3) := by decide +kernel
theorem dX2_layWord_49 : decode cX2_layWord 49 = .ok (.iload 5, 2) := by decide +kernel
theorem dX2_layWord_51 : decode cX2_layWord 51 = .ok (.invokevirtual 50, 3) := by decide +kernel
theorem dX2_layWord_54 : decode cX2_layWord 54 = .ok (.iload 6, 2) := by decide +kernel
theorem dX2_layWord_56 : decode cX2_layWord 56 = .ok (.iload_n 3, 1) := by decide +kernel
theorem dX2_layWord_57 : decode cX2_layWord 57 = .ok (.invokestatic 91, 3) := by decide +kernel
theorem dX2_layWord_60 : decode cX2_layWord 60 = .ok (.iand, 1) := by decide +kernel
theorem dX2_layWord_61 : decode cX2_layWord 61 = .ok (.ifCond .ne 48, 3) := by decide +kernel
theorem dX2_layWord_64 : decode cX2_layWord 64 = .ok (.aload_n 0, 1) := by decide +kernel
theorem dX2_layWord_65 : decode cX2_layWord 65 = .ok (.getfield 14, 3) := by decide +kernel
theorem dX2_layWord_68 : decode cX2_layWord 68 = .ok (.iload_n 2, 1) := by decide +kernel
theorem dX2_layWord_69 : decode cX2_layWord 69 = .ok (.iload 5, 2) := by decide +kernel
theorem dX2_layWord_71 : decode cX2_layWord 71 = .ok (.invokevirtual 71, 3) := by decide +kernel
theorem dX2_layWord_74 : decode cX2_layWord 74 = .ok (.aload_n 0, 1) := by decide +kernel
theorem dX2_layWord_75 : decode cX2_layWord 75 = .ok (.getfield 20, 3) := by decide +kernel
theorem dX2_layWord_78 : decode cX2_layWord 78 = .ok (.iload_n 2, 1) := by decide +kernel
theorem dX2_layWord_79 : decode cX2_layWord 79 = .ok (.iload 6, 2) := by decide +kernel
theorem dX2_layWord_81 : decode cX2_layWord 81 = .ok (.invokevirtual 71, 3) := by decide +kernel
theorem dX2_layWord_84 : decode cX2_layWord 84 = .ok (.aload_n 0, 1) := by decide +kernel
theorem dX2_layWord_85 : decode cX2_layWord 85 = .ok (.iload_n 2, 1) := by decide +kernel
theorem dX2_layWord_86 : decode cX2_layWord 86 = .ok (.iconst 1, 1) := by decide +kernel
theorem dX2_layWord_87 : decode cX2_layWord 87 = .ok (.iadd, 1) := by decide +kernel
theorem dX2_layWord_88 : decode cX2_layWord 88 = .ok (.putfield 29, 3) := by decide +kernel
theorem dX2_layWord_91 : decode cX2_layWord 91 = .ok (.aload_n 0, 1) := by decide +kernel
theorem dX2_layWord_92 : decode cX2_layWord 92 = .ok (.iload 5, 2) := by decide +kernel
theorem dX2_layWord_94 : decode cX2_layWord 94 = .ok (.putfield 36, 3) := by decide +kernel
theorem dX2_layWord_97 : decode cX2_layWord 97 = .ok (.aload_n 0, 1) := by decide +kernel
theorem dX2_layWord_98 : decode cX2_layWord 98 = .ok (.iload 6, 2) := by decide +kernel
theorem dX2_layWord_100 : decode cX2_layWord 100 = .ok (.iload_n 3, 1) := by decide +kernel
theorem dX2_layWord_101 : decode cX2_layWord 101 = .ok (.iadd, 1) := by decide +kernel
theorem dX2_layWord_102 : decode cX2_layWord 102 = .ok (.iconst 1, 1) := by decide +kernel
theorem dX2_layWord_103 : decode cX2_layWord 103 = .ok (.iadd, 1) := by decide +kernel
theorem dX2_layWord_104 : decode cX2_layWord 104 = .ok (.putfield 39, 3) := by decide +kernel
theorem dX2_layWord_107 : decode cX2_layWord 107 = .ok (.iconst 1, 1) := by decide +kernel
theorem dX2_layWord_108 : decode cX2_layWord 108 = .ok (.ireturn, 1) := by decide +kernel
theorem dX2_layWord_109 : decode cX2_layWord 109 = .ok (.iinc 6 1, 3) := by decide +kernel
theorem dX2_layWord_112 : decode cX2_layWord 112 = .ok (.goto (-78), 3) := by decide +kernel
theorem dX2_layWord_115 : decode cX2_layWord 115 = .ok (.iconst 0, 1) := by decide +kernel
theorem dX2_layWord_116 : decode cX2_layWord 116 = .ok (.istore 4, 2) := by decide +kernel
theorem dX2_layWord_118 : decode cX2_layWord 118 = .ok (.iinc 5 1, 3) := by decide +kernel
theorem dX2_layWord_121 : decode cX2_layWord 121 = .ok (.goto (-100), 3) := by decide +kernel
theorem dX2_layWord_124 : decode cX2_layWord 124 = .ok (.iconst 0, 1) := by decide +kernel
theorem dX2_layWord_125 : decode cX2_layWord 125 = .ok (.ireturn, 1) := by decide +kernel
theorem dX2_cells_0 : decode cX2_cells 0 = .ok (.iconst 1, 1) := by decide +kernel
theorem dX2_cells_1 : decode cX2_cells 1 = .ok (.iload_n 1, 1) := by decide +kernel
theorem dX2_cells_2 : decode cX2_cells 2 = .ok (.ishl, 1) := by decide +kernel
theorem dX2_cells_3 : decode cX2_cells 3 = .ok (.iconst 1, 1) := by decide +kernel
theorem dX2_cells_4 : decode cX2_cells 4 = .ok (.isub, 1) := by decide +kernel
theorem dX2_cells_5 : decode cX2_cells 5 = .ok (.iload_n 0, 1) := by decide +kernel
theorem dX2_cells_6 : decode cX2_cells 6 = .ok (.ishl, 1) := by decide +kernel
theorem dX2_cells_7 : decode cX2_cells 7 = .ok (.ireturn, 1) := by decide +kernel
theorem dX2_centre_0 : decode cX2_centre 0 = .ok (.iload_n 2, 1) := by decide +kernel
theorem dX2_centre_1 : decode cX2_centre 1 = .ok (.istore 4, 2) := by decide +kernel
theorem dX2_centre_3 : decode cX2_centre 3 = .ok (.iload_n 2, 1) := by decide +kernel
theorem dX2_centre_4 : decode cX2_centre 4 = .ok (.iconst 1, 1) := by decide +kernel
theorem dX2_centre_5 : decode cX2_centre 5 = .ok (.iadd, 1) := by decide +kernel
theorem dX2_centre_6 : decode cX2_centre 6 = .ok (.istore 5, 2) := by decide +kernel
theorem dX2_centre_8 : decode cX2_centre 8 = .ok (.iload 5, 2) := by decide +kernel
theorem dX2_centre_10 : decode cX2_centre 10 = .ok (.iload_n 3, 1) := by decide +kernel
theorem dX2_centre_11 : decode cX2_centre 11 = .ok (.if_icmp .gt 49, 3) := by decide +kernel
theorem dX2_centre_14 : decode cX2_centre 14 = .ok (.iload 5, 2) := by decide +kernel
theorem dX2_centre_16 : decode cX2_centre 16 = .ok (.iload_n 3, 1) := by decide +kernel
theorem dX2_centre_17 : decode cX2_centre 17 = .ok (.if_icmp .eq 24, 3) := by decide +kernel
theorem dX2_centre_20 : decode cX2_centre 20 = .ok (.aload_n 0, 1) := by decide +kernel
theorem dX2_centre_21 : decode cX2_centre 21 = .ok (.getfield 14, 3) := by decide +kernel
theorem dX2_centre_24 : decode cX2_centre 24 = .ok (.iload 5, 2) := by decide +kernel
theorem dX2_centre_26 : decode cX2_centre 26 = .ok (.invokevirtual 50, 3) := by decide +kernel
theorem dX2_centre_29 : decode cX2_centre 29 = .ok (.aload_n 0, 1) := by decide +kernel
theorem dX2_centre_30 : decode cX2_centre 30 = .ok (.getfield 14, 3) := by decide +kernel
theorem dX2_centre_33 : decode cX2_centre 33 = .ok (.iload 4, 2) := by decide +kernel
theorem dX2_centre_35 : decode cX2_centre 35 = .ok (.invokevirtual 50, 3) := by decide +kernel
theorem dX2_centre_38 : decode cX2_centre 38 = .ok (.if_icmp .eq 16, 3) := by decide +kernel
theorem dX2_centre_41 : decode cX2_centre 41 = .ok (.aload_n 0, 1) := by decide +kernel
theorem dX2_centre_42 : decode cX2_centre 42 = .ok (.aload_n 1, 1) := by decide +kernel
theorem dX2_centre_43 : decode cX2_centre 43 = .ok (.iload 4, 2) := by decide +kernel
theorem dX2_centre_45 : decode cX2_centre 45 = .ok (.iload 5, 2) := by decide +kernel
theorem dX2_centre_47 : decode cX2_centre 47 = .ok (.invokevirtual 95, 3) := by decide +kernel
theorem dX2_centre_50 : decode cX2_centre 50 = .ok (.iload 5, 2) := by decide +kernel
theorem dX2_centre_52 : decode cX2_centre 52 = .ok (.istore 4, 2) := by decide +kernel
theorem dX2_centre_54 : decode cX2_centre 54 = .ok (.iinc 5 1, 3) := by decide +kernel
theorem dX2_centre_57 : decode cX2_centre 57 = .ok (.goto (-49), 3) := by decide +kernel
theorem dX2_centre_60 : decode cX2_centre 60 = .ok (.return_, 1) := by decide +kernel
theorem dX2_centreRow_0 : decode cX2_centreRow 0 = .ok (.iconst 0, 1) := by decide +kernel
theorem dX2_centreRow_1 : decode cX2_centreRow 1 = .ok (.istore 4, 2) := by decide +kernel
theorem dX2_centreRow_3 : decode cX2_centreRow 3 = .ok (.iconst 0, 1) := by decide +kernel
theorem dX2_centreRow_4 : decode cX2_centreRow 4 = .ok (.istore 5, 2) := by decide +kernel
theorem dX2_centreRow_6 : decode cX2_centreRow 6 = .ok (.iload_n 2, 1) := by decide +kernel
theorem dX2_centreRow_7 : decode cX2_centreRow 7 = .ok (.istore 6, 2) := by decide +kernel
theorem dX2_centreRow_9 : decode cX2_centreRow 9 = .ok (.iload 6, 2) := by decide +kernel
theorem dX2_centreRow_11 : decode cX2_centreRow 11 = .ok (.iload_n 3, 1) := by decide +kernel
theorem dX2_centreRow_12 : decode cX2_centreRow 12 = .ok (.if_icmp .ge 56, 3) := by decide +kernel
theorem dX2_centreRow_15 : decode cX2_centreRow 15 = .ok (.iload 4, 2) := by decide +kernel
theorem dX2_centreRow_17 : decode cX2_centreRow 17 = .ok (.aload_n 0, 1) := by decide +kernel
theorem dX2_centreRow_18 : decode cX2_centreRow 18 = .ok (.getfield 20, 3) := by decide +kernel
theorem dX2_centreRow_21 : decode cX2_centreRow 21 = .ok (.iload 6, 2) := by decide +kernel
theorem dX2_centreRow_23 : decode cX2_centreRow 23 = .ok (.invokevirtual 50, 3) := by decide +kernel
theorem dX2_centreRow_26 : decode cX2_centreRow 26 = .ok (.aload_n 1, 1) := by decide +kernel
theorem dX2_centreRow_27 : decode cX2_centreRow 27 = .ok (.getfield 79, 3) := by decide +kernel
theorem dX2_centreRow_30 : decode cX2_centreRow 30 = .ok (.iload 6, 2) := by decide +kernel
theorem dX2_centreRow_32 : decode cX2_centreRow 32 = .ok (.invokevirtual 50, 3) := by decide +kernel
theorem dX2_centreRow_35 : decode cX2_centreRow 35 = .ok (.invokestatic 91, 3) := by decide +kernel
theorem dX2_centreRow_38 : decode cX2_centreRow 38 = .ok (.ior, 1) := by decide +kernel
theorem dX2_centreRow_39 : decode cX2_centreRow 39 = .ok (.istore 4, 2) := by decide +kernel
theorem dX2_centreRow_41 : decode cX2_centreRow 41 = .ok (.aload_n 0, 1) := by decide +kernel
theorem dX2_centreRow_42 : decode cX2_centreRow 42 = .ok (.getfield 20, 3) := by decide +kernel
theorem dX2_centreRow_45 : decode cX2_centreRow 45 = .ok (.iload 6, 2) := by decide +kernel
theorem dX2_centreRow_47 : decode cX2_centreRow 47 = .ok (.invokevirtual 50, 3) := by decide +kernel
theorem dX2_centreRow_50 : decode cX2_centreRow 50 = .ok (.aload_n 1, 1) := by decide +kernel
theorem dX2_centreRow_51 : decode cX2_centreRow 51 = .ok (.getfield 79, 3) := by decide +kernel
theorem dX2_centreRow_54 : decode cX2_centreRow 54 = .ok (.iload 6, 2) := by decide +kernel
theorem dX2_centreRow_56 : decode cX2_centreRow 56 = .ok (.invokevirtual 50, 3) := by decide +kernel
theorem dX2_centreRow_59 : decode cX2_centreRow 59 = .ok (.iadd, 1) := by decide +kernel
theorem dX2_centreRow_60 : decode cX2_centreRow 60 = .ok (.istore 5, 2) := by decide +kernel
theorem dX2_centreRow_62 : decode cX2_centreRow 62 = .ok (.iinc 6 1, 3) := by decide +kernel
theorem dX2_centreRow_65 : decode cX2_centreRow 65 = .ok (.goto (-56), 3) := by decide +kernel
theorem dX2_centreRow_68 : decode cX2_centreRow 68 = .ok (.aload_n 1, 1) := by decide +kernel
theorem dX2_centreRow_69 : decode cX2_centreRow 69 = .ok (.getfield 88, 3) := by decide +kernel
theorem dX2_centreRow_72 : decode cX2_centreRow 72 = .ok (.aload_n 0, 1) := by decide +kernel
theorem dX2_centreRow_73 : decode cX2_centreRow 73 = .ok (.getfield 14, 3) := by decide +kernel
theorem dX2_centreRow_76 : decode cX2_centreRow 76 = .ok (.iload_n 2, 1) := by decide +kernel
theorem dX2_centreRow_77 : decode cX2_centreRow 77 = .ok (.invokevirtual 50, 3) := by decide +kernel
theorem dX2_centreRow_80 : decode cX2_centreRow 80 = .ok (.invokevirtual 50, 3) := by decide +kernel
theorem dX2_centreRow_83 : decode cX2_centreRow 83 = .ok (.istore 6, 2) := by decide +kernel
theorem dX2_centreRow_85 : decode cX2_centreRow 85 = .ok (.aload_n 1, 1) := by decide +kernel
theorem dX2_centreRow_86 : decode cX2_centreRow 86 = .ok (.getfield 85, 3) := by decide +kernel
theorem dX2_centreRow_89 : decode cX2_centreRow 89 = .ok (.iload 5, 2) := by decide +kernel
theorem dX2_centreRow_91 : decode cX2_centreRow 91 = .ok (.isub, 1) := by decide +kernel
theorem dX2_centreRow_92 : decode cX2_centreRow 92 = .ok (.iconst 2, 1) := by decide +kernel
theorem dX2_centreRow_93 : decode cX2_centreRow 93 = .ok (.idiv, 1) := by decide +kernel
theorem dX2_centreRow_94 : decode cX2_centreRow 94 = .ok (.istore 7, 2) := by decide +kernel
theorem dX2_centreRow_96 : decode cX2_centreRow 96 = .ok (.iload 7, 2) := by decide +kernel
theorem dX2_centreRow_98 : decode cX2_centreRow 98 = .ok (.ifCond .le 20, 3) := by decide +kernel
theorem dX2_centreRow_101 : decode cX2_centreRow 101 = .ok (.iload 6, 2) := by decide +kernel
theorem dX2_centreRow_103 : decode cX2_centreRow 103 = .ok (.iload 4, 2) := by decide +kernel
theorem dX2_centreRow_105 : decode cX2_centreRow 105 = .ok (.iload 7, 2) := by decide +kernel
theorem dX2_centreRow_107 : decode cX2_centreRow 107 = .ok (.ishl, 1) := by decide +kernel
theorem dX2_centreRow_108 : decode cX2_centreRow 108 = .ok (.iand, 1) := by decide +kernel
theorem dX2_centreRow_109 : decode cX2_centreRow 109 = .ok (.ifCond .eq 9, 3) := by decide +kernel
theorem dX2_centreRow_112 : decode cX2_centreRow 112 = .ok (.iinc 7 (-1), 3) := by decide +kernel
theorem dX2_centreRow_115 : decode cX2_centreRow 115 = .ok (.goto (-19), 3) := by decide +kernel
theorem dX2_centreRow_118 : decode cX2_centreRow 118 = .ok (.iload_n 2, 1) := by decide +kernel
theorem dX2_centreRow_119 : decode cX2_centreRow 119 = .ok (.istore 8, 2) := by decide +kernel
theorem dX2_centreRow_121 : decode cX2_centreRow 121 = .ok (.iload 8, 2) := by decide +kernel
theorem dX2_centreRow_123 : decode cX2_centreRow 123 = .ok (.iload_n 3, 1) := by decide +kernel
theorem dX2_centreRow_124 : decode cX2_centreRow 124 = .ok (.if_icmp .ge 30, 3) := by decide +kernel
theorem dX2_centreRow_127 : decode cX2_centreRow 127 = .ok (.aload_n 0, 1) := by decide +kernel
theorem dX2_centreRow_128 : decode cX2_centreRow 128 = .ok (.getfield 20, 3) := by decide +kernel
theorem dX2_centreRow_131 : decode cX2_centreRow 131 = .ok (.iload 8, 2) := by decide +kernel
theorem dX2_centreRow_133 : decode cX2_centreRow 133 = .ok (.aload_n 0, 1) := by decide +kernel
theorem dX2_centreRow_134 : decode cX2_centreRow 134 = .ok (.getfield 20, 3) := by decide +kernel
theorem dX2_centreRow_137 : decode cX2_centreRow 137 = .ok (.iload 8, 2) := by decide +kernel
theorem dX2_centreRow_139 : decode cX2_centreRow 139 = .ok (.invokevirtual 50, 3) := by decide +kernel
theorem dX2_centreRow_142 : decode cX2_centreRow 142 = .ok (.iload 7, 2) := by decide +kernel
theorem dX2_centreRow_144 : decode cX2_centreRow 144 = .ok (.iadd, 1) := by decide +kernel
theorem dX2_centreRow_145 : decode cX2_centreRow 145 = .ok (.invokevirtual 71, 3) := by decide +kernel
theorem dX2_centreRow_148 : decode cX2_centreRow 148 = .ok (.iinc 8 1, 3) := by decide +kernel
theorem dX2_centreRow_151 : decode cX2_centreRow 151 = .ok (.goto (-30), 3) := by decide +kernel
theorem dX2_centreRow_154 : decode cX2_centreRow 154 = .ok (.return_, 1) := by decide +kernel
theorem dX2_listLetters_0 : decode cX2_listLetters 0 = .ok (.aload_n 0, 1) := by decide +kernel
theorem dX2_listLetters_1 : decode cX2_listLetters 1 = .ok (.iconst 0, 1) := by decide +kernel
theorem dX2_listLetters_2 : decode cX2_listLetters 2 = .ok (.putfield 33, 3) := by decide +kernel
theorem dX2_listLetters_5 : decode cX2_listLetters 5 = .ok (.iconst 0, 1) := by decide +kernel
theorem dX2_listLetters_6 : decode cX2_listLetters 6 = .ok (.istore_n 2, 1) := by decide +kernel
theorem dX2_listLetters_7 : decode cX2_listLetters 7 = .ok (.iload_n 2, 1) := by decide +kernel
theorem dX2_listLetters_8 : decode cX2_listLetters 8 = .ok (.aload_n 0, 1) := by decide +kernel
theorem dX2_listLetters_9 : decode cX2_listLetters 9 = .ok (.getfield 29, 3) := by decide +kernel
theorem dX2_listLetters_12 : decode cX2_listLetters 12 = .ok (.if_icmp .ge 113, 3) := by decide +kernel
theorem dX2_listLetters_15 : decode cX2_listLetters 15 = .ok (.aload_n 1, 1) := by decide +kernel
theorem dX2_listLetters_16 : decode cX2_listLetters 16 = .ok (.getfield 79, 3) := by decide +kernel
theorem dX2_listLetters_19 : decode cX2_listLetters 19 = .ok (.iload_n 2, 1) := by decide +kernel
theorem dX2_listLetters_20 : decode cX2_listLetters 20 = .ok (.invokevirtual 50, 3) := by decide +kernel
theorem dX2_listLetters_23 : decode cX2_listLetters 23 = .ok (.istore_n 3, 1) := by decide +kernel
theorem dX2_listLetters_24 : decode cX2_listLetters 24 = .ok (.iconst 0, 1) := by decide +kernel
theorem dX2_listLetters_25 : decode cX2_listLetters 25 = .ok (.istore 4, 2) := by decide +kernel
theorem dX2_listLetters_27 : decode cX2_listLetters 27 = .ok (.iload 4, 2) := by decide +kernel
theorem dX2_listLetters_29 : decode cX2_listLetters 29 = .ok (.iload_n 3, 1) := by decide +kernel
theorem dX2_listLetters_30 : decode cX2_listLetters 30 = .ok (.if_icmp .ge 89, 3) := by decide +kernel
theorem dX2_listLetters_33 : decode cX2_listLetters 33 = .ok (.aload_n 0, 1) := by decide +kernel
theorem dX2_listLetters_34 : decode cX2_listLetters 34 = .ok (.getfield 20, 3) := by decide +kernel
theorem dX2_listLetters_37 : decode cX2_listLetters 37 = .ok (.iload_n 2, 1) := by decide +kernel
theorem dX2_listLetters_38 : decode cX2_listLetters 38 = .ok (.invokevirtual 50, 3) := by decide +kernel
theorem dX2_listLetters_41 : decode cX2_listLetters 41 = .ok (.iload 4, 2) := by decide +kernel
theorem dX2_listLetters_43 : decode cX2_listLetters 43 = .ok (.iadd, 1) := by decide +kernel
theorem dX2_listLetters_44 : decode cX2_listLetters 44 = .ok (.istore 5, 2) := by decide +kernel
theorem dX2_listLetters_46 : decode cX2_listLetters 46 = .ok (.aload_n 0, 1) := by decide +kernel
theorem dX2_listLetters_47 : decode cX2_listLetters 47 = .ok (.getfield 23, 3) := by decide +kernel
theorem dX2_listLetters_50 : decode cX2_listLetters 50 = .ok (.aload_n 0, 1) := by decide +kernel
theorem dX2_listLetters_51 : decode cX2_listLetters 51 = .ok (.getfield 33, 3) := by decide +kernel
theorem dX2_listLetters_54 : decode cX2_listLetters 54 = .ok (.bipush 100, 2) := by decide +kernel
theorem dX2_listLetters_56 : decode cX2_listLetters 56 = .ok (.aload_n 0, 1) := by decide +kernel
theorem dX2_listLetters_57 : decode cX2_listLetters 57 = .ok (.getfield 14, 3) := by decide +kernel
theorem dX2_listLetters_60 : decode cX2_listLetters 60 = .ok (.iload_n 2, 1) := by decide +kernel
theorem dX2_listLetters_61 : decode cX2_listLetters 61 = .ok (.invokevirtual 50, 3) := by decide +kernel
theorem dX2_listLetters_64 : decode cX2_listLetters 64 = .ok (.imul, 1) := by decide +kernel
theorem dX2_listLetters_65 : decode cX2_listLetters 65 = .ok (.iload 5, 2) := by decide +kernel
theorem dX2_listLetters_67 : decode cX2_listLetters 67 = .ok (.iadd, 1) := by decide +kernel
theorem dX2_listLetters_68 : decode cX2_listLetters 68 = .ok (.invokevirtual 71, 3) := by decide +kernel
theorem dX2_listLetters_71 : decode cX2_listLetters 71 = .ok (.aload_n 0, 1) := by decide +kernel
theorem dX2_listLetters_72 : decode cX2_listLetters 72 = .ok (.getfield 26, 3) := by decide +kernel
theorem dX2_listLetters_75 : decode cX2_listLetters 75 = .ok (.aload_n 0, 1) := by decide +kernel
theorem dX2_listLetters_76 : decode cX2_listLetters 76 = .ok (.getfield 33, 3) := by decide +kernel
theorem dX2_listLetters_79 : decode cX2_listLetters 79 = .ok (.aload_n 1, 1) := by decide +kernel
theorem dX2_listLetters_80 : decode cX2_listLetters 80 = .ok (.aload_n 1, 1) := by decide +kernel
theorem dX2_listLetters_81 : decode cX2_listLetters 81 = .ok (.iload_n 2, 1) := by decide +kernel
theorem dX2_listLetters_82 : decode cX2_listLetters 82 = .ok (.iload 4, 2) := by decide +kernel
theorem dX2_listLetters_84 : decode cX2_listLetters 84 = .ok (.invokevirtual 98, 3) := by decide +kernel
theorem dX2_listLetters_87 : decode cX2_listLetters 87 = .ok (.iload 5, 2) := by decide +kernel
theorem dX2_listLetters_89 : decode cX2_listLetters 89 = .ok (.aload_n 0, 1) := by decide +kernel
theorem dX2_listLetters_90 : decode cX2_listLetters 90 = .ok (.getfield 14, 3) := by decide +kernel
theorem dX2_listLetters_93 : decode cX2_listLetters 93 = .ok (.iload_n 2, 1) := by decide +kernel
theorem dX2_listLetters_94 : decode cX2_listLetters 94 = .ok (.invokevirtual 50, 3) := by decide +kernel
theorem dX2_listLetters_97 : decode cX2_listLetters 97 = .ok (.invokevirtual 101, 3) := by decide +kernel
theorem dX2_listLetters_100 : decode cX2_listLetters 100 = .ok (.invokevirtual 71, 3) := by decide +kernel
theorem dX2_listLetters_103 : decode cX2_listLetters 103 = .ok (.aload_n 0, 1) := by decide +kernel
theorem dX2_listLetters_104 : decode cX2_listLetters 104 = .ok (.dup, 1) := by decide +kernel
theorem dX2_listLetters_105 : decode cX2_listLetters 105 = .ok (.getfield 33, 3) := by decide +kernel
theorem dX2_listLetters_108 : decode cX2_listLetters 108 = .ok (.iconst 1, 1) := by decide +kernel
theorem dX2_listLetters_109 : decode cX2_listLetters 109 = .ok (.iadd, 1) := by decide +kernel
theorem dX2_listLetters_110 : decode cX2_listLetters 110 = .ok (.putfield 33, 3) := by decide +kernel
theorem dX2_listLetters_113 : decode cX2_listLetters 113 = .ok (.iinc 4 1, 3) := by decide +kernel
theorem dX2_listLetters_116 : decode cX2_listLetters 116 = .ok (.goto (-89), 3) := by decide +kernel
theorem dX2_listLetters_119 : decode cX2_listLetters 119 = .ok (.iinc 2 1, 3) := by decide +kernel
theorem dX2_listLetters_122 : decode cX2_listLetters 122 = .ok (.goto (-115), 3) := by decide +kernel
theorem dX2_listLetters_125 : decode cX2_listLetters 125 = .ok (.return_, 1) := by decide +kernel
theorem dX2_costsOf_0 : decode cX2_costsOf 0 = .ok (.iconst 0, 1) := by decide +kernel
theorem dX2_costsOf_1 : decode cX2_costsOf 1 = .ok (.istore_n 3, 1) := by decide +kernel
theorem dX2_costsOf_2 : decode cX2_costsOf 2 = .ok (.iload_n 1, 1) := by decide +kernel
theorem dX2_costsOf_3 : decode cX2_costsOf 3 = .ok (.istore 4, 2) := by decide +kernel
theorem dX2_costsOf_5 : decode cX2_costsOf 5 = .ok (.iload 4, 2) := by decide +kernel
theorem dX2_costsOf_7 : decode cX2_costsOf 7 = .ok (.iload_n 2, 1) := by decide +kernel
theorem dX2_costsOf_8 : decode cX2_costsOf 8 = .ok (.if_icmp .ge 21, 3) := by decide +kernel
theorem dX2_costsOf_11 : decode cX2_costsOf 11 = .ok (.iload_n 3, 1) := by decide +kernel
theorem dX2_costsOf_12 : decode cX2_costsOf 12 = .ok (.aload_n 0, 1) := by decide +kernel
theorem dX2_costsOf_13 : decode cX2_costsOf 13 = .ok (.getfield 26, 3) := by decide +kernel
theorem dX2_costsOf_16 : decode cX2_costsOf 16 = .ok (.iload 4, 2) := by decide +kernel
theorem dX2_costsOf_18 : decode cX2_costsOf 18 = .ok (.invokevirtual 50, 3) := by decide +kernel
theorem dX2_costsOf_21 : decode cX2_costsOf 21 = .ok (.iadd, 1) := by decide +kernel
theorem dX2_costsOf_22 : decode cX2_costsOf 22 = .ok (.istore_n 3, 1) := by decide +kernel
theorem dX2_costsOf_23 : decode cX2_costsOf 23 = .ok (.iinc 4 1, 3) := by decide +kernel
theorem dX2_costsOf_26 : decode cX2_costsOf 26 = .ok (.goto (-21), 3) := by decide +kernel
theorem dX2_costsOf_29 : decode cX2_costsOf 29 = .ok (.iload_n 3, 1) := by decide +kernel
theorem dX2_costsOf_30 : decode cX2_costsOf 30 = .ok (.ireturn, 1) := by decide +kernel
theorem dX2_wordOn_0 : decode cX2_wordOn 0 = .ok (.iconst 0, 1) := by decide +kernel
theorem dX2_wordOn_1 : decode cX2_wordOn 1 = .ok (.istore 4, 2) := by decide +kernel
theorem dX2_wordOn_3 : decode cX2_wordOn 3 = .ok (.iload 4, 2) := by decide +kernel
theorem dX2_wordOn_5 : decode cX2_wordOn 5 = .ok (.aload_n 0, 1) := by decide +kernel
theorem dX2_wordOn_6 : decode cX2_wordOn 6 = .ok (.getfield 29, 3) := by decide +kernel
theorem dX2_wordOn_9 : decode cX2_wordOn 9 = .ok (.if_icmp .ge 70, 3) := by decide +kernel
theorem dX2_wordOn_12 : decode cX2_wordOn 12 = .ok (.aload_n 0, 1) := by decide +kernel
theorem dX2_wordOn_13 : decode cX2_wordOn 13 = .ok (.getfield 20, 3) := by decide +kernel
theorem dX2_wordOn_16 : decode cX2_wordOn 16 = .ok (.iload 4, 2) := by decide +kernel
theorem dX2_wordOn_18 : decode cX2_wordOn 18 = .ok (.invokevirtual 50, 3) := by decide +kernel
theorem dX2_wordOn_21 : decode cX2_wordOn 21 = .ok (.istore 5, 2) := by decide +kernel
theorem dX2_wordOn_23 : decode cX2_wordOn 23 = .ok (.iload 5, 2) := by decide +kernel
theorem dX2_wordOn_25 : decode cX2_wordOn 25 = .ok (.iload_n 2, 1) := by decide +kernel
theorem dX2_wordOn_26 : decode cX2_wordOn 26 = .ok (.if_icmp .gt 23, 3) := by decide +kernel
theorem dX2_wordOn_29 : decode cX2_wordOn 29 = .ok (.iload_n 2, 1) := by decide +kernel
theorem dX2_wordOn_30 : decode cX2_wordOn 30 = .ok (.iload 5, 2) := by decide +kernel
theorem dX2_wordOn_32 : decode cX2_wordOn 32 = .ok (.aload_n 1, 1) := by decide +kernel
theorem dX2_wordOn_33 : decode cX2_wordOn 33 = .ok (.getfield 79, 3) := by decide +kernel
theorem dX2_wordOn_36 : decode cX2_wordOn 36 = .ok (.iload 4, 2) := by decide +kernel
theorem dX2_wordOn_38 : decode cX2_wordOn 38 = .ok (.invokevirtual 50, 3) := by decide +kernel
theorem dX2_wordOn_41 : decode cX2_wordOn 41 = .ok (.iadd, 1) := by decide +kernel
theorem dX2_wordOn_42 : decode cX2_wordOn 42 = .ok (.if_icmp .ge 7, 3) := by decide +kernel
theorem dX2_wordOn_45 : decode cX2_wordOn 45 = .ok (.iconst 1, 1) := by decide +kernel
theorem dX2_wordOn_46 : decode cX2_wordOn 46 = .ok (.goto 4, 3) := by decide +kernel
theorem dX2_wordOn_49 : decode cX2_wordOn 49 = .ok (.iconst 0, 1) := by decide +kernel
theorem dX2_wordOn_50 : decode cX2_wordOn 50 = .ok (.istore 6, 2) := by decide +kernel
theorem dX2_wordOn_52 : decode cX2_wordOn 52 = .ok (.iload 6, 2) := by decide +kernel
theorem dX2_wordOn_54 : decode cX2_wordOn 54 = .ok (.ifCond .eq 19, 3) := by decide +kernel
theorem dX2_wordOn_57 : decode cX2_wordOn 57 = .ok (.aload_n 0, 1) := by decide +kernel
theorem dX2_wordOn_58 : decode cX2_wordOn 58 = .ok (.getfield 14, 3) := by decide +kernel
theorem dX2_wordOn_61 : decode cX2_wordOn 61 = .ok (.iload 4, 2) := by decide +kernel
theorem dX2_wordOn_63 : decode cX2_wordOn 63 = .ok (.invokevirtual 50, 3) := by decide +kernel
theorem dX2_wordOn_66 : decode cX2_wordOn 66 = .ok (.iload_n 3, 1) := by decide +kernel
theorem dX2_wordOn_67 : decode cX2_wordOn 67 = .ok (.if_icmp .ne 6, 3) := by decide +kernel
theorem dX2_wordOn_70 : decode cX2_wordOn 70 = .ok (.iload 4, 2) := by decide +kernel
theorem dX2_wordOn_72 : decode cX2_wordOn 72 = .ok (.ireturn, 1) := by decide +kernel
theorem dX2_wordOn_73 : decode cX2_wordOn 73 = .ok (.iinc 4 1, 3) := by decide +kernel
theorem dX2_wordOn_76 : decode cX2_wordOn 76 = .ok (.goto (-73), 3) := by decide +kernel
theorem dX2_wordOn_79 : decode cX2_wordOn 79 = .ok (.iconst (-1), 1) := by decide +kernel
theorem dX2_wordOn_80 : decode cX2_wordOn 80 = .ok (.ireturn, 1) := by decide +kernel
theorem dX3_init_0 : decode cX3_init 0 = .ok (.aload_n 0, 1) := by decide +kernel
theorem dX3_init_1 : decode cX3_init 1 = .ok (.invokespecial 3, 3) := by decide +kernel
theorem dX3_init_4 : decode cX3_init 4 = .ok (.aload_n 0, 1) := by decide +kernel
theorem dX3_init_5 : decode cX3_init 5 = .ok (.iconst 0, 1) := by decide +kernel
theorem dX3_init_6 : decode cX3_init 6 = .ok (.putfield 9, 3) := by decide +kernel
theorem dX3_init_9 : decode cX3_init 9 = .ok (.aload_n 0, 1) := by decide +kernel
theorem dX3_init_10 : decode cX3_init 10 = .ok (.iconst (-1), 1) := by decide +kernel
theorem dX3_init_11 : decode cX3_init 11 = .ok (.putfield 15, 3) := by decide +kernel
theorem dX3_init_14 : decode cX3_init 14 = .ok (.aload_n 0, 1) := by decide +kernel
theorem dX3_init_15 : decode cX3_init 15 = .ok (.iconst 0, 1) := by decide +kernel
theorem dX3_init_16 : decode cX3_init 16 = .ok (.putfield 18, 3) := by decide +kernel
theorem dX3_init_19 : decode cX3_init 19 = .ok (.aload_n 0, 1) := by decide +kernel
theorem dX3_init_20 : decode cX3_init 20 = .ok (.iconst 0, 1) := by decide +kernel
theorem dX3_init_21 : decode cX3_init 21 = .ok (.putfield 21, 3) := by decide +kernel
theorem dX3_init_24 : decode cX3_init 24 = .ok (.aload_n 0, 1) := by decide +kernel
theorem dX3_init_25 : decode cX3_init 25 = .ok (.iconst 0, 1) := by decide +kernel
theorem dX3_init_26 : decode cX3_init 26 = .ok (.putfield 24, 3) := by decide +kernel
theorem dX3_init_29 : decode cX3_init 29 = .ok (.aload_n 0, 1) := by decide +kernel
theorem dX3_init_30 : decode cX3_init 30 = .ok (.iconst 0, 1) := by decide +kernel
theorem dX3_init_31 : decode cX3_init 31 = .ok (.putfield 28, 3) := by decide +kernel
theorem dX3_init_34 : decode cX3_init 34 = .ok (.aload_n 0, 1) := by decide +kernel
theorem dX3_init_35 : decode cX3_init 35 = .ok (.aload_n 1, 1) := by decide +kernel
theorem dX3_init_36 : decode cX3_init 36 = .ok (.putfield 31, 3) := by decide +kernel
theorem dX3_init_39 : decode cX3_init 39 = .ok (.return_, 1) := by decide +kernel
theorem dX3_read_0 : decode cX3_read 0 = .ok (.aload_n 0, 1) := by decide +kernel
theorem dX3_read_1 : decode cX3_read 1 = .ok (.iconst 0, 1) := by decide +kernel
theorem dX3_read_2 : decode cX3_read 2 = .ok (.putfield 9, 3) := by decide +kernel
theorem dX3_read_5 : decode cX3_read 5 = .ok (.aload_n 0, 1) := by decide +kernel
theorem dX3_read_6 : decode cX3_read 6 = .ok (.iconst (-1), 1) := by decide +kernel
theorem dX3_read_7 : decode cX3_read 7 = .ok (.putfield 15, 3) := by decide +kernel
theorem dX3_read_10 : decode cX3_read 10 = .ok (.aload_n 0, 1) := by decide +kernel
theorem dX3_read_11 : decode cX3_read 11 = .ok (.iconst 0, 1) := by decide +kernel
theorem dX3_read_12 : decode cX3_read 12 = .ok (.putfield 21, 3) := by decide +kernel
theorem dX3_read_15 : decode cX3_read 15 = .ok (.aload_n 0, 1) := by decide +kernel
theorem dX3_read_16 : decode cX3_read 16 = .ok (.iconst 0, 1) := by decide +kernel
theorem dX3_read_17 : decode cX3_read 17 = .ok (.putfield 24, 3) := by decide +kernel
theorem dX3_read_20 : decode cX3_read 20 = .ok (.aload_n 0, 1) := by decide +kernel
theorem dX3_read_21 : decode cX3_read 21 = .ok (.iconst 0, 1) := by decide +kernel
theorem dX3_read_22 : decode cX3_read 22 = .ok (.putfield 28, 3) := by decide +kernel
theorem dX3_read_25 : decode cX3_read 25 = .ok (.aload_n 0, 1) := by decide +kernel
theorem dX3_read_26 : decode cX3_read 26 = .ok (.getfield 31, 3) := by decide +kernel
theorem dX3_read_29 : decode cX3_read 29 = .ok (.invokevirtual 35, 3) := by decide +kernel
theorem dX3_read_32 : decode cX3_read 32 = .ok (.aload_n 0, 1) := by decide +kernel
theorem dX3_read_33 : decode cX3_read 33 = .ok (.aload_n 1, 1) := by decide +kernel
theorem dX3_read_34 : decode cX3_read 34 = .ok (.invokevirtual 40, 3) := by decide +kernel
theorem dX3_read_37 : decode cX3_read 37 = .ok (.istore_n 2, 1) := by decide +kernel
theorem dX3_read_38 : decode cX3_read 38 = .ok (.iconst 0, 1) := by decide +kernel
theorem dX3_read_39 : decode cX3_read 39 = .ok (.istore_n 3, 1) := by decide +kernel
theorem dX3_read_40 : decode cX3_read 40 = .ok (.iload_n 3, 1) := by decide +kernel
theorem dX3_read_41 : decode cX3_read 41 = .ok (.sipush 500, 3) := by decide +kernel
theorem dX3_read_44 : decode cX3_read 44 = .ok (.if_icmp .ge 29, 3) := by decide +kernel
theorem dX3_read_47 : decode cX3_read 47 = .ok (.iload_n 2, 1) := by decide +kernel
theorem dX3_read_48 : decode cX3_read 48 = .ok (.ifCond .eq 25, 3) := by decide +kernel
theorem dX3_read_51 : decode cX3_read 51 = .ok (.aload_n 0, 1) := by decide +kernel
theorem dX3_read_52 : decode cX3_read 52 = .ok (.getfield 31, 3) := by decide +kernel
theorem dX3_read_55 : decode cX3_read 55 = .ok (.getfield 44, 3) := by decide +kernel
theorem dX3_read_58 : decode cX3_read 58 = .ok (.ifCond .eq 15, 3) := by decide +kernel
theorem dX3_read_61 : decode cX3_read 61 = .ok (.aload_n 0, 1) := by decide +kernel
theorem dX3_read_62 : decode cX3_read 62 = .ok (.aload_n 1, 1) := by decide +kernel
theorem dX3_read_63 : decode cX3_read 63 = .ok (.invokevirtual 47, 3) := by decide +kernel
theorem dX3_read_66 : decode cX3_read 66 = .ok (.istore_n 2, 1) := by decide +kernel
theorem dX3_read_67 : decode cX3_read 67 = .ok (.iinc 3 1, 3) := by decide +kernel
theorem dX3_read_70 : decode cX3_read 70 = .ok (.goto (-30), 3) := by decide +kernel
theorem dX3_read_73 : decode cX3_read 73 = .ok (.iload_n 2, 1) := by decide +kernel
theorem dX3_read_74 : decode cX3_read 74 = .ok (.ireturn, 1) := by decide +kernel
theorem dX3_fail_0 : decode cX3_fail 0 = .ok (.aload_n 0, 1) := by decide +kernel
theorem dX3_fail_1 : decode cX3_fail 1 = .ok (.iload_n 1, 1) := by decide +kernel
theorem dX3_fail_2 : decode cX3_fail 2 = .ok (.putfield 9, 3) := by decide +kernel
theorem dX3_fail_5 : decode cX3_fail 5 = .ok (.aload_n 0, 1) := by decide +kernel
theorem dX3_fail_6 : decode cX3_fail 6 = .ok (.aload_n 0, 1) := by decide +kernel
theorem dX3_fail_7 : decode cX3_fail 7 = .ok (.getfield 31, 3) := by decide +kernel
theorem dX3_fail_10 : decode cX3_fail 10 = .ok (.getfield 50, 3) := by decide +kernel
theorem dX3_fail_13 : decode cX3_fail 13 = .ok (.putfield 15, 3) := by decide +kernel
theorem dX3_fail_16 : decode cX3_fail 16 = .ok (.iconst 0, 1) := by decide +kernel
theorem dX3_fail_17 : decode cX3_fail 17 = .ok (.ireturn, 1) := by decide +kernel
theorem dX3_readSize_0 : decode cX3_readSize 0 = .ok (.aload_n 0, 1) := by decide +kernel
theorem dX3_readSize_1 : decode cX3_readSize 1 = .ok (.getfield 31, 3) := by decide +kernel
theorem dX3_readSize_4 : decode cX3_readSize 4 = .ok (.ldc 53, 2) := by decide +kernel
theorem dX3_readSize_6 : decode cX3_readSize 6 = .ok (.invokevirtual 55, 3) := by decide +kernel
theorem dX3_readSize_9 : decode cX3_readSize 9 = .ok (.ifCond .ne 9, 3) := by decide +kernel
theorem dX3_readSize_12 : decode cX3_readSize 12 = .ok (.aload_n 0, 1) := by decide +kernel
theorem dX3_readSize_13 : decode cX3_readSize 13 = .ok (.iconst 1, 1) := by decide +kernel
theorem dX3_readSize_14 : decode cX3_readSize 14 = .ok (.invokevirtual 59, 3) := by decide +kernel
theorem dX3_readSize_17 : decode cX3_readSize 17 = .ok (.ireturn, 1) := by decide +kernel
theorem dX3_readSize_18 : decode cX3_readSize 18 = .ok (.aload_n 0, 1) := by decide +kernel
theorem dX3_readSize_19 : decode cX3_readSize 19 = .ok (.getfield 31, 3) := by decide +kernel
theorem dX3_readSize_22 : decode cX3_readSize 22 = .ok (.invokevirtual 63, 3) := by decide +kernel
theorem dX3_readSize_25 : decode cX3_readSize 25 = .ok (.aload_n 0, 1) := by decide +kernel
theorem dX3_readSize_26 : decode cX3_readSize 26 = .ok (.iconst 4, 1) := by decide +kernel
theorem dX3_readSize_27 : decode cX3_readSize 27 = .ok (.bipush 24, 2) := by decide +kernel
theorem dX3_readSize_29 : decode cX3_readSize 29 = .ok (.invokevirtual 66, 3) := by decide +kernel
theorem dX3_readSize_32 : decode cX3_readSize 32 = .ok (.ifCond .ne 5, 3) := by decide +kernel
theorem dX3_readSize_35 : decode cX3_readSize 35 = .ok (.iconst 0, 1) := by decide +kernel
theorem dX3_readSize_36 : decode cX3_readSize 36 = .ok (.ireturn, 1) := by decide +kernel
theorem dX3_readSize_37 : decode cX3_readSize 37 = .ok (.aload_n 0, 1) := by decide +kernel
theorem dX3_readSize_38 : decode cX3_readSize 38 = .ok (.getfield 18, 3) := by decide +kernel
theorem dX3_readSize_41 : decode cX3_readSize 41 = .ok (.istore_n 2, 1) := by decide +kernel
theorem dX3_readSize_42 : decode cX3_readSize 42 = .ok (.aload_n 0, 1) := by decide +kernel
theorem dX3_readSize_43 : decode cX3_readSize 43 = .ok (.iconst 2, 1) := by decide +kernel
theorem dX3_readSize_44 : decode cX3_readSize 44 = .ok (.bipush 12, 2) := by decide +kernel
theorem dX3_readSize_46 : decode cX3_readSize 46 = .ok (.invokevirtual 66, 3) := by decide +kernel
theorem dX3_readSize_49 : decode cX3_readSize 49 = .ok (.ifCond .ne 5, 3) := by decide +kernel
theorem dX3_readSize_52 : decode cX3_readSize 52 = .ok (.iconst 0, 1) := by decide +kernel
theorem dX3_readSize_53 : decode cX3_readSize 53 = .ok (.ireturn, 1) := by decide +kernel
theorem dX3_readSize_54 : decode cX3_readSize 54 = .ok (.aload_n 1, 1) := by decide +kernel
theorem dX3_readSize_55 : decode cX3_readSize 55 = .ok (.iload_n 2, 1) := by decide +kernel
theorem dX3_readSize_56 : decode cX3_readSize 56 = .ok (.aload_n 0, 1) := by decide +kernel
theorem dX3_readSize_57 : decode cX3_readSize 57 = .ok (.getfield 18, 3) := by decide +kernel
theorem dX3_readSize_60 : decode cX3_readSize 60 = .ok (.invokevirtual 70, 3) := by decide +kernel
theorem dX3_readSize_63 : decode cX3_readSize 63 = .ok (.aload_n 0, 1) := by decide +kernel
theorem dX3_readSize_64 : decode cX3_readSize 64 = .ok (.invokevirtual 76, 3) := by decide +kernel
theorem dX3_readSize_67 : decode cX3_readSize 67 = .ok (.ireturn, 1) := by decide +kernel
theorem dX3_readStatement_0 : decode cX3_readStatement 0 = .ok (.aload_n 0, 1) := by decide +kernel
theorem dX3_readStatement_1 : decode cX3_readStatement 1 = .ok (.getfield 31, 3) := by decide +kernel
theorem dX3_readStatement_4 : decode cX3_readStatement 4 = .ok (.ldc 80, 2) := by decide +kernel
theorem dX3_readStatement_6 : decode cX3_readStatement 6 = .ok (.invokevirtual 55, 3) := by decide +kernel
theorem dX3_readStatement_9 : decode cX3_readStatement 9 = .ok (.ifCond .eq 9, 3) := by decide +kernel
theorem dX3_readStatement_12 : decode cX3_readStatement 12 = .ok (.aload_n 0, 1) := by decide +kernel
theorem dX3_readStatement_13 : decode cX3_readStatement 13 = .ok (.aload_n 1, 1) := by decide +kernel
theorem dX3_readStatement_14 : decode cX3_readStatement 14 = .ok (.invokevirtual 82, 3) := by decide +kernel
theorem dX3_readStatement_17 : decode cX3_readStatement 17 = .ok (.ireturn, 1) := by decide +kernel
theorem dX3_readStatement_18 : decode cX3_readStatement 18 = .ok (.aload_n 0, 1) := by decide +kernel
theorem dX3_readStatement_19 : decode cX3_readStatement 19 = .ok (.getfield 31, 3) := by decide +kernel
theorem dX3_readStatement_22 : decode cX3_readStatement 22 = .ok (.ldc 85, 2) := by decide +kernel
theorem dX3_readStatement_24 : decode cX3_readStatement 24 = .ok (.invokevirtual 55, 3) := by decide +kernel
theorem dX3_readStatement_27 : decode cX3_readStatement 27 = .ok (.ifCond .eq 9, 3) := by decide +kernel
theorem dX3_readStatement_30 : decode cX3_readStatement 30 = .ok (.aload_n 0, 1) := by decide +kernel
theorem dX3_readStatement_31 : decode cX3_readStatement 31 = .ok (.aload_n 1, 1) := by decide +kernel
theorem dX3_readStatement_32 : decode cX3_readStatement 32 = .ok (.invokevirtual 87, 3) := by decide +kernel
theorem dX3_readStatement_35 : decode cX3_readStatement 35 = .ok (.ireturn, 1) := by decide +kernel
theorem dX3_readStatement_36 : decode cX3_readStatement 36 = .ok (.aload_n 0, 1) := by decide +kernel
theorem dX3_readStatement_37 : decode cX3_readStatement 37 = .ok (.getfield 31, 3) := by decide +kernel
theorem dX3_readStatement_40 : decode cX3_readStatement 40 = .ok (.ldc 90, 2) := by decide +kernel
theorem dX3_readStatement_42 : decode cX3_readStatement 42 = .ok (.invokevirtual 55, 3) := by decide +kernel
theorem dX3_readStatement_45 : decode cX3_readStatement 45 = .ok (.ifCond .eq 9, 3) := by decide +kernel
theorem dX3_readStatement_48 : decode cX3_readStatement 48 = .ok (.aload_n 0, 1) := by decide +kernel
theorem dX3_readStatement_49 : decode cX3_readStatement 49 = .ok (.aload_n 1, 1) := by decide +kernel
theorem dX3_readStatement_50 : decode cX3_readStatement 50 = .ok (.invokevirtual 92, 3) := by decide +kernel
theorem dX3_readStatement_53 : decode cX3_readStatement 53 = .ok (.ireturn, 1) := by decide +kernel
theorem dX3_readStatement_54 : decode cX3_readStatement 54 = .ok (.aload_n 0, 1) := by decide +kernel
theorem dX3_readStatement_55 : decode cX3_readStatement 55 = .ok (.getfield 31, 3) := by decide +kernel
theorem dX3_readStatement_58 : decode cX3_readStatement 58 = .ok (.ldc 95, 2) := by decide +kernel
theorem dX3_readStatement_60 : decode cX3_readStatement 60 = .ok (.invokevirtual 55, 3) := by decide +kernel
theorem dX3_readStatement_63 : decode cX3_readStatement 63 = .ok (.ifCond .eq 10, 3) := by decide +kernel
theorem dX3_readStatement_66 : decode cX3_readStatement 66 = .ok (.aload_n 0, 1) := by decide +kernel
theorem dX3_readStatement_67 : decode cX3_readStatement 67 = .ok (.aload_n 1, 1) := by decide +kernel
theorem dX3_readStatement_68 : decode cX3_readStatement 68 = .ok (.iconst 0, 1) := by decide +kernel
theorem dX3_readStatement_69 : decode cX3_readStatement 69 = .ok (.invokevirtual 97, 3) := by decide +kernel
theorem dX3_readStatement_72 : decode cX3_readStatement 72 = .ok (.ireturn, 1) := by decide +kernel
theorem dX3_readStatement_73 : decode cX3_readStatement 73 = .ok (.aload_n 0, 1) := by decide +kernel
theorem dX3_readStatement_74 : decode cX3_readStatement 74 = .ok (.getfield 31, 3) := by decide +kernel
theorem dX3_readStatement_77 : decode cX3_readStatement 77 = .ok (.ldc 101, 2) := by decide +kernel
theorem dX3_readStatement_79 : decode cX3_readStatement 79 = .ok (.invokevirtual 55, 3) := by decide +kernel
theorem dX3_readStatement_82 : decode cX3_readStatement 82 = .ok (.ifCond .eq 10, 3) := by decide +kernel
theorem dX3_readStatement_85 : decode cX3_readStatement 85 = .ok (.aload_n 0, 1) := by decide +kernel
theorem dX3_readStatement_86 : decode cX3_readStatement 86 = .ok (.aload_n 1, 1) := by decide +kernel
theorem dX3_readStatement_87 : decode cX3_readStatement 87 = .ok (.iconst 1, 1) := by decide +kernel
theorem dX3_readStatement_88 : decode cX3_readStatement 88 = .ok (.invokevirtual 97, 3) := by decide +kernel
theorem dX3_readStatement_91 : decode cX3_readStatement 91 = .ok (.ireturn, 1) := by decide +kernel
theorem dX3_readStatement_92 : decode cX3_readStatement 92 = .ok (.aload_n 0, 1) := by decide +kernel
theorem dX3_readStatement_93 : decode cX3_readStatement 93 = .ok (.getfield 31, 3) := by decide +kernel
theorem dX3_readStatement_96 : decode cX3_readStatement 96 = .ok (.ldc 103, 2) := by decide +kernel
theorem dX3_readStatement_98 : decode cX3_readStatement 98 = .ok (.invokevirtual 55, 3) := by decide +kernel
theorem dX3_readStatement_101 : decode cX3_readStatement 101 = .ok (.ifCond .eq 10, 3) := by decide +kernel
theorem dX3_readStatement_104 : decode cX3_readStatement 104 = .ok (.aload_n 0, 1) := by decide +kernel
theorem dX3_readStatement_105 : decode cX3_readStatement 105 = .ok (.aload_n 1, 1) := by decide +kernel
theorem dX3_readStatement_106 : decode cX3_readStatement 106 = .ok (.iconst 2, 1) := by decide +kernel
theorem dX3_readStatement_107 : decode cX3_readStatement 107 = .ok (.invokevirtual 97, 3) := by decide +kernel
theorem dX3_readStatement_110 : decode cX3_readStatement 110 = .ok (.ireturn, 1) := by decide +kernel
theorem dX3_readStatement_111 : decode cX3_readStatement 111 = .ok (.aload_n 0, 1) := by decide +kernel
theorem dX3_readStatement_112 : decode cX3_readStatement 112 = .ok (.iconst 1, 1) := by decide +kernel
theorem dX3_readStatement_113 : decode cX3_readStatement 113 = .ok (.invokevirtual 59, 3) := by decide +kernel
theorem dX3_readStatement_116 : decode cX3_readStatement 116 = .ok (.ireturn, 1) := by decide +kernel
theorem dX3_readFlaws_0 : decode cX3_readFlaws 0 = .ok (.iconst 1, 1) := by decide +kernel
theorem dX3_readFlaws_1 : decode cX3_readFlaws 1 = .ok (.istore_n 2, 1) := by decide +kernel
theorem dX3_readFlaws_2 : decode cX3_readFlaws 2 = .ok (.iconst 0, 1) := by decide +kernel
theorem dX3_readFlaws_3 : decode cX3_readFlaws 3 = .ok (.istore_n 3, 1) := by decide +kernel
theorem dX3_readFlaws_4 : decode cX3_readFlaws 4 = .ok (.iload_n 3, 1) := by decide +kernel
theorem dX3_readFlaws_5 : decode cX3_readFlaws 5 = .ok (.sipush 500, 3) := by decide +kernel
theorem dX3_readFlaws_8 : decode cX3_readFlaws 8 = .ok (.if_icmp .ge 40, 3) := by decide +kernel
theorem dX3_readFlaws_11 : decode cX3_readFlaws 11 = .ok (.iload_n 2, 1) := by decide +kernel
theorem dX3_readFlaws_12 : decode cX3_readFlaws 12 = .ok (.ifCond .eq 36, 3) := by decide +kernel
theorem dX3_readFlaws_15 : decode cX3_readFlaws 15 = .ok (.aload_n 0, 1) := by decide +kernel
theorem dX3_readFlaws_16 : decode cX3_readFlaws 16 = .ok (.getfield 31, 3) := by decide +kernel
theorem dX3_readFlaws_19 : decode cX3_readFlaws 19 = .ok (.invokevirtual 63, 3) := by decide +kernel
theorem dX3_readFlaws_22 : decode cX3_readFlaws 22 = .ok (.aload_n 0, 1) := by decide +kernel
theorem dX3_readFlaws_23 : decode cX3_readFlaws 23 = .ok (.aload_n 1, 1) := by decide +kernel
theorem dX3_readFlaws_24 : decode cX3_readFlaws 24 = .ok (.invokevirtual 105, 3) := by decide +kernel
theorem dX3_readFlaws_27 : decode cX3_readFlaws 27 = .ok (.ifCond .ne 5, 3) := by decide +kernel
theorem dX3_readFlaws_30 : decode cX3_readFlaws 30 = .ok (.iconst 0, 1) := by decide +kernel
theorem dX3_readFlaws_31 : decode cX3_readFlaws 31 = .ok (.ireturn, 1) := by decide +kernel
theorem dX3_readFlaws_32 : decode cX3_readFlaws 32 = .ok (.aload_n 0, 1) := by decide +kernel
theorem dX3_readFlaws_33 : decode cX3_readFlaws 33 = .ok (.getfield 31, 3) := by decide +kernel
theorem dX3_readFlaws_36 : decode cX3_readFlaws 36 = .ok (.ldc 108, 2) := by decide +kernel
theorem dX3_readFlaws_38 : decode cX3_readFlaws 38 = .ok (.invokevirtual 55, 3) := by decide +kernel
theorem dX3_readFlaws_41 : decode cX3_readFlaws 41 = .ok (.istore_n 2, 1) := by decide +kernel
theorem dX3_readFlaws_42 : decode cX3_readFlaws 42 = .ok (.iinc 3 1, 3) := by decide +kernel
theorem dX3_readFlaws_45 : decode cX3_readFlaws 45 = .ok (.goto (-41), 3) := by decide +kernel
theorem dX3_readFlaws_48 : decode cX3_readFlaws 48 = .ok (.aload_n 0, 1) := by decide +kernel
theorem dX3_readFlaws_49 : decode cX3_readFlaws 49 = .ok (.invokevirtual 76, 3) := by decide +kernel
theorem dX3_readFlaws_52 : decode cX3_readFlaws 52 = .ok (.ireturn, 1) := by decide +kernel
theorem dX3_readFlaw_0 : decode cX3_readFlaw 0 = .ok (.aload_n 0, 1) := by decide +kernel
theorem dX3_readFlaw_1 : decode cX3_readFlaw 1 = .ok (.iconst 0, 1) := by decide +kernel
theorem dX3_readFlaw_2 : decode cX3_readFlaw 2 = .ok (.aload_n 1, 1) := by decide +kernel
theorem dX3_readFlaw_3 : decode cX3_readFlaw 3 = .ok (.getfield 110, 3) := by decide +kernel
theorem dX3_readFlaw_6 : decode cX3_readFlaw 6 = .ok (.iconst 1, 1) := by decide +kernel
theorem dX3_readFlaw_7 : decode cX3_readFlaw 7 = .ok (.isub, 1) := by decide +kernel
theorem dX3_readFlaw_8 : decode cX3_readFlaw 8 = .ok (.invokevirtual 113, 3) := by decide +kernel
theorem dX3_readFlaw_11 : decode cX3_readFlaw 11 = .ok (.ifCond .ne 5, 3) := by decide +kernel
theorem dX3_readFlaw_14 : decode cX3_readFlaw 14 = .ok (.iconst 0, 1) := by decide +kernel
theorem dX3_readFlaw_15 : decode cX3_readFlaw 15 = .ok (.ireturn, 1) := by decide +kernel
theorem dX3_readFlaw_16 : decode cX3_readFlaw 16 = .ok (.aload_n 0, 1) := by decide +kernel
theorem dX3_readFlaw_17 : decode cX3_readFlaw 17 = .ok (.getfield 21, 3) := by decide +kernel
theorem dX3_readFlaw_20 : decode cX3_readFlaw 20 = .ok (.bipush 40, 2) := by decide +kernel
theorem dX3_readFlaw_22 : decode cX3_readFlaw 22 = .ok (.if_icmp .lt 9, 3) := by decide +kernel
theorem dX3_readFlaw_25 : decode cX3_readFlaw 25 = .ok (.aload_n 0, 1) := by decide +kernel
theorem dX3_readFlaw_26 : decode cX3_readFlaw 26 = .ok (.iconst 5, 1) := by decide +kernel
theorem dX3_readFlaw_27 : decode cX3_readFlaw 27 = .ok (.invokevirtual 59, 3) := by decide +kernel
theorem dX3_readFlaw_30 : decode cX3_readFlaw 30 = .ok (.ireturn, 1) := by decide +kernel
theorem dX3_readFlaw_31 : decode cX3_readFlaw 31 = .ok (.aload_n 0, 1) := by decide +kernel
theorem dX3_readFlaw_32 : decode cX3_readFlaw 32 = .ok (.getfield 18, 3) := by decide +kernel
theorem dX3_readFlaw_35 : decode cX3_readFlaw 35 = .ok (.istore_n 2, 1) := by decide +kernel
theorem dX3_readFlaw_36 : decode cX3_readFlaw 36 = .ok (.aload_n 0, 1) := by decide +kernel
theorem dX3_readFlaw_37 : decode cX3_readFlaw 37 = .ok (.getfield 31, 3) := by decide +kernel
theorem dX3_readFlaw_40 : decode cX3_readFlaw 40 = .ok (.invokevirtual 63, 3) := by decide +kernel
theorem dX3_readFlaw_43 : decode cX3_readFlaw 43 = .ok (.aload_n 0, 1) := by decide +kernel
theorem dX3_readFlaw_44 : decode cX3_readFlaw 44 = .ok (.iconst 0, 1) := by decide +kernel
theorem dX3_readFlaw_45 : decode cX3_readFlaw 45 = .ok (.aload_n 1, 1) := by decide +kernel
theorem dX3_readFlaw_46 : decode cX3_readFlaw 46 = .ok (.getfield 116, 3) := by decide +kernel
theorem dX3_readFlaw_49 : decode cX3_readFlaw 49 = .ok (.iconst 1, 1) := by decide +kernel
theorem dX3_readFlaw_50 : decode cX3_readFlaw 50 = .ok (.isub, 1) := by decide +kernel
theorem dX3_readFlaw_51 : decode cX3_readFlaw 51 = .ok (.invokevirtual 113, 3) := by decide +kernel
theorem dX3_readFlaw_54 : decode cX3_readFlaw 54 = .ok (.ifCond .ne 5, 3) := by decide +kernel
theorem dX3_readFlaw_57 : decode cX3_readFlaw 57 = .ok (.iconst 0, 1) := by decide +kernel
theorem dX3_readFlaw_58 : decode cX3_readFlaw 58 = .ok (.ireturn, 1) := by decide +kernel
theorem dX3_readFlaw_59 : decode cX3_readFlaw 59 = .ok (.aload_n 1, 1) := by decide +kernel
theorem dX3_readFlaw_60 : decode cX3_readFlaw 60 = .ok (.iload_n 2, 1) := by decide +kernel
theorem dX3_readFlaw_61 : decode cX3_readFlaw 61 = .ok (.aload_n 0, 1) := by decide +kernel
theorem dX3_readFlaw_62 : decode cX3_readFlaw 62 = .ok (.getfield 18, 3) := by decide +kernel
theorem dX3_readFlaw_65 : decode cX3_readFlaw 65 = .ok (.invokevirtual 119, 3) := by decide +kernel
theorem dX3_readFlaw_68 : decode cX3_readFlaw 68 = .ok (.ifCond .eq 9, 3) := by decide +kernel
theorem dX3_readFlaw_71 : decode cX3_readFlaw 71 = .ok (.aload_n 0, 1) := by decide +kernel
theorem dX3_readFlaw_72 : decode cX3_readFlaw 72 = .ok (.iconst 3, 1) := by decide +kernel
theorem dX3_readFlaw_73 : decode cX3_readFlaw 73 = .ok (.invokevirtual 59, 3) := by decide +kernel
theorem dX3_readFlaw_76 : decode cX3_readFlaw 76 = .ok (.ireturn, 1) := by decide +kernel
theorem dX3_readFlaw_77 : decode cX3_readFlaw 77 = .ok (.aload_n 1, 1) := by decide +kernel
theorem dX3_readFlaw_78 : decode cX3_readFlaw 78 = .ok (.iload_n 2, 1) := by decide +kernel
theorem dX3_readFlaw_79 : decode cX3_readFlaw 79 = .ok (.aload_n 0, 1) := by decide +kernel
theorem dX3_readFlaw_80 : decode cX3_readFlaw 80 = .ok (.getfield 18, 3) := by decide +kernel
theorem dX3_readFlaw_83 : decode cX3_readFlaw 83 = .ok (.iconst 1, 1) := by decide +kernel
theorem dX3_readFlaw_84 : decode cX3_readFlaw 84 = .ok (.invokevirtual 122, 3) := by decide +kernel
theorem dX3_readFlaw_87 : decode cX3_readFlaw 87 = .ok (.aload_n 0, 1) := by decide +kernel
theorem dX3_readFlaw_88 : decode cX3_readFlaw 88 = .ok (.dup, 1) := by decide +kernel
theorem dX3_readFlaw_89 : decode cX3_readFlaw 89 = .ok (.getfield 21, 3) := by decide +kernel
theorem dX3_readFlaw_92 : decode cX3_readFlaw 92 = .ok (.iconst 1, 1) := by decide +kernel
theorem dX3_readFlaw_93 : decode cX3_readFlaw 93 = .ok (.iadd, 1) := by decide +kernel
theorem dX3_readFlaw_94 : decode cX3_readFlaw 94 = .ok (.putfield 21, 3) := by decide +kernel
theorem dX3_readFlaw_97 : decode cX3_readFlaw 97 = .ok (.aload_n 0, 1) := by decide +kernel
theorem dX3_readFlaw_98 : decode cX3_readFlaw 98 = .ok (.getfield 31, 3) := by decide +kernel
theorem dX3_readFlaw_101 : decode cX3_readFlaw 101 = .ok (.invokevirtual 63, 3) := by decide +kernel
theorem dX3_readFlaw_104 : decode cX3_readFlaw 104 = .ok (.iconst 1, 1) := by decide +kernel
theorem dX3_readFlaw_105 : decode cX3_readFlaw 105 = .ok (.ireturn, 1) := by decide +kernel
theorem dX3_readGap_0 : decode cX3_readGap 0 = .ok (.aload_n 0, 1) := by decide +kernel
theorem dX3_readGap_1 : decode cX3_readGap 1 = .ok (.getfield 24, 3) := by decide +kernel
theorem dX3_readGap_4 : decode cX3_readGap 4 = .ok (.ifCond .eq 9, 3) := by decide +kernel
theorem dX3_readGap_7 : decode cX3_readGap 7 = .ok (.aload_n 0, 1) := by decide +kernel
theorem dX3_readGap_8 : decode cX3_readGap 8 = .ok (.iconst 3, 1) := by decide +kernel
theorem dX3_readGap_9 : decode cX3_readGap 9 = .ok (.invokevirtual 59, 3) := by decide +kernel
theorem dX3_readGap_12 : decode cX3_readGap 12 = .ok (.ireturn, 1) := by decide +kernel
theorem dX3_readGap_13 : decode cX3_readGap 13 = .ok (.aload_n 0, 1) := by decide +kernel
theorem dX3_readGap_14 : decode cX3_readGap 14 = .ok (.iconst 1, 1) := by decide +kernel
theorem dX3_readGap_15 : decode cX3_readGap 15 = .ok (.putfield 24, 3) := by decide +kernel
theorem dX3_readGap_18 : decode cX3_readGap 18 = .ok (.aload_n 0, 1) := by decide +kernel
theorem dX3_readGap_19 : decode cX3_readGap 19 = .ok (.getfield 31, 3) := by decide +kernel
theorem dX3_readGap_22 : decode cX3_readGap 22 = .ok (.invokevirtual 63, 3) := by decide +kernel
theorem dX3_readGap_25 : decode cX3_readGap 25 = .ok (.aload_n 0, 1) := by decide +kernel
theorem dX3_readGap_26 : decode cX3_readGap 26 = .ok (.iconst 0, 1) := by decide +kernel
theorem dX3_readGap_27 : decode cX3_readGap 27 = .ok (.iconst 3, 1) := by decide +kernel
theorem dX3_readGap_28 : decode cX3_readGap 28 = .ok (.invokevirtual 66, 3) := by decide +kernel
theorem dX3_readGap_31 : decode cX3_readGap 31 = .ok (.ifCond .ne 5, 3) := by decide +kernel
theorem dX3_readGap_34 : decode cX3_readGap 34 = .ok (.iconst 0, 1) := by decide +kernel
theorem dX3_readGap_35 : decode cX3_readGap 35 = .ok (.ireturn, 1) := by decide +kernel
theorem dX3_readGap_36 : decode cX3_readGap 36 = .ok (.aload_n 1, 1) := by decide +kernel
theorem dX3_readGap_37 : decode cX3_readGap 37 = .ok (.aload_n 0, 1) := by decide +kernel
theorem dX3_readGap_38 : decode cX3_readGap 38 = .ok (.getfield 18, 3) := by decide +kernel
theorem dX3_readGap_41 : decode cX3_readGap 41 = .ok (.putfield 126, 3) := by decide +kernel
theorem dX3_readGap_44 : decode cX3_readGap 44 = .ok (.aload_n 0, 1) := by decide +kernel
theorem dX3_readGap_45 : decode cX3_readGap 45 = .ok (.invokevirtual 76, 3) := by decide +kernel
theorem dX3_readGap_48 : decode cX3_readGap 48 = .ok (.ireturn, 1) := by decide +kernel
theorem dX3_readChisel_0 : decode cX3_readChisel 0 = .ok (.aload_n 0, 1) := by decide +kernel
theorem dX3_readChisel_1 : decode cX3_readChisel 1 = .ok (.getfield 28, 3) := by decide +kernel
theorem dX3_readChisel_4 : decode cX3_readChisel 4 = .ok (.ifCond .eq 9, 3) := by decide +kernel
theorem dX3_readChisel_7 : decode cX3_readChisel 7 = .ok (.aload_n 0, 1) := by decide +kernel
theorem dX3_readChisel_8 : decode cX3_readChisel 8 = .ok (.iconst 3, 1) := by decide +kernel
theorem dX3_readChisel_9 : decode cX3_readChisel 9 = .ok (.invokevirtual 59, 3) := by decide +kernel
theorem dX3_readChisel_12 : decode cX3_readChisel 12 = .ok (.ireturn, 1) := by decide +kernel
theorem dX3_readChisel_13 : decode cX3_readChisel 13 = .ok (.aload_n 0, 1) := by decide +kernel
theorem dX3_readChisel_14 : decode cX3_readChisel 14 = .ok (.iconst 1, 1) := by decide +kernel
theorem dX3_readChisel_15 : decode cX3_readChisel 15 = .ok (.putfield 28, 3) := by decide +kernel
theorem dX3_readChisel_18 : decode cX3_readChisel 18 = .ok (.aload_n 0, 1) := by decide +kernel
theorem dX3_readChisel_19 : decode cX3_readChisel 19 = .ok (.getfield 31, 3) := by decide +kernel
theorem dX3_readChisel_22 : decode cX3_readChisel 22 = .ok (.invokevirtual 63, 3) := by decide +kernel
theorem dX3_readChisel_25 : decode cX3_readChisel 25 = .ok (.aload_n 0, 1) := by decide +kernel
theorem dX3_readChisel_26 : decode cX3_readChisel 26 = .ok (.iconst 1, 1) := by decide +kernel
theorem dX3_readChisel_27 : decode cX3_readChisel 27 = .ok (.sipush 999, 3) := by decide +kernel
theorem dX3_readChisel_30 : decode cX3_readChisel 30 = .ok (.invokevirtual 66, 3) := by decide +kernel
theorem dX3_readChisel_33 : decode cX3_readChisel 33 = .ok (.ifCond .ne 5, 3) := by decide +kernel
theorem dX3_readChisel_36 : decode cX3_readChisel 36 = .ok (.iconst 0, 1) := by decide +kernel
theorem dX3_readChisel_37 : decode cX3_readChisel 37 = .ok (.ireturn, 1) := by decide +kernel
theorem dX3_readChisel_38 : decode cX3_readChisel 38 = .ok (.aload_n 0, 1) := by decide +kernel
theorem dX3_readChisel_39 : decode cX3_readChisel 39 = .ok (.getfield 18, 3) := by decide +kernel
theorem dX3_readChisel_42 : decode cX3_readChisel 42 = .ok (.istore_n 2, 1) := by decide +kernel
theorem dX3_readChisel_43 : decode cX3_readChisel 43 = .ok (.aload_n 0, 1) := by decide +kernel
theorem dX3_readChisel_44 : decode cX3_readChisel 44 = .ok (.iconst 0, 1) := by decide +kernel
theorem dX3_readChisel_45 : decode cX3_readChisel 45 = .ok (.bipush 99, 2) := by decide +kernel
theorem dX3_readChisel_47 : decode cX3_readChisel 47 = .ok (.invokevirtual 66, 3) := by decide +kernel
theorem dX3_readChisel_50 : decode cX3_readChisel 50 = .ok (.ifCond .ne 5, 3) := by decide +kernel
theorem dX3_readChisel_53 : decode cX3_readChisel 53 = .ok (.iconst 0, 1) := by decide +kernel
theorem dX3_readChisel_54 : decode cX3_readChisel 54 = .ok (.ireturn, 1) := by decide +kernel
theorem dX3_readChisel_55 : decode cX3_readChisel 55 = .ok (.aload_n 1, 1) := by decide +kernel
theorem dX3_readChisel_56 : decode cX3_readChisel 56 = .ok (.getfield 128, 3) := by decide +kernel
theorem dX3_readChisel_59 : decode cX3_readChisel 59 = .ok (.iload_n 2, 1) := by decide +kernel
theorem dX3_readChisel_60 : decode cX3_readChisel 60 = .ok (.aload_n 0, 1) := by decide +kernel
theorem dX3_readChisel_61 : decode cX3_readChisel 61 = .ok (.getfield 18, 3) := by decide +kernel
theorem dX3_readChisel_64 : decode cX3_readChisel 64 = .ok (.invokevirtual 131, 3) := by decide +kernel
theorem dX3_readChisel_67 : decode cX3_readChisel 67 = .ok (.aload_n 0, 1) := by decide +kernel
theorem dX3_readChisel_68 : decode cX3_readChisel 68 = .ok (.invokevirtual 76, 3) := by decide +kernel
theorem dX3_readChisel_71 : decode cX3_readChisel 71 = .ok (.ireturn, 1) := by decide +kernel
theorem dX3_readPart_0 : decode cX3_readPart 0 = .ok (.aload_n 1, 1) := by decide +kernel
theorem dX3_readPart_1 : decode cX3_readPart 1 = .ok (.getfield 136, 3) := by decide +kernel
theorem dX3_readPart_4 : decode cX3_readPart 4 = .ok (.bipush 10, 2) := by decide +kernel
theorem dX3_readPart_6 : decode cX3_readPart 6 = .ok (.if_icmp .lt 9, 3) := by decide +kernel
theorem dX3_readPart_9 : decode cX3_readPart 9 = .ok (.aload_n 0, 1) := by decide +kernel
theorem dX3_readPart_10 : decode cX3_readPart 10 = .ok (.iconst 5, 1) := by decide +kernel
theorem dX3_readPart_11 : decode cX3_readPart 11 = .ok (.invokevirtual 59, 3) := by decide +kernel
theorem dX3_readPart_14 : decode cX3_readPart 14 = .ok (.ireturn, 1) := by decide +kernel
theorem dX3_readPart_15 : decode cX3_readPart 15 = .ok (.aload_n 1, 1) := by decide +kernel
theorem dX3_readPart_16 : decode cX3_readPart 16 = .ok (.iload_n 2, 1) := by decide +kernel
theorem dX3_readPart_17 : decode cX3_readPart 17 = .ok (.invokevirtual 139, 3) := by decide +kernel
theorem dX3_readPart_20 : decode cX3_readPart 20 = .ok (.aload_n 0, 1) := by decide +kernel
theorem dX3_readPart_21 : decode cX3_readPart 21 = .ok (.getfield 31, 3) := by decide +kernel
theorem dX3_readPart_24 : decode cX3_readPart 24 = .ok (.invokevirtual 63, 3) := by decide +kernel
theorem dX3_readPart_27 : decode cX3_readPart 27 = .ok (.aload_n 0, 1) := by decide +kernel
theorem dX3_readPart_28 : decode cX3_readPart 28 = .ok (.aload_n 1, 1) := by decide +kernel
theorem dX3_readPart_29 : decode cX3_readPart 29 = .ok (.invokevirtual 143, 3) := by decide +kernel
theorem dX3_readPart_32 : decode cX3_readPart 32 = .ok (.istore_n 3, 1) := by decide +kernel
theorem dX3_readPart_33 : decode cX3_readPart 33 = .ok (.iconst 0, 1) := by decide +kernel
theorem dX3_readPart_34 : decode cX3_readPart 34 = .ok (.istore 4, 2) := by decide +kernel
theorem dX3_readPart_36 : decode cX3_readPart 36 = .ok (.iload 4, 2) := by decide +kernel
theorem dX3_readPart_38 : decode cX3_readPart 38 = .ok (.sipush 500, 3) := by decide +kernel
theorem dX3_readPart_41 : decode cX3_readPart 41 = .ok (.if_icmp .ge 31, 3) := by decide +kernel
theorem dX3_readPart_44 : decode cX3_readPart 44 = .ok (.iload_n 3, 1) := by decide +kernel
theorem dX3_readPart_45 : decode cX3_readPart 45 = .ok (.ifCond .eq 27, 3) := by decide +kernel
theorem dX3_readPart_48 : decode cX3_readPart 48 = .ok (.aload_n 0, 1) := by decide +kernel
theorem dX3_readPart_49 : decode cX3_readPart 49 = .ok (.getfield 31, 3) := by decide +kernel
theorem dX3_readPart_52 : decode cX3_readPart 52 = .ok (.ldc 146, 2) := by decide +kernel
theorem dX3_readPart_54 : decode cX3_readPart 54 = .ok (.invokevirtual 55, 3) := by decide +kernel
theorem dX3_readPart_57 : decode cX3_readPart 57 = .ok (.ifCond .ne 15, 3) := by decide +kernel
theorem dX3_readPart_60 : decode cX3_readPart 60 = .ok (.aload_n 0, 1) := by decide +kernel
theorem dX3_readPart_61 : decode cX3_readPart 61 = .ok (.aload_n 1, 1) := by decide +kernel
theorem dX3_readPart_62 : decode cX3_readPart 62 = .ok (.invokevirtual 143, 3) := by decide +kernel
theorem dX3_readPart_65 : decode cX3_readPart 65 = .ok (.istore_n 3, 1) := by decide +kernel
theorem dX3_readPart_66 : decode cX3_readPart 66 = .ok (.iinc 4 1, 3) := by decide +kernel
theorem dX3_readPart_69 : decode cX3_readPart 69 = .ok (.goto (-33), 3) := by decide +kernel
theorem dX3_readPart_72 : decode cX3_readPart 72 = .ok (.iload_n 3, 1) := by decide +kernel
theorem dX3_readPart_73 : decode cX3_readPart 73 = .ok (.ifCond .eq 14, 3) := by decide +kernel
theorem dX3_readPart_76 : decode cX3_readPart 76 = .ok (.aload_n 0, 1) := by decide +kernel
theorem dX3_readPart_77 : decode cX3_readPart 77 = .ok (.invokevirtual 76, 3) := by decide +kernel
theorem dX3_readPart_80 : decode cX3_readPart 80 = .ok (.ifCond .eq 7, 3) := by decide +kernel
theorem dX3_readPart_83 : decode cX3_readPart 83 = .ok (.iconst 1, 1) := by decide +kernel
theorem dX3_readPart_84 : decode cX3_readPart 84 = .ok (.goto 4, 3) := by decide +kernel
theorem dX3_readPart_87 : decode cX3_readPart 87 = .ok (.iconst 0, 1) := by decide +kernel
theorem dX3_readPart_88 : decode cX3_readPart 88 = .ok (.ireturn, 1) := by decide +kernel
theorem dX3_readWord_0 : decode cX3_readWord 0 = .ok (.aload_n 0, 1) := by decide +kernel
theorem dX3_readWord_1 : decode cX3_readWord 1 = .ok (.getfield 31, 3) := by decide +kernel
theorem dX3_readWord_4 : decode cX3_readWord 4 = .ok (.invokevirtual 148, 3) := by decide +kernel
theorem dX3_readWord_7 : decode cX3_readWord 7 = .ok (.ifCond .ne 9, 3) := by decide +kernel
theorem dX3_readWord_10 : decode cX3_readWord 10 = .ok (.aload_n 0, 1) := by decide +kernel
theorem dX3_readWord_11 : decode cX3_readWord 11 = .ok (.iconst 1, 1) := by decide +kernel
theorem dX3_readWord_12 : decode cX3_readWord 12 = .ok (.invokevirtual 59, 3) := by decide +kernel
theorem dX3_readWord_15 : decode cX3_readWord 15 = .ok (.ireturn, 1) := by decide +kernel
theorem dX3_readWord_16 : decode cX3_readWord 16 = .ok (.aload_n 0, 1) := by decide +kernel
theorem dX3_readWord_17 : decode cX3_readWord 17 = .ok (.getfield 31, 3) := by decide +kernel
theorem dX3_readWord_20 : decode cX3_readWord 20 = .ok (.getfield 151, 3) := by decide +kernel
theorem dX3_readWord_23 : decode cX3_readWord 23 = .ok (.aload_n 1, 1) := by decide +kernel
theorem dX3_readWord_24 : decode cX3_readWord 24 = .ok (.getfield 110, 3) := by decide +kernel
theorem dX3_readWord_27 : decode cX3_readWord 27 = .ok (.if_icmp .le 9, 3) := by decide +kernel
theorem dX3_readWord_30 : decode cX3_readWord 30 = .ok (.aload_n 0, 1) := by decide +kernel
theorem dX3_readWord_31 : decode cX3_readWord 31 = .ok (.iconst 4, 1) := by decide +kernel
theorem dX3_readWord_32 : decode cX3_readWord 32 = .ok (.invokevirtual 59, 3) := by decide +kernel
theorem dX3_readWord_35 : decode cX3_readWord 35 = .ok (.ireturn, 1) := by decide +kernel
theorem dX3_readWord_36 : decode cX3_readWord 36 = .ok (.aload_n 1, 1) := by decide +kernel
theorem dX3_readWord_37 : decode cX3_readWord 37 = .ok (.getfield 154, 3) := by decide +kernel
theorem dX3_readWord_40 : decode cX3_readWord 40 = .ok (.bipush 60, 2) := by decide +kernel
theorem dX3_readWord_42 : decode cX3_readWord 42 = .ok (.if_icmp .lt 9, 3) := by decide +kernel
theorem dX3_readWord_45 : decode cX3_readWord 45 = .ok (.aload_n 0, 1) := by decide +kernel
theorem dX3_readWord_46 : decode cX3_readWord 46 = .ok (.iconst 5, 1) := by decide +kernel
theorem dX3_readWord_47 : decode cX3_readWord 47 = .ok (.invokevirtual 59, 3) := by decide +kernel
theorem dX3_readWord_50 : decode cX3_readWord 50 = .ok (.ireturn, 1) := by decide +kernel
theorem dX3_readWord_51 : decode cX3_readWord 51 = .ok (.aload_n 1, 1) := by decide +kernel
theorem dX3_readWord_52 : decode cX3_readWord 52 = .ok (.aload_n 0, 1) := by decide +kernel
theorem dX3_readWord_53 : decode cX3_readWord 53 = .ok (.getfield 31, 3) := by decide +kernel
theorem dX3_readWord_56 : decode cX3_readWord 56 = .ok (.getfield 157, 3) := by decide +kernel
theorem dX3_readWord_59 : decode cX3_readWord 59 = .ok (.getfield 161, 3) := by decide +kernel
theorem dX3_readWord_62 : decode cX3_readWord 62 = .ok (.aload_n 0, 1) := by decide +kernel
theorem dX3_readWord_63 : decode cX3_readWord 63 = .ok (.getfield 31, 3) := by decide +kernel
theorem dX3_readWord_66 : decode cX3_readWord 66 = .ok (.getfield 50, 3) := by decide +kernel
theorem dX3_readWord_69 : decode cX3_readWord 69 = .ok (.aload_n 0, 1) := by decide +kernel
theorem dX3_readWord_70 : decode cX3_readWord 70 = .ok (.getfield 31, 3) := by decide +kernel
theorem dX3_readWord_73 : decode cX3_readWord 73 = .ok (.getfield 151, 3) := by decide +kernel
theorem dX3_readWord_76 : decode cX3_readWord 76 = .ok (.invokevirtual 167, 3) := by decide +kernel
theorem dX3_readWord_79 : decode cX3_readWord 79 = .ok (.aload_n 0, 1) := by decide +kernel
theorem dX3_readWord_80 : decode cX3_readWord 80 = .ok (.getfield 31, 3) := by decide +kernel
theorem dX3_readWord_83 : decode cX3_readWord 83 = .ok (.invokevirtual 63, 3) := by decide +kernel
theorem dX3_readWord_86 : decode cX3_readWord 86 = .ok (.iconst 1, 1) := by decide +kernel
theorem dX3_readWord_87 : decode cX3_readWord 87 = .ok (.ireturn, 1) := by decide +kernel
theorem dX3_checkNumber_0 : decode cX3_checkNumber 0 = .ok (.aload_n 0, 1) := by decide +kernel
theorem dX3_checkNumber_1 : decode cX3_checkNumber 1 = .ok (.getfield 31, 3) := by decide +kernel
theorem dX3_checkNumber_4 : decode cX3_checkNumber 4 = .ok (.getfield 44, 3) := by decide +kernel
theorem dX3_checkNumber_7 : decode cX3_checkNumber 7 = .ok (.iconst 2, 1) := by decide +kernel
theorem dX3_checkNumber_8 : decode cX3_checkNumber 8 = .ok (.if_icmp .eq 9, 3) := by decide +kernel
theorem dX3_checkNumber_11 : decode cX3_checkNumber 11 = .ok (.aload_n 0, 1) := by decide +kernel
theorem dX3_checkNumber_12 : decode cX3_checkNumber 12 = .ok (.iconst 1, 1) := by decide +kernel
theorem dX3_checkNumber_13 : decode cX3_checkNumber 13 = .ok (.invokevirtual 59, 3) := by decide +kernel
theorem dX3_checkNumber_16 : decode cX3_checkNumber 16 = .ok (.ireturn, 1) := by decide +kernel
theorem dX3_checkNumber_17 : decode cX3_checkNumber 17 = .ok (.aload_n 0, 1) := by decide +kernel
theorem dX3_checkNumber_18 : decode cX3_checkNumber 18 = .ok (.aload_n 0, 1) := by decide +kernel
theorem dX3_checkNumber_19 : decode cX3_checkNumber 19 = .ok (.getfield 31, 3) := by decide +kernel
theorem dX3_checkNumber_22 : decode cX3_checkNumber 22 = .ok (.invokevirtual 171, 3) := by decide +kernel
theorem dX3_checkNumber_25 : decode cX3_checkNumber 25 = .ok (.putfield 18, 3) := by decide +kernel
theorem dX3_checkNumber_28 : decode cX3_checkNumber 28 = .ok (.aload_n 0, 1) := by decide +kernel
theorem dX3_checkNumber_29 : decode cX3_checkNumber 29 = .ok (.getfield 18, 3) := by decide +kernel
theorem dX3_checkNumber_32 : decode cX3_checkNumber 32 = .ok (.iload_n 1, 1) := by decide +kernel
theorem dX3_checkNumber_33 : decode cX3_checkNumber 33 = .ok (.if_icmp .lt 11, 3) := by decide +kernel
theorem dX3_checkNumber_36 : decode cX3_checkNumber 36 = .ok (.aload_n 0, 1) := by decide +kernel
theorem dX3_checkNumber_37 : decode cX3_checkNumber 37 = .ok (.getfield 18, 3) := by decide +kernel
theorem dX3_checkNumber_40 : decode cX3_checkNumber 40 = .ok (.iload_n 2, 1) := by decide +kernel
theorem dX3_checkNumber_41 : decode cX3_checkNumber 41 = .ok (.if_icmp .le 11, 3) := by decide +kernel
theorem dX3_checkNumber_44 : decode cX3_checkNumber 44 = .ok (.aload_n 0, 1) := by decide +kernel
theorem dX3_checkNumber_45 : decode cX3_checkNumber 45 = .ok (.iconst 2, 1) := by decide +kernel
theorem dX3_checkNumber_46 : decode cX3_checkNumber 46 = .ok (.invokevirtual 59, 3) := by decide +kernel
theorem dX3_checkNumber_49 : decode cX3_checkNumber 49 = .ok (.ifCond .eq 7, 3) := by decide +kernel
theorem dX3_checkNumber_52 : decode cX3_checkNumber 52 = .ok (.iconst 1, 1) := by decide +kernel
theorem dX3_checkNumber_53 : decode cX3_checkNumber 53 = .ok (.goto 4, 3) := by decide +kernel
theorem dX3_checkNumber_56 : decode cX3_checkNumber 56 = .ok (.iconst 0, 1) := by decide +kernel
theorem dX3_checkNumber_57 : decode cX3_checkNumber 57 = .ok (.ireturn, 1) := by decide +kernel
theorem dX3_readNumber_0 : decode cX3_readNumber 0 = .ok (.aload_n 0, 1) := by decide +kernel
theorem dX3_readNumber_1 : decode cX3_readNumber 1 = .ok (.iload_n 1, 1) := by decide +kernel
theorem dX3_readNumber_2 : decode cX3_readNumber 2 = .ok (.iload_n 2, 1) := by decide +kernel
theorem dX3_readNumber_3 : decode cX3_readNumber 3 = .ok (.invokevirtual 113, 3) := by decide +kernel
theorem dX3_readNumber_6 : decode cX3_readNumber 6 = .ok (.ifCond .ne 5, 3) := by decide +kernel
theorem dX3_readNumber_9 : decode cX3_readNumber 9 = .ok (.iconst 0, 1) := by decide +kernel
theorem dX3_readNumber_10 : decode cX3_readNumber 10 = .ok (.ireturn, 1) := by decide +kernel
theorem dX3_readNumber_11 : decode cX3_readNumber 11 = .ok (.aload_n 0, 1) := by decide +kernel
theorem dX3_readNumber_12 : decode cX3_readNumber 12 = .ok (.getfield 31, 3) := by decide +kernel
theorem dX3_readNumber_15 : decode cX3_readNumber 15 = .ok (.invokevirtual 63, 3) := by decide +kernel
theorem dX3_readNumber_18 : decode cX3_readNumber 18 = .ok (.iconst 1, 1) := by decide +kernel
theorem dX3_readNumber_19 : decode cX3_readNumber 19 = .ok (.ireturn, 1) := by decide +kernel
theorem dX3_readEnd_0 : decode cX3_readEnd 0 = .ok (.aload_n 0, 1) := by decide +kernel
theorem dX3_readEnd_1 : decode cX3_readEnd 1 = .ok (.getfield 31, 3) := by decide +kernel
theorem dX3_readEnd_4 : decode cX3_readEnd 4 = .ok (.ldc 146, 2) := by decide +kernel
theorem dX3_readEnd_6 : decode cX3_readEnd 6 = .ok (.invokevirtual 55, 3) := by decide +kernel
theorem dX3_readEnd_9 : decode cX3_readEnd 9 = .ok (.ifCond .ne 9, 3) := by decide +kernel
theorem dX3_readEnd_12 : decode cX3_readEnd 12 = .ok (.aload_n 0, 1) := by decide +kernel
theorem dX3_readEnd_13 : decode cX3_readEnd 13 = .ok (.iconst 1, 1) := by decide +kernel
theorem dX3_readEnd_14 : decode cX3_readEnd 14 = .ok (.invokevirtual 59, 3) := by decide +kernel
theorem dX3_readEnd_17 : decode cX3_readEnd 17 = .ok (.ireturn, 1) := by decide +kernel
theorem dX3_readEnd_18 : decode cX3_readEnd 18 = .ok (.aload_n 0, 1) := by decide +kernel
theorem dX3_readEnd_19 : decode cX3_readEnd 19 = .ok (.getfield 31, 3) := by decide +kernel
theorem dX3_readEnd_22 : decode cX3_readEnd 22 = .ok (.invokevirtual 63, 3) := by decide +kernel
theorem dX3_readEnd_25 : decode cX3_readEnd 25 = .ok (.iconst 1, 1) := by decide +kernel
theorem dX3_readEnd_26 : decode cX3_readEnd 26 = .ok (.ireturn, 1) := by decide +kernel
theorem dX4_init_0 : decode cX4_init 0 = .ok (.aload_n 0, 1) := by decide +kernel
theorem dX4_init_1 : decode cX4_init 1 = .ok (.invokespecial 3, 3) := by decide +kernel
theorem dX4_init_4 : decode cX4_init 4 = .ok (.aload_n 0, 1) := by decide +kernel
theorem dX4_init_5 : decode cX4_init 5 = .ok (.bipush 6, 2) := by decide +kernel
theorem dX4_init_7 : decode cX4_init 7 = .ok (.anewarray 9, 3) := by decide +kernel
theorem dX4_init_10 : decode cX4_init 10 = .ok (.putfield 11, 3) := by decide +kernel
theorem dX4_init_13 : decode cX4_init 13 = .ok (.aload_n 0, 1) := by decide +kernel
theorem dX4_init_14 : decode cX4_init 14 = .ok (.iconst 0, 1) := by decide +kernel
theorem dX4_init_15 : decode cX4_init 15 = .ok (.putfield 17, 3) := by decide +kernel
theorem dX4_init_18 : decode cX4_init 18 = .ok (.return_, 1) := by decide +kernel
theorem dX4_remember_0 : decode cX4_remember 0 = .ok (.aload_n 0, 1) := by decide +kernel
theorem dX4_remember_1 : decode cX4_remember 1 = .ok (.getfield 17, 3) := by decide +kernel
theorem dX4_remember_4 : decode cX4_remember 4 = .ok (.aload_n 0, 1) := by decide +kernel
theorem dX4_remember_5 : decode cX4_remember 5 = .ok (.getfield 11, 3) := by decide +kernel
theorem dX4_remember_8 : decode cX4_remember 8 = .ok (.arraylength, 1) := by decide +kernel
theorem dX4_remember_9 : decode cX4_remember 9 = .ok (.if_icmp .lt 18, 3) := by decide +kernel
theorem dX4_remember_12 : decode cX4_remember 12 = .ok (.aload_n 0, 1) := by decide +kernel
theorem dX4_remember_13 : decode cX4_remember 13 = .ok (.invokevirtual 21, 3) := by decide +kernel
theorem dX4_remember_16 : decode cX4_remember 16 = .ok (.aload_n 0, 1) := by decide +kernel
theorem dX4_remember_17 : decode cX4_remember 17 = .ok (.aload_n 0, 1) := by decide +kernel
theorem dX4_remember_18 : decode cX4_remember 18 = .ok (.getfield 11, 3) := by decide +kernel
theorem dX4_remember_21 : decode cX4_remember 21 = .ok (.arraylength, 1) := by decide +kernel
theorem dX4_remember_22 : decode cX4_remember 22 = .ok (.iconst 1, 1) := by decide +kernel
theorem dX4_remember_23 : decode cX4_remember 23 = .ok (.isub, 1) := by decide +kernel
theorem dX4_remember_24 : decode cX4_remember 24 = .ok (.putfield 17, 3) := by decide +kernel
theorem dX4_remember_27 : decode cX4_remember 27 = .ok (.aload_n 0, 1) := by decide +kernel
theorem dX4_remember_28 : decode cX4_remember 28 = .ok (.getfield 17, 3) := by decide +kernel
theorem dX4_remember_31 : decode cX4_remember 31 = .ok (.ifCond .lt 62, 3) := by decide +kernel
theorem dX4_remember_34 : decode cX4_remember 34 = .ok (.aload_n 0, 1) := by decide +kernel
theorem dX4_remember_35 : decode cX4_remember 35 = .ok (.getfield 17, 3) := by decide +kernel
theorem dX4_remember_38 : decode cX4_remember 38 = .ok (.aload_n 0, 1) := by decide +kernel
theorem dX4_remember_39 : decode cX4_remember 39 = .ok (.getfield 11, 3) := by decide +kernel
theorem dX4_remember_42 : decode cX4_remember 42 = .ok (.arraylength, 1) := by decide +kernel
theorem dX4_remember_43 : decode cX4_remember 43 = .ok (.if_icmp .ge 50, 3) := by decide +kernel
theorem dX4_remember_46 : decode cX4_remember 46 = .ok (.aload_n 0, 1) := by decide +kernel
theorem dX4_remember_47 : decode cX4_remember 47 = .ok (.getfield 11, 3) := by decide +kernel
theorem dX4_remember_50 : decode cX4_remember 50 = .ok (.aload_n 0, 1) := by decide +kernel
theorem dX4_remember_51 : decode cX4_remember 51 = .ok (.getfield 17, 3) := by decide +kernel
theorem dX4_remember_54 : decode cX4_remember 54 = .ok (.aaload, 1) := by decide +kernel
theorem dX4_remember_55 : decode cX4_remember 55 = .ok (.astore_n 2, 1) := by decide +kernel
theorem dX4_remember_56 : decode cX4_remember 56 = .ok (.aload_n 2, 1) := by decide +kernel
theorem dX4_remember_57 : decode cX4_remember 57 = .ok (.ifnonnull 21, 3) := by decide +kernel
theorem dX4_remember_60 : decode cX4_remember 60 = .ok (.new 9, 3) := by decide +kernel
theorem dX4_remember_63 : decode cX4_remember 63 = .ok (.dup, 1) := by decide +kernel
theorem dX4_remember_64 : decode cX4_remember 64 = .ok (.invokespecial 24, 3) := by decide +kernel
theorem dX4_remember_67 : decode cX4_remember 67 = .ok (.astore_n 2, 1) := by decide +kernel
theorem dX4_remember_68 : decode cX4_remember 68 = .ok (.aload_n 0, 1) := by decide +kernel
theorem dX4_remember_69 : decode cX4_remember 69 = .ok (.getfield 11, 3) := by decide +kernel
theorem dX4_remember_72 : decode cX4_remember 72 = .ok (.aload_n 0, 1) := by decide +kernel
theorem dX4_remember_73 : decode cX4_remember 73 = .ok (.getfield 17, 3) := by decide +kernel
theorem dX4_remember_76 : decode cX4_remember 76 = .ok (.aload_n 2, 1) := by decide +kernel
theorem dX4_remember_77 : decode cX4_remember 77 = .ok (.aastore, 1) := by decide +kernel
theorem dX4_remember_78 : decode cX4_remember 78 = .ok (.aload_n 2, 1) := by decide +kernel
theorem dX4_remember_79 : decode cX4_remember 79 = .ok (.aload_n 1, 1) := by decide +kernel
theorem dX4_remember_80 : decode cX4_remember 80 = .ok (.invokevirtual 25, 3) := by decide +kernel
theorem dX4_remember_83 : decode cX4_remember 83 = .ok (.aload_n 0, 1) := by decide +kernel
theorem dX4_remember_84 : decode cX4_remember 84 = .ok (.dup, 1) := by decide +kernel
theorem dX4_remember_85 : decode cX4_remember 85 = .ok (.getfield 17, 3) := by decide +kernel
theorem dX4_remember_88 : decode cX4_remember 88 = .ok (.iconst 1, 1) := by decide +kernel
theorem dX4_remember_89 : decode cX4_remember 89 = .ok (.iadd, 1) := by decide +kernel
theorem dX4_remember_90 : decode cX4_remember 90 = .ok (.putfield 17, 3) := by decide +kernel
theorem dX4_remember_93 : decode cX4_remember 93 = .ok (.return_, 1) := by decide +kernel
theorem dX4_oldestToEnd_0 : decode cX4_oldestToEnd 0 = .ok (.iconst 1, 1) := by decide +kernel
theorem dX4_oldestToEnd_1 : decode cX4_oldestToEnd 1 = .ok (.istore_n 1, 1) := by decide +kernel
theorem dX4_oldestToEnd_2 : decode cX4_oldestToEnd 2 = .ok (.iload_n 1, 1) := by decide +kernel
theorem dX4_oldestToEnd_3 : decode cX4_oldestToEnd 3 = .ok (.aload_n 0, 1) := by decide +kernel
theorem dX4_oldestToEnd_4 : decode cX4_oldestToEnd 4 = .ok (.getfield 11, 3) := by decide +kernel
theorem dX4_oldestToEnd_7 : decode cX4_oldestToEnd 7 = .ok (.arraylength, 1) := by decide +kernel
theorem dX4_oldestToEnd_8 : decode cX4_oldestToEnd 8 = .ok (.if_icmp .ge 39, 3) := by decide +kernel
theorem dX4_oldestToEnd_11 : decode cX4_oldestToEnd 11 = .ok (.aload_n 0, 1) := by decide +kernel
theorem dX4_oldestToEnd_12 : decode cX4_oldestToEnd 12 = .ok (.getfield 11, 3) := by decide +kernel
theorem dX4_oldestToEnd_15 : decode cX4_oldestToEnd 15 = .ok (.iload_n 1, 1) := by decide +kernel
theorem dX4_oldestToEnd_16 : decode cX4_oldestToEnd 16 = .ok (.iconst 1, 1) := by decide +kernel
theorem dX4_oldestToEnd_17 : decode cX4_oldestToEnd 17 = .ok (.isub, 1) := by decide +kernel
theorem dX4_oldestToEnd_18 : decode cX4_oldestToEnd 18 = .ok (.aaload, 1) := by decide +kernel
theorem dX4_oldestToEnd_19 : decode cX4_oldestToEnd 19 = .ok (.astore_n 2, 1) := by decide +kernel
theorem dX4_oldestToEnd_20 : decode cX4_oldestToEnd 20 = .ok (.aload_n 0, 1) := by decide +kernel
theorem dX4_oldestToEnd_21 : decode cX4_oldestToEnd 21 = .ok (.getfield 11, 3) := by decide +kernel
theorem dX4_oldestToEnd_24 : decode cX4_oldestToEnd 24 = .ok (.iload_n 1, 1) := by decide +kernel
theorem dX4_oldestToEnd_25 : decode cX4_oldestToEnd 25 = .ok (.iconst 1, 1) := by decide +kernel
theorem dX4_oldestToEnd_26 : decode cX4_oldestToEnd 26 = .ok (.isub, 1) := by decide +kernel
theorem dX4_oldestToEnd_27 : decode cX4_oldestToEnd 27 = .ok (.aload_n 0, 1) := by decide +kernel
theorem dX4_oldestToEnd_28 : decode cX4_oldestToEnd 28 = .ok (.getfield 11, 3) := by decide +kernel
theorem dX4_oldestToEnd_31 : decode cX4_oldestToEnd 31 = .ok (.iload_n 1, 1) := by decide +kernel
theorem dX4_oldestToEnd_32 : decode cX4_oldestToEnd 32 = .ok (.aaload, 1) := by decide +kernel
theorem dX4_oldestToEnd_33 : decode cX4_oldestToEnd 33 = .ok (.aastore, 1) := by decide +kernel
theorem dX4_oldestToEnd_34 : decode cX4_oldestToEnd 34 = .ok (.aload_n 0, 1) := by decide +kernel
theorem dX4_oldestToEnd_35 : decode cX4_oldestToEnd 35 = .ok (.getfield 11, 3) := by decide +kernel
theorem dX4_oldestToEnd_38 : decode cX4_oldestToEnd 38 = .ok (.iload_n 1, 1) := by decide +kernel
theorem dX4_oldestToEnd_39 : decode cX4_oldestToEnd 39 = .ok (.aload_n 2, 1) := by decide +kernel
theorem dX4_oldestToEnd_40 : decode cX4_oldestToEnd 40 = .ok (.aastore, 1) := by decide +kernel
theorem dX4_oldestToEnd_41 : decode cX4_oldestToEnd 41 = .ok (.iinc 1 1, 3) := by decide +kernel
theorem dX4_oldestToEnd_44 : decode cX4_oldestToEnd 44 = .ok (.goto (-42), 3) := by decide +kernel
theorem dX4_oldestToEnd_47 : decode cX4_oldestToEnd 47 = .ok (.return_, 1) := by decide +kernel
theorem dX5_init_0 : decode cX5_init 0 = .ok (.aload_n 0, 1) := by decide +kernel
theorem dX5_init_1 : decode cX5_init 1 = .ok (.invokespecial 1, 3) := by decide +kernel
theorem dX5_init_4 : decode cX5_init 4 = .ok (.aload_n 0, 1) := by decide +kernel
theorem dX5_init_5 : decode cX5_init 5 = .ok (.iload_n 1, 1) := by decide +kernel
theorem dX5_init_6 : decode cX5_init 6 = .ok (.ifCond .ge 7, 3) := by decide +kernel
theorem dX5_init_9 : decode cX5_init 9 = .ok (.iconst 0, 1) := by decide +kernel
theorem dX5_init_10 : decode cX5_init 10 = .ok (.goto 4, 3) := by decide +kernel
theorem dX5_init_13 : decode cX5_init 13 = .ok (.iload_n 1, 1) := by decide +kernel
theorem dX5_init_14 : decode cX5_init 14 = .ok (.newarray .int, 2) := by decide +kernel
theorem dX5_init_16 : decode cX5_init 16 = .ok (.putfield 7, 3) := by decide +kernel
theorem dX5_init_19 : decode cX5_init 19 = .ok (.return_, 1) := by decide +kernel
theorem dX5_at_0 : decode cX5_at 0 = .ok (.iload_n 1, 1) := by decide +kernel
theorem dX5_at_1 : decode cX5_at 1 = .ok (.ifCond .lt 21, 3) := by decide +kernel
theorem dX5_at_4 : decode cX5_at 4 = .ok (.iload_n 1, 1) := by decide +kernel
theorem dX5_at_5 : decode cX5_at 5 = .ok (.aload_n 0, 1) := by decide +kernel
theorem dX5_at_6 : decode cX5_at 6 = .ok (.getfield 7, 3) := by decide +kernel
theorem dX5_at_9 : decode cX5_at 9 = .ok (.arraylength, 1) := by decide +kernel
theorem dX5_at_10 : decode cX5_at 10 = .ok (.if_icmp .ge 12, 3) := by decide +kernel
theorem dX5_at_13 : decode cX5_at 13 = .ok (.aload_n 0, 1) := by decide +kernel
theorem dX5_at_14 : decode cX5_at 14 = .ok (.getfield 7, 3) := by decide +kernel
theorem dX5_at_17 : decode cX5_at 17 = .ok (.iload_n 1, 1) := by decide +kernel
theorem dX5_at_18 : decode cX5_at 18 = .ok (.iaload, 1) := by decide +kernel
theorem dX5_at_19 : decode cX5_at 19 = .ok (.goto 4, 3) := by decide +kernel
theorem dX5_at_22 : decode cX5_at 22 = .ok (.iconst 0, 1) := by decide +kernel
theorem dX5_at_23 : decode cX5_at 23 = .ok (.ireturn, 1) := by decide +kernel
theorem dX5_put_0 : decode cX5_put 0 = .ok (.iload_n 1, 1) := by decide +kernel
theorem dX5_put_1 : decode cX5_put 1 = .ok (.ifCond .lt 19, 3) := by decide +kernel
theorem dX5_put_4 : decode cX5_put 4 = .ok (.iload_n 1, 1) := by decide +kernel
theorem dX5_put_5 : decode cX5_put 5 = .ok (.aload_n 0, 1) := by decide +kernel
theorem dX5_put_6 : decode cX5_put 6 = .ok (.getfield 7, 3) := by decide +kernel
theorem dX5_put_9 : decode cX5_put 9 = .ok (.arraylength, 1) := by decide +kernel
theorem dX5_put_10 : decode cX5_put 10 = .ok (.if_icmp .ge 10, 3) := by decide +kernel
theorem dX5_put_13 : decode cX5_put 13 = .ok (.aload_n 0, 1) := by decide +kernel
theorem dX5_put_14 : decode cX5_put 14 = .ok (.getfield 7, 3) := by decide +kernel
theorem dX5_put_17 : decode cX5_put 17 = .ok (.iload_n 1, 1) := by decide +kernel
theorem dX5_put_18 : decode cX5_put 18 = .ok (.iload_n 2, 1) := by decide +kernel
theorem dX5_put_19 : decode cX5_put 19 = .ok (.iastore, 1) := by decide +kernel
theorem dX5_put_20 : decode cX5_put 20 = .ok (.return_, 1) := by decide +kernel
theorem dX5_clear_0 : decode cX5_clear 0 = .ok (.iconst 0, 1) := by decide +kernel
theorem dX5_clear_1 : decode cX5_clear 1 = .ok (.istore_n 1, 1) := by decide +kernel
theorem dX5_clear_2 : decode cX5_clear 2 = .ok (.iload_n 1, 1) := by decide +kernel
theorem dX5_clear_3 : decode cX5_clear 3 = .ok (.aload_n 0, 1) := by decide +kernel
theorem dX5_clear_4 : decode cX5_clear 4 = .ok (.getfield 7, 3) := by decide +kernel
theorem dX5_clear_7 : decode cX5_clear 7 = .ok (.arraylength, 1) := by decide +kernel
theorem dX5_clear_8 : decode cX5_clear 8 = .ok (.if_icmp .ge 16, 3) := by decide +kernel
theorem dX5_clear_11 : decode cX5_clear 11 = .ok (.aload_n 0, 1) := by decide +kernel
theorem dX5_clear_12 : decode cX5_clear 12 = .ok (.getfield 7, 3) := by decide +kernel
theorem dX5_clear_15 : decode cX5_clear 15 = .ok (.iload_n 1, 1) := by decide +kernel
theorem dX5_clear_16 : decode cX5_clear 16 = .ok (.iconst 0, 1) := by decide +kernel
theorem dX5_clear_17 : decode cX5_clear 17 = .ok (.iastore, 1) := by decide +kernel
theorem dX5_clear_18 : decode cX5_clear 18 = .ok (.iinc 1 1, 3) := by decide +kernel
theorem dX5_clear_21 : decode cX5_clear 21 = .ok (.goto (-19), 3) := by decide +kernel
theorem dX5_clear_24 : decode cX5_clear 24 = .ok (.return_, 1) := by decide +kernel
theorem dX5_copy_0 : decode cX5_copy 0 = .ok (.aload_n 0, 1) := by decide +kernel
theorem dX5_copy_1 : decode cX5_copy 1 = .ok (.getfield 7, 3) := by decide +kernel
theorem dX5_copy_4 : decode cX5_copy 4 = .ok (.arraylength, 1) := by decide +kernel
theorem dX5_copy_5 : decode cX5_copy 5 = .ok (.aload_n 1, 1) := by decide +kernel
theorem dX5_copy_6 : decode cX5_copy 6 = .ok (.getfield 7, 3) := by decide +kernel
theorem dX5_copy_9 : decode cX5_copy 9 = .ok (.arraylength, 1) := by decide +kernel
theorem dX5_copy_10 : decode cX5_copy 10 = .ok (.invokestatic 13, 3) := by decide +kernel
theorem dX5_copy_13 : decode cX5_copy 13 = .ok (.istore_n 2, 1) := by decide +kernel
theorem dX5_copy_14 : decode cX5_copy 14 = .ok (.iconst 0, 1) := by decide +kernel
theorem dX5_copy_15 : decode cX5_copy 15 = .ok (.istore_n 3, 1) := by decide +kernel
theorem dX5_copy_16 : decode cX5_copy 16 = .ok (.iload_n 3, 1) := by decide +kernel
theorem dX5_copy_17 : decode cX5_copy 17 = .ok (.iload_n 2, 1) := by decide +kernel
theorem dX5_copy_18 : decode cX5_copy 18 = .ok (.if_icmp .ge 21, 3) := by decide +kernel
theorem dX5_copy_21 : decode cX5_copy 21 = .ok (.aload_n 0, 1) := by decide +kernel
theorem dX5_copy_22 : decode cX5_copy 22 = .ok (.getfield 7, 3) := by decide +kernel
theorem dX5_copy_25 : decode cX5_copy 25 = .ok (.iload_n 3, 1) := by decide +kernel
theorem dX5_copy_26 : decode cX5_copy 26 = .ok (.aload_n 1, 1) := by decide +kernel
theorem dX5_copy_27 : decode cX5_copy 27 = .ok (.getfield 7, 3) := by decide +kernel
theorem dX5_copy_30 : decode cX5_copy 30 = .ok (.iload_n 3, 1) := by decide +kernel
theorem dX5_copy_31 : decode cX5_copy 31 = .ok (.iaload, 1) := by decide +kernel
theorem dX5_copy_32 : decode cX5_copy 32 = .ok (.iastore, 1) := by decide +kernel
theorem dX5_copy_33 : decode cX5_copy 33 = .ok (.iinc 3 1, 3) := by decide +kernel
theorem dX5_copy_36 : decode cX5_copy 36 = .ok (.goto (-20), 3) := by decide +kernel
theorem dX5_copy_39 : decode cX5_copy 39 = .ok (.return_, 1) := by decide +kernel
theorem dX6_init_0 : decode cX6_init 0 = .ok (.aload_n 0, 1) := by decide +kernel
theorem dX6_init_1 : decode cX6_init 1 = .ok (.invokespecial 3, 3) := by decide +kernel
theorem dX6_init_4 : decode cX6_init 4 = .ok (.aload_n 0, 1) := by decide +kernel
theorem dX6_init_5 : decode cX6_init 5 = .ok (.bipush 10, 2) := by decide +kernel
theorem dX6_init_7 : decode cX6_init 7 = .ok (.putfield 9, 3) := by decide +kernel
theorem dX6_init_10 : decode cX6_init 10 = .ok (.aload_n 0, 1) := by decide +kernel
theorem dX6_init_11 : decode cX6_init 11 = .ok (.iconst 4, 1) := by decide +kernel
theorem dX6_init_12 : decode cX6_init 12 = .ok (.putfield 15, 3) := by decide +kernel
theorem dX6_init_15 : decode cX6_init 15 = .ok (.aload_n 0, 1) := by decide +kernel
theorem dX6_init_16 : decode cX6_init 16 = .ok (.iconst 0, 1) := by decide +kernel
theorem dX6_init_17 : decode cX6_init 17 = .ok (.putfield 18, 3) := by decide +kernel
theorem dX6_init_20 : decode cX6_init 20 = .ok (.aload_n 0, 1) := by decide +kernel
theorem dX6_init_21 : decode cX6_init 21 = .ok (.new 21, 3) := by decide +kernel
theorem dX6_init_24 : decode cX6_init 24 = .ok (.dup, 1) := by decide +kernel
theorem dX6_init_25 : decode cX6_init 25 = .ok (.bipush 12, 2) := by decide +kernel
theorem dX6_init_27 : decode cX6_init 27 = .ok (.invokespecial 23, 3) := by decide +kernel
theorem dX6_init_30 : decode cX6_init 30 = .ok (.putfield 26, 3) := by decide +kernel
theorem dX6_init_33 : decode cX6_init 33 = .ok (.aload_n 0, 1) := by decide +kernel
theorem dX6_init_34 : decode cX6_init 34 = .ok (.iconst 0, 1) := by decide +kernel
theorem dX6_init_35 : decode cX6_init 35 = .ok (.putfield 30, 3) := by decide +kernel
theorem dX6_init_38 : decode cX6_init 38 = .ok (.aload_n 0, 1) := by decide +kernel
theorem dX6_init_39 : decode cX6_init 39 = .ok (.new 21, 3) := by decide +kernel
theorem dX6_init_42 : decode cX6_init 42 = .ok (.dup, 1) := by decide +kernel
theorem dX6_init_43 : decode cX6_init 43 = .ok (.bipush 10, 2) := by decide +kernel
theorem dX6_init_45 : decode cX6_init 45 = .ok (.invokespecial 23, 3) := by decide +kernel
theorem dX6_init_48 : decode cX6_init 48 = .ok (.putfield 33, 3) := by decide +kernel
theorem dX6_init_51 : decode cX6_init 51 = .ok (.aload_n 0, 1) := by decide +kernel
theorem dX6_init_52 : decode cX6_init 52 = .ok (.new 21, 3) := by decide +kernel
theorem dX6_init_55 : decode cX6_init 55 = .ok (.dup, 1) := by decide +kernel
theorem dX6_init_56 : decode cX6_init 56 = .ok (.bipush 10, 2) := by decide +kernel
theorem dX6_init_58 : decode cX6_init 58 = .ok (.invokespecial 23, 3) := by decide +kernel
theorem dX6_init_61 : decode cX6_init 61 = .ok (.putfield 36, 3) := by decide +kernel
theorem dX6_init_64 : decode cX6_init 64 = .ok (.aload_n 0, 1) := by decide +kernel
theorem dX6_init_65 : decode cX6_init 65 = .ok (.iconst 0, 1) := by decide +kernel
theorem dX6_init_66 : decode cX6_init 66 = .ok (.putfield 39, 3) := by decide +kernel
theorem dX6_init_69 : decode cX6_init 69 = .ok (.aload_n 0, 1) := by decide +kernel
theorem dX6_init_70 : decode cX6_init 70 = .ok (.new 21, 3) := by decide +kernel
theorem dX6_init_73 : decode cX6_init 73 = .ok (.dup, 1) := by decide +kernel
theorem dX6_init_74 : decode cX6_init 74 = .ok (.bipush 60, 2) := by decide +kernel
theorem dX6_init_76 : decode cX6_init 76 = .ok (.invokespecial 23, 3) := by decide +kernel
theorem dX6_init_79 : decode cX6_init 79 = .ok (.putfield 42, 3) := by decide +kernel
theorem dX6_init_82 : decode cX6_init 82 = .ok (.aload_n 0, 1) := by decide +kernel
theorem dX6_init_83 : decode cX6_init 83 = .ok (.new 21, 3) := by decide +kernel
theorem dX6_init_86 : decode cX6_init 86 = .ok (.dup, 1) := by decide +kernel
theorem dX6_init_87 : decode cX6_init 87 = .ok (.sipush 720, 3) := by decide +kernel
theorem dX6_init_90 : decode cX6_init 90 = .ok (.invokespecial 23, 3) := by decide +kernel
theorem dX6_init_93 : decode cX6_init 93 = .ok (.putfield 45, 3) := by decide +kernel
theorem dX6_init_96 : decode cX6_init 96 = .ok (.aload_n 0, 1) := by decide +kernel
theorem dX6_init_97 : decode cX6_init 97 = .ok (.new 48, 3) := by decide +kernel
theorem dX6_init_100 : decode cX6_init 100 = .ok (.dup, 1) := by decide +kernel
theorem dX6_init_101 : decode cX6_init 101 = .ok (.invokespecial 50, 3) := by decide +kernel
theorem dX6_init_104 : decode cX6_init 104 = .ok (.putfield 51, 3) := by decide +kernel
theorem dX6_init_107 : decode cX6_init 107 = .ok (.aload_n 0, 1) := by decide +kernel
theorem dX6_init_108 : decode cX6_init 108 = .ok (.iconst 0, 1) := by decide +kernel
theorem dX6_init_109 : decode cX6_init 109 = .ok (.putfield 55, 3) := by decide +kernel
theorem dX6_init_112 : decode cX6_init 112 = .ok (.return_, 1) := by decide +kernel
theorem dX6_begin_0 : decode cX6_begin 0 = .ok (.aload_n 0, 1) := by decide +kernel
theorem dX6_begin_1 : decode cX6_begin 1 = .ok (.iload_n 1, 1) := by decide +kernel
theorem dX6_begin_2 : decode cX6_begin 2 = .ok (.putfield 9, 3) := by decide +kernel
theorem dX6_begin_5 : decode cX6_begin 5 = .ok (.aload_n 0, 1) := by decide +kernel
theorem dX6_begin_6 : decode cX6_begin 6 = .ok (.iload_n 2, 1) := by decide +kernel
theorem dX6_begin_7 : decode cX6_begin 7 = .ok (.putfield 15, 3) := by decide +kernel
theorem dX6_begin_10 : decode cX6_begin 10 = .ok (.aload_n 0, 1) := by decide +kernel
theorem dX6_begin_11 : decode cX6_begin 11 = .ok (.iconst 0, 1) := by decide +kernel
theorem dX6_begin_12 : decode cX6_begin 12 = .ok (.putfield 18, 3) := by decide +kernel
theorem dX6_begin_15 : decode cX6_begin 15 = .ok (.aload_n 0, 1) := by decide +kernel
theorem dX6_begin_16 : decode cX6_begin 16 = .ok (.iconst 0, 1) := by decide +kernel
theorem dX6_begin_17 : decode cX6_begin 17 = .ok (.putfield 55, 3) := by decide +kernel
theorem dX6_begin_20 : decode cX6_begin 20 = .ok (.aload_n 0, 1) := by decide +kernel
theorem dX6_begin_21 : decode cX6_begin 21 = .ok (.getfield 26, 3) := by decide +kernel
theorem dX6_begin_24 : decode cX6_begin 24 = .ok (.invokevirtual 58, 3) := by decide +kernel
theorem dX6_begin_27 : decode cX6_begin 27 = .ok (.aload_n 0, 1) := by decide +kernel
theorem dX6_begin_28 : decode cX6_begin 28 = .ok (.invokevirtual 61, 3) := by decide +kernel
theorem dX6_begin_31 : decode cX6_begin 31 = .ok (.aload_n 0, 1) := by decide +kernel
theorem dX6_begin_32 : decode cX6_begin 32 = .ok (.getfield 51, 3) := by decide +kernel
theorem dX6_begin_35 : decode cX6_begin 35 = .ok (.bipush 100, 2) := by decide +kernel
theorem dX6_begin_37 : decode cX6_begin 37 = .ok (.bipush 10, 2) := by decide +kernel
theorem dX6_begin_39 : decode cX6_begin 39 = .ok (.invokevirtual 64, 3) := by decide +kernel
theorem dX6_begin_42 : decode cX6_begin 42 = .ok (.aload_n 0, 1) := by decide +kernel
theorem dX6_begin_43 : decode cX6_begin 43 = .ok (.getfield 51, 3) := by decide +kernel
theorem dX6_begin_46 : decode cX6_begin 46 = .ok (.iconst 0, 1) := by decide +kernel
theorem dX6_begin_47 : decode cX6_begin 47 = .ok (.putfield 68, 3) := by decide +kernel
theorem dX6_begin_50 : decode cX6_begin 50 = .ok (.aload_n 0, 1) := by decide +kernel
theorem dX6_begin_51 : decode cX6_begin 51 = .ok (.getfield 51, 3) := by decide +kernel
theorem dX6_begin_54 : decode cX6_begin 54 = .ok (.iconst 0, 1) := by decide +kernel
theorem dX6_begin_55 : decode cX6_begin 55 = .ok (.putfield 71, 3) := by decide +kernel
theorem dX6_begin_58 : decode cX6_begin 58 = .ok (.return_, 1) := by decide +kernel
theorem dX6_copy_0 : decode cX6_copy 0 = .ok (.aload_n 0, 1) := by decide +kernel
theorem dX6_copy_1 : decode cX6_copy 1 = .ok (.aload_n 1, 1) := by decide +kernel
theorem dX6_copy_2 : decode cX6_copy 2 = .ok (.getfield 9, 3) := by decide +kernel
theorem dX6_copy_5 : decode cX6_copy 5 = .ok (.putfield 9, 3) := by decide +kernel
theorem dX6_copy_8 : decode cX6_copy 8 = .ok (.aload_n 0, 1) := by decide +kernel
theorem dX6_copy_9 : decode cX6_copy 9 = .ok (.aload_n 1, 1) := by decide +kernel
theorem dX6_copy_10 : decode cX6_copy 10 = .ok (.getfield 15, 3) := by decide +kernel
theorem dX6_copy_13 : decode cX6_copy 13 = .ok (.putfield 15, 3) := by decide +kernel
theorem dX6_copy_16 : decode cX6_copy 16 = .ok (.aload_n 0, 1) := by decide +kernel
theorem dX6_copy_17 : decode cX6_copy 17 = .ok (.aload_n 1, 1) := by decide +kernel
theorem dX6_copy_18 : decode cX6_copy 18 = .ok (.getfield 18, 3) := by decide +kernel
theorem dX6_copy_21 : decode cX6_copy 21 = .ok (.putfield 18, 3) := by decide +kernel
theorem dX6_copy_24 : decode cX6_copy 24 = .ok (.aload_n 0, 1) := by decide +kernel
theorem dX6_copy_25 : decode cX6_copy 25 = .ok (.getfield 26, 3) := by decide +kernel
theorem dX6_copy_28 : decode cX6_copy 28 = .ok (.aload_n 1, 1) := by decide +kernel
theorem dX6_copy_29 : decode cX6_copy 29 = .ok (.getfield 26, 3) := by decide +kernel
theorem dX6_copy_32 : decode cX6_copy 32 = .ok (.invokevirtual 74, 3) := by decide +kernel
theorem dX6_copy_35 : decode cX6_copy 35 = .ok (.aload_n 0, 1) := by decide +kernel
theorem dX6_copy_36 : decode cX6_copy 36 = .ok (.aload_n 1, 1) := by decide +kernel
theorem dX6_copy_37 : decode cX6_copy 37 = .ok (.getfield 30, 3) := by decide +kernel
theorem dX6_copy_40 : decode cX6_copy 40 = .ok (.putfield 30, 3) := by decide +kernel
theorem dX6_copy_43 : decode cX6_copy 43 = .ok (.aload_n 0, 1) := by decide +kernel
theorem dX6_copy_44 : decode cX6_copy 44 = .ok (.getfield 33, 3) := by decide +kernel
theorem dX6_copy_47 : decode cX6_copy 47 = .ok (.aload_n 1, 1) := by decide +kernel
theorem dX6_copy_48 : decode cX6_copy 48 = .ok (.getfield 33, 3) := by decide +kernel
theorem dX6_copy_51 : decode cX6_copy 51 = .ok (.invokevirtual 74, 3) := by decide +kernel
theorem dX6_copy_54 : decode cX6_copy 54 = .ok (.aload_n 0, 1) := by decide +kernel
theorem dX6_copy_55 : decode cX6_copy 55 = .ok (.getfield 36, 3) := by decide +kernel
theorem dX6_copy_58 : decode cX6_copy 58 = .ok (.aload_n 1, 1) := by decide +kernel
theorem dX6_copy_59 : decode cX6_copy 59 = .ok (.getfield 36, 3) := by decide +kernel
theorem dX6_copy_62 : decode cX6_copy 62 = .ok (.invokevirtual 74, 3) := by decide +kernel
theorem dX6_copy_65 : decode cX6_copy 65 = .ok (.aload_n 0, 1) := by decide +kernel
theorem dX6_copy_66 : decode cX6_copy 66 = .ok (.aload_n 1, 1) := by decide +kernel
theorem dX6_copy_67 : decode cX6_copy 67 = .ok (.getfield 39, 3) := by decide +kernel
theorem dX6_copy_70 : decode cX6_copy 70 = .ok (.putfield 39, 3) := by decide +kernel
theorem dX6_copy_73 : decode cX6_copy 73 = .ok (.aload_n 0, 1) := by decide +kernel
theorem dX6_copy_74 : decode cX6_copy 74 = .ok (.getfield 42, 3) := by decide +kernel
theorem dX6_copy_77 : decode cX6_copy 77 = .ok (.aload_n 1, 1) := by decide +kernel
theorem dX6_copy_78 : decode cX6_copy 78 = .ok (.getfield 42, 3) := by decide +kernel
theorem dX6_copy_81 : decode cX6_copy 81 = .ok (.invokevirtual 74, 3) := by decide +kernel
theorem dX6_copy_84 : decode cX6_copy 84 = .ok (.aload_n 0, 1) := by decide +kernel
theorem dX6_copy_85 : decode cX6_copy 85 = .ok (.getfield 45, 3) := by decide +kernel
theorem dX6_copy_88 : decode cX6_copy 88 = .ok (.aload_n 1, 1) := by decide +kernel
theorem dX6_copy_89 : decode cX6_copy 89 = .ok (.getfield 45, 3) := by decide +kernel
theorem dX6_copy_92 : decode cX6_copy 92 = .ok (.invokevirtual 74, 3) := by decide +kernel
theorem dX6_copy_95 : decode cX6_copy 95 = .ok (.aload_n 0, 1) := by decide +kernel
theorem dX6_copy_96 : decode cX6_copy 96 = .ok (.getfield 51, 3) := by decide +kernel
theorem dX6_copy_99 : decode cX6_copy 99 = .ok (.aload_n 1, 1) := by decide +kernel
theorem dX6_copy_100 : decode cX6_copy 100 = .ok (.getfield 51, 3) := by decide +kernel
theorem dX6_copy_103 : decode cX6_copy 103 = .ok (.invokevirtual 78, 3) := by decide +kernel
theorem dX6_copy_106 : decode cX6_copy 106 = .ok (.aload_n 0, 1) := by decide +kernel
theorem dX6_copy_107 : decode cX6_copy 107 = .ok (.aload_n 1, 1) := by decide +kernel
theorem dX6_copy_108 : decode cX6_copy 108 = .ok (.getfield 55, 3) := by decide +kernel
theorem dX6_copy_111 : decode cX6_copy 111 = .ok (.putfield 55, 3) := by decide +kernel
theorem dX6_copy_114 : decode cX6_copy 114 = .ok (.return_, 1) := by decide +kernel
theorem dX6_flawed_0 : decode cX6_flawed 0 = .ok (.iload_n 1, 1) := by decide +kernel
theorem dX6_flawed_1 : decode cX6_flawed 1 = .ok (.ifCond .lt 27, 3) := by decide +kernel
theorem dX6_flawed_4 : decode cX6_flawed 4 = .ok (.iload_n 1, 1) := by decide +kernel
theorem dX6_flawed_5 : decode cX6_flawed 5 = .ok (.aload_n 0, 1) := by decide +kernel
theorem dX6_flawed_6 : decode cX6_flawed 6 = .ok (.getfield 9, 3) := by decide +kernel
theorem dX6_flawed_9 : decode cX6_flawed 9 = .ok (.if_icmp .ge 19, 3) := by decide +kernel
theorem dX6_flawed_12 : decode cX6_flawed 12 = .ok (.iload_n 2, 1) := by decide +kernel
theorem dX6_flawed_13 : decode cX6_flawed 13 = .ok (.ifCond .lt 15, 3) := by decide +kernel
theorem dX6_flawed_16 : decode cX6_flawed 16 = .ok (.iload_n 2, 1) := by decide +kernel
theorem dX6_flawed_17 : decode cX6_flawed 17 = .ok (.aload_n 0, 1) := by decide +kernel
theorem dX6_flawed_18 : decode cX6_flawed 18 = .ok (.getfield 15, 3) := by decide +kernel
theorem dX6_flawed_21 : decode cX6_flawed 21 = .ok (.if_icmp .ge 7, 3) := by decide +kernel
theorem dX6_flawed_24 : decode cX6_flawed 24 = .ok (.iconst 1, 1) := by decide +kernel
theorem dX6_flawed_25 : decode cX6_flawed 25 = .ok (.goto 4, 3) := by decide +kernel
theorem dX6_flawed_28 : decode cX6_flawed 28 = .ok (.iconst 0, 1) := by decide +kernel
theorem dX6_flawed_29 : decode cX6_flawed 29 = .ok (.istore_n 3, 1) := by decide +kernel
theorem dX6_flawed_30 : decode cX6_flawed 30 = .ok (.iload_n 3, 1) := by decide +kernel
theorem dX6_flawed_31 : decode cX6_flawed 31 = .ok (.ifCond .eq 23, 3) := by decide +kernel
theorem dX6_flawed_34 : decode cX6_flawed 34 = .ok (.aload_n 0, 1) := by decide +kernel
theorem dX6_flawed_35 : decode cX6_flawed 35 = .ok (.getfield 26, 3) := by decide +kernel
theorem dX6_flawed_38 : decode cX6_flawed 38 = .ok (.iload_n 2, 1) := by decide +kernel
theorem dX6_flawed_39 : decode cX6_flawed 39 = .ok (.invokevirtual 81, 3) := by decide +kernel
theorem dX6_flawed_42 : decode cX6_flawed 42 = .ok (.iload_n 1, 1) := by decide +kernel
theorem dX6_flawed_43 : decode cX6_flawed 43 = .ok (.ishr, 1) := by decide +kernel
theorem dX6_flawed_44 : decode cX6_flawed 44 = .ok (.iconst 1, 1) := by decide +kernel
theorem dX6_flawed_45 : decode cX6_flawed 45 = .ok (.iand, 1) := by decide +kernel
theorem dX6_flawed_46 : decode cX6_flawed 46 = .ok (.iconst 1, 1) := by decide +kernel
theorem dX6_flawed_47 : decode cX6_flawed 47 = .ok (.if_icmp .ne 7, 3) := by decide +kernel
theorem dX6_flawed_50 : decode cX6_flawed 50 = .ok (.iconst 1, 1) := by decide +kernel
theorem dX6_flawed_51 : decode cX6_flawed 51 = .ok (.goto 4, 3) := by decide +kernel
theorem dX6_flawed_54 : decode cX6_flawed 54 = .ok (.iconst 0, 1) := by decide +kernel
theorem dX6_flawed_55 : decode cX6_flawed 55 = .ok (.ireturn, 1) := by decide +kernel
theorem dX6_mark_0 : decode cX6_mark 0 = .ok (.iload_n 1, 1) := by decide +kernel
theorem dX6_mark_1 : decode cX6_mark 1 = .ok (.ifCond .lt 67, 3) := by decide +kernel
theorem dX6_mark_4 : decode cX6_mark 4 = .ok (.iload_n 1, 1) := by decide +kernel
theorem dX6_mark_5 : decode cX6_mark 5 = .ok (.aload_n 0, 1) := by decide +kernel
theorem dX6_mark_6 : decode cX6_mark 6 = .ok (.getfield 9, 3) := by decide +kernel
theorem dX6_mark_9 : decode cX6_mark 9 = .ok (.if_icmp .ge 59, 3) := by decide +kernel
theorem dX6_mark_12 : decode cX6_mark 12 = .ok (.iload_n 2, 1) := by decide +kernel
theorem dX6_mark_13 : decode cX6_mark 13 = .ok (.ifCond .lt 55, 3) := by decide +kernel
theorem dX6_mark_16 : decode cX6_mark 16 = .ok (.iload_n 2, 1) := by decide +kernel
theorem dX6_mark_17 : decode cX6_mark 17 = .ok (.aload_n 0, 1) := by decide +kernel
theorem dX6_mark_18 : decode cX6_mark 18 = .ok (.getfield 15, 3) := by decide +kernel
theorem dX6_mark_21 : decode cX6_mark 21 = .ok (.if_icmp .ge 47, 3) := by decide +kernel
theorem dX6_mark_24 : decode cX6_mark 24 = .ok (.iconst 1, 1) := by decide +kernel
theorem dX6_mark_25 : decode cX6_mark 25 = .ok (.iload_n 1, 1) := by decide +kernel
theorem dX6_mark_26 : decode cX6_mark 26 = .ok (.ishl, 1) := by decide +kernel
theorem dX6_mark_27 : decode cX6_mark 27 = .ok (.istore 4, 2) := by decide +kernel
theorem dX6_mark_29 : decode cX6_mark 29 = .ok (.aload_n 0, 1) := by decide +kernel
theorem dX6_mark_30 : decode cX6_mark 30 = .ok (.getfield 26, 3) := by decide +kernel
theorem dX6_mark_33 : decode cX6_mark 33 = .ok (.iload_n 2, 1) := by decide +kernel
theorem dX6_mark_34 : decode cX6_mark 34 = .ok (.iload_n 3, 1) := by decide +kernel
theorem dX6_mark_35 : decode cX6_mark 35 = .ok (.ifCond .eq 17, 3) := by decide +kernel
theorem dX6_mark_38 : decode cX6_mark 38 = .ok (.aload_n 0, 1) := by decide +kernel
theorem dX6_mark_39 : decode cX6_mark 39 = .ok (.getfield 26, 3) := by decide +kernel
theorem dX6_mark_42 : decode cX6_mark 42 = .ok (.iload_n 2, 1) := by decide +kernel
theorem dX6_mark_43 : decode cX6_mark 43 = .ok (.invokevirtual 81, 3) := by decide +kernel
theorem dX6_mark_46 : decode cX6_mark 46 = .ok (.iload 4, 2) := by decide +kernel
theorem dX6_mark_48 : decode cX6_mark 48 = .ok (.ior, 1) := by decide +kernel
theorem dX6_mark_49 : decode cX6_mark 49 = .ok (.goto 16, 3) := by decide +kernel
theorem dX6_mark_52 : decode cX6_mark 52 = .ok (.aload_n 0, 1) := by decide +kernel
theorem dX6_mark_53 : decode cX6_mark 53 = .ok (.getfield 26, 3) := by decide +kernel
theorem dX6_mark_56 : decode cX6_mark 56 = .ok (.iload_n 2, 1) := by decide +kernel
theorem dX6_mark_57 : decode cX6_mark 57 = .ok (.invokevirtual 81, 3) := by decide +kernel
theorem dX6_mark_60 : decode cX6_mark 60 = .ok (.iload 4, 2) := by decide +kernel
theorem dX6_mark_62 : decode cX6_mark 62 = .ok (.iconst (-1), 1) := by decide +kernel
theorem dX6_mark_63 : decode cX6_mark 63 = .ok (.ixor, 1) := by decide +kernel
theorem dX6_mark_64 : decode cX6_mark 64 = .ok (.iand, 1) := by decide +kernel
theorem dX6_mark_65 : decode cX6_mark 65 = .ok (.invokevirtual 85, 3) := by decide +kernel
theorem dX6_mark_68 : decode cX6_mark 68 = .ok (.return_, 1) := by decide +kernel
theorem dX6_flawCount_0 : decode cX6_flawCount 0 = .ok (.iconst 0, 1) := by decide +kernel
theorem dX6_flawCount_1 : decode cX6_flawCount 1 = .ok (.istore_n 1, 1) := by decide +kernel
theorem dX6_flawCount_2 : decode cX6_flawCount 2 = .ok (.iconst 0, 1) := by decide +kernel
theorem dX6_flawCount_3 : decode cX6_flawCount 3 = .ok (.istore_n 2, 1) := by decide +kernel
theorem dX6_flawCount_4 : decode cX6_flawCount 4 = .ok (.iload_n 2, 1) := by decide +kernel
theorem dX6_flawCount_5 : decode cX6_flawCount 5 = .ok (.aload_n 0, 1) := by decide +kernel
theorem dX6_flawCount_6 : decode cX6_flawCount 6 = .ok (.getfield 15, 3) := by decide +kernel
theorem dX6_flawCount_9 : decode cX6_flawCount 9 = .ok (.if_icmp .ge 23, 3) := by decide +kernel
theorem dX6_flawCount_12 : decode cX6_flawCount 12 = .ok (.iload_n 1, 1) := by decide +kernel
theorem dX6_flawCount_13 : decode cX6_flawCount 13 = .ok (.aload_n 0, 1) := by decide +kernel
theorem dX6_flawCount_14 : decode cX6_flawCount 14 = .ok (.getfield 26, 3) := by decide +kernel
theorem dX6_flawCount_17 : decode cX6_flawCount 17 = .ok (.iload_n 2, 1) := by decide +kernel
theorem dX6_flawCount_18 : decode cX6_flawCount 18 = .ok (.invokevirtual 81, 3) := by decide +kernel
theorem dX6_flawCount_21 : decode cX6_flawCount 21 = .ok (.invokestatic 88, 3) := by decide +kernel
theorem dX6_flawCount_24 : decode cX6_flawCount 24 = .ok (.iadd, 1) := by decide +kernel
theorem dX6_flawCount_25 : decode cX6_flawCount 25 = .ok (.istore_n 1, 1) := by decide +kernel
theorem dX6_flawCount_26 : decode cX6_flawCount 26 = .ok (.iinc 2 1, 3) := by decide +kernel
theorem dX6_flawCount_29 : decode cX6_flawCount 29 = .ok (.goto (-25), 3) := by decide +kernel
theorem dX6_flawCount_32 : decode cX6_flawCount 32 = .ok (.iload_n 1, 1) := by decide +kernel
theorem dX6_flawCount_33 : decode cX6_flawCount 33 = .ok (.ireturn, 1) := by decide +kernel
theorem dX6_touched_0 : decode cX6_touched 0 = .ok (.aload_n 0, 1) := by decide +kernel
theorem dX6_touched_1 : decode cX6_touched 1 = .ok (.getfield 26, 3) := by decide +kernel
theorem dX6_touched_4 : decode cX6_touched 4 = .ok (.iload_n 2, 1) := by decide +kernel
theorem dX6_touched_5 : decode cX6_touched 5 = .ok (.invokevirtual 81, 3) := by decide +kernel
theorem dX6_touched_8 : decode cX6_touched 8 = .ok (.istore_n 3, 1) := by decide +kernel
theorem dX6_touched_9 : decode cX6_touched 9 = .ok (.iload_n 3, 1) := by decide +kernel
theorem dX6_touched_10 : decode cX6_touched 10 = .ok (.iconst 1, 1) := by decide +kernel
theorem dX6_touched_11 : decode cX6_touched 11 = .ok (.ishl, 1) := by decide +kernel
theorem dX6_touched_12 : decode cX6_touched 12 = .ok (.iload_n 3, 1) := by decide +kernel
theorem dX6_touched_13 : decode cX6_touched 13 = .ok (.iconst 1, 1) := by decide +kernel
theorem dX6_touched_14 : decode cX6_touched 14 = .ok (.ishr, 1) := by decide +kernel
theorem dX6_touched_15 : decode cX6_touched 15 = .ok (.ior, 1) := by decide +kernel
theorem dX6_touched_16 : decode cX6_touched 16 = .ok (.aload_n 0, 1) := by decide +kernel
theorem dX6_touched_17 : decode cX6_touched 17 = .ok (.getfield 26, 3) := by decide +kernel
theorem dX6_touched_20 : decode cX6_touched 20 = .ok (.iload_n 2, 1) := by decide +kernel
theorem dX6_touched_21 : decode cX6_touched 21 = .ok (.iconst 1, 1) := by decide +kernel
theorem dX6_touched_22 : decode cX6_touched 22 = .ok (.isub, 1) := by decide +kernel
theorem dX6_touched_23 : decode cX6_touched 23 = .ok (.invokevirtual 81, 3) := by decide +kernel
theorem dX6_touched_26 : decode cX6_touched 26 = .ok (.ior, 1) := by decide +kernel
theorem dX6_touched_27 : decode cX6_touched 27 = .ok (.aload_n 0, 1) := by decide +kernel
theorem dX6_touched_28 : decode cX6_touched 28 = .ok (.getfield 26, 3) := by decide +kernel
theorem dX6_touched_31 : decode cX6_touched 31 = .ok (.iload_n 2, 1) := by decide +kernel
theorem dX6_touched_32 : decode cX6_touched 32 = .ok (.iconst 1, 1) := by decide +kernel
theorem dX6_touched_33 : decode cX6_touched 33 = .ok (.iadd, 1) := by decide +kernel
theorem dX6_touched_34 : decode cX6_touched 34 = .ok (.invokevirtual 81, 3) := by decide +kernel
theorem dX6_touched_37 : decode cX6_touched 37 = .ok (.ior, 1) := by decide +kernel
theorem dX6_touched_38 : decode cX6_touched 38 = .ok (.istore 4, 2) := by decide +kernel
theorem dX6_touched_40 : decode cX6_touched 40 = .ok (.iload 4, 2) := by decide +kernel
theorem dX6_touched_42 : decode cX6_touched 42 = .ok (.iload_n 1, 1) := by decide +kernel
theorem dX6_touched_43 : decode cX6_touched 43 = .ok (.ishr, 1) := by decide +kernel
theorem dX6_touched_44 : decode cX6_touched 44 = .ok (.iconst 1, 1) := by decide +kernel
theorem dX6_touched_45 : decode cX6_touched 45 = .ok (.iand, 1) := by decide +kernel
theorem dX6_touched_46 : decode cX6_touched 46 = .ok (.iconst 1, 1) := by decide +kernel
theorem dX6_touched_47 : decode cX6_touched 47 = .ok (.if_icmp .ne 7, 3) := by decide +kernel
theorem dX6_touched_50 : decode cX6_touched 50 = .ok (.iconst 1, 1) := by decide +kernel
theorem dX6_touched_51 : decode cX6_touched 51 = .ok (.goto 4, 3) := by decide +kernel
theorem dX6_touched_54 : decode cX6_touched 54 = .ok (.iconst 0, 1) := by decide +kernel
theorem dX6_touched_55 : decode cX6_touched 55 = .ok (.ireturn, 1) := by decide +kernel
theorem dX6_turnFlaws_0 : decode cX6_turnFlaws 0 = .ok (.aload_n 0, 1) := by decide +kernel
theorem dX6_turnFlaws_1 : decode cX6_turnFlaws 1 = .ok (.getfield 26, 3) := by decide +kernel
theorem dX6_turnFlaws_4 : decode cX6_turnFlaws 4 = .ok (.invokevirtual 58, 3) := by decide +kernel
theorem dX6_turnFlaws_7 : decode cX6_turnFlaws 7 = .ok (.iconst 0, 1) := by decide +kernel
theorem dX6_turnFlaws_8 : decode cX6_turnFlaws 8 = .ok (.istore_n 2, 1) := by decide +kernel
theorem dX6_turnFlaws_9 : decode cX6_turnFlaws 9 = .ok (.iload_n 2, 1) := by decide +kernel
theorem dX6_turnFlaws_10 : decode cX6_turnFlaws 10 = .ok (.aload_n 0, 1) := by decide +kernel
theorem dX6_turnFlaws_11 : decode cX6_turnFlaws 11 = .ok (.getfield 15, 3) := by decide +kernel
theorem dX6_turnFlaws_14 : decode cX6_turnFlaws 14 = .ok (.if_icmp .ge 51, 3) := by decide +kernel
theorem dX6_turnFlaws_17 : decode cX6_turnFlaws 17 = .ok (.iconst 0, 1) := by decide +kernel
theorem dX6_turnFlaws_18 : decode cX6_turnFlaws 18 = .ok (.istore_n 3, 1) := by decide +kernel
theorem dX6_turnFlaws_19 : decode cX6_turnFlaws 19 = .ok (.iload_n 3, 1) := by decide +kernel
theorem dX6_turnFlaws_20 : decode cX6_turnFlaws 20 = .ok (.aload_n 0, 1) := by decide +kernel
theorem dX6_turnFlaws_21 : decode cX6_turnFlaws 21 = .ok (.getfield 9, 3) := by decide +kernel
theorem dX6_turnFlaws_24 : decode cX6_turnFlaws 24 = .ok (.if_icmp .ge 35, 3) := by decide +kernel
theorem dX6_turnFlaws_27 : decode cX6_turnFlaws 27 = .ok (.aload_n 0, 1) := by decide +kernel
theorem dX6_turnFlaws_28 : decode cX6_turnFlaws 28 = .ok (.aload_n 0, 1) := by decide +kernel
theorem dX6_turnFlaws_29 : decode cX6_turnFlaws 29 = .ok (.getfield 9, 3) := by decide +kernel
theorem dX6_turnFlaws_32 : decode cX6_turnFlaws 32 = .ok (.iconst 1, 1) := by decide +kernel
theorem dX6_turnFlaws_33 : decode cX6_turnFlaws 33 = .ok (.isub, 1) := by decide +kernel
theorem dX6_turnFlaws_34 : decode cX6_turnFlaws 34 = .ok (.iload_n 3, 1) := by decide +kernel
theorem dX6_turnFlaws_35 : decode cX6_turnFlaws 35 = .ok (.isub, 1) := by decide +kernel
theorem dX6_turnFlaws_36 : decode cX6_turnFlaws 36 = .ok (.aload_n 0, 1) := by decide +kernel
theorem dX6_turnFlaws_37 : decode cX6_turnFlaws 37 = .ok (.getfield 15, 3) := by decide +kernel
theorem dX6_turnFlaws_40 : decode cX6_turnFlaws 40 = .ok (.iconst 1, 1) := by decide +kernel
theorem dX6_turnFlaws_41 : decode cX6_turnFlaws 41 = .ok (.isub, 1) := by decide +kernel
theorem dX6_turnFlaws_42 : decode cX6_turnFlaws 42 = .ok (.iload_n 2, 1) := by decide +kernel
theorem dX6_turnFlaws_43 : decode cX6_turnFlaws 43 = .ok (.isub, 1) := by decide +kernel
theorem dX6_turnFlaws_44 : decode cX6_turnFlaws 44 = .ok (.aload_n 1, 1) := by decide +kernel
theorem dX6_turnFlaws_45 : decode cX6_turnFlaws 45 = .ok (.iload_n 3, 1) := by decide +kernel
theorem dX6_turnFlaws_46 : decode cX6_turnFlaws 46 = .ok (.iload_n 2, 1) := by decide +kernel
theorem dX6_turnFlaws_47 : decode cX6_turnFlaws 47 = .ok (.invokevirtual 93, 3) := by decide +kernel
theorem dX6_turnFlaws_50 : decode cX6_turnFlaws 50 = .ok (.invokevirtual 97, 3) := by decide +kernel
theorem dX6_turnFlaws_53 : decode cX6_turnFlaws 53 = .ok (.iinc 3 1, 3) := by decide +kernel
theorem dX6_turnFlaws_56 : decode cX6_turnFlaws 56 = .ok (.goto (-37), 3) := by decide +kernel
theorem dX6_turnFlaws_59 : decode cX6_turnFlaws 59 = .ok (.iinc 2 1, 3) := by decide +kernel
theorem dX6_turnFlaws_62 : decode cX6_turnFlaws 62 = .ok (.goto (-53), 3) := by decide +kernel
theorem dX6_turnFlaws_65 : decode cX6_turnFlaws 65 = .ok (.return_, 1) := by decide +kernel
theorem dX6_cutFlaws_0 : decode cX6_cutFlaws 0 = .ok (.iload_n 2, 1) := by decide +kernel
theorem dX6_cutFlaws_1 : decode cX6_cutFlaws 1 = .ok (.ifCond .eq 7, 3) := by decide +kernel
theorem dX6_cutFlaws_4 : decode cX6_cutFlaws 4 = .ok (.iload_n 1, 1) := by decide +kernel
theorem dX6_cutFlaws_5 : decode cX6_cutFlaws 5 = .ok (.goto 4, 3) := by decide +kernel
theorem dX6_cutFlaws_8 : decode cX6_cutFlaws 8 = .ok (.iconst 0, 1) := by decide +kernel
theorem dX6_cutFlaws_9 : decode cX6_cutFlaws 9 = .ok (.istore_n 3, 1) := by decide +kernel
theorem dX6_cutFlaws_10 : decode cX6_cutFlaws 10 = .ok (.aload_n 0, 1) := by decide +kernel
theorem dX6_cutFlaws_11 : decode cX6_cutFlaws 11 = .ok (.dup, 1) := by decide +kernel
theorem dX6_cutFlaws_12 : decode cX6_cutFlaws 12 = .ok (.getfield 15, 3) := by decide +kernel
theorem dX6_cutFlaws_15 : decode cX6_cutFlaws 15 = .ok (.iload_n 1, 1) := by decide +kernel
theorem dX6_cutFlaws_16 : decode cX6_cutFlaws 16 = .ok (.isub, 1) := by decide +kernel
theorem dX6_cutFlaws_17 : decode cX6_cutFlaws 17 = .ok (.putfield 15, 3) := by decide +kernel
theorem dX6_cutFlaws_20 : decode cX6_cutFlaws 20 = .ok (.iconst 0, 1) := by decide +kernel
theorem dX6_cutFlaws_21 : decode cX6_cutFlaws 21 = .ok (.istore 4, 2) := by decide +kernel
theorem dX6_cutFlaws_23 : decode cX6_cutFlaws 23 = .ok (.iload 4, 2) := by decide +kernel
theorem dX6_cutFlaws_25 : decode cX6_cutFlaws 25 = .ok (.bipush 12, 2) := by decide +kernel
theorem dX6_cutFlaws_27 : decode cX6_cutFlaws 27 = .ok (.if_icmp .ge 42, 3) := by decide +kernel
theorem dX6_cutFlaws_30 : decode cX6_cutFlaws 30 = .ok (.aload_n 0, 1) := by decide +kernel
theorem dX6_cutFlaws_31 : decode cX6_cutFlaws 31 = .ok (.getfield 26, 3) := by decide +kernel
theorem dX6_cutFlaws_34 : decode cX6_cutFlaws 34 = .ok (.iload 4, 2) := by decide +kernel
theorem dX6_cutFlaws_36 : decode cX6_cutFlaws 36 = .ok (.iload 4, 2) := by decide +kernel
theorem dX6_cutFlaws_38 : decode cX6_cutFlaws 38 = .ok (.aload_n 0, 1) := by decide +kernel
theorem dX6_cutFlaws_39 : decode cX6_cutFlaws 39 = .ok (.getfield 15, 3) := by decide +kernel
theorem dX6_cutFlaws_42 : decode cX6_cutFlaws 42 = .ok (.if_icmp .ge 17, 3) := by decide +kernel
theorem dX6_cutFlaws_45 : decode cX6_cutFlaws 45 = .ok (.aload_n 0, 1) := by decide +kernel
theorem dX6_cutFlaws_46 : decode cX6_cutFlaws 46 = .ok (.getfield 26, 3) := by decide +kernel
theorem dX6_cutFlaws_49 : decode cX6_cutFlaws 49 = .ok (.iload 4, 2) := by decide +kernel
theorem dX6_cutFlaws_51 : decode cX6_cutFlaws 51 = .ok (.iload_n 3, 1) := by decide +kernel
theorem dX6_cutFlaws_52 : decode cX6_cutFlaws 52 = .ok (.iadd, 1) := by decide +kernel
theorem dX6_cutFlaws_53 : decode cX6_cutFlaws 53 = .ok (.invokevirtual 81, 3) := by decide +kernel
theorem dX6_cutFlaws_56 : decode cX6_cutFlaws 56 = .ok (.goto 4, 3) := by decide +kernel
theorem dX6_cutFlaws_59 : decode cX6_cutFlaws 59 = .ok (.iconst 0, 1) := by decide +kernel
theorem dX6_cutFlaws_60 : decode cX6_cutFlaws 60 = .ok (.invokevirtual 85, 3) := by decide +kernel
theorem dX6_cutFlaws_63 : decode cX6_cutFlaws 63 = .ok (.iinc 4 1, 3) := by decide +kernel
theorem dX6_cutFlaws_66 : decode cX6_cutFlaws 66 = .ok (.goto (-43), 3) := by decide +kernel
theorem dX6_cutFlaws_69 : decode cX6_cutFlaws 69 = .ok (.return_, 1) := by decide +kernel
theorem dX6_clearParts_0 : decode cX6_clearParts 0 = .ok (.aload_n 0, 1) := by decide +kernel
theorem dX6_clearParts_1 : decode cX6_clearParts 1 = .ok (.iconst 0, 1) := by decide +kernel
theorem dX6_clearParts_2 : decode cX6_clearParts 2 = .ok (.putfield 30, 3) := by decide +kernel
theorem dX6_clearParts_5 : decode cX6_clearParts 5 = .ok (.aload_n 0, 1) := by decide +kernel
theorem dX6_clearParts_6 : decode cX6_clearParts 6 = .ok (.iconst 0, 1) := by decide +kernel
theorem dX6_clearParts_7 : decode cX6_clearParts 7 = .ok (.putfield 39, 3) := by decide +kernel
theorem dX6_clearParts_10 : decode cX6_clearParts 10 = .ok (.return_, 1) := by decide +kernel
theorem dX6_openPart_0 : decode cX6_openPart 0 = .ok (.aload_n 0, 1) := by decide +kernel
theorem dX6_openPart_1 : decode cX6_openPart 1 = .ok (.getfield 30, 3) := by decide +kernel
theorem dX6_openPart_4 : decode cX6_openPart 4 = .ok (.bipush 10, 2) := by decide +kernel
theorem dX6_openPart_6 : decode cX6_openPart 6 = .ok (.if_icmp .ge 37, 3) := by decide +kernel
theorem dX6_openPart_9 : decode cX6_openPart 9 = .ok (.aload_n 0, 1) := by decide +kernel
theorem dX6_openPart_10 : decode cX6_openPart 10 = .ok (.getfield 33, 3) := by decide +kernel
theorem dX6_openPart_13 : decode cX6_openPart 13 = .ok (.aload_n 0, 1) := by decide +kernel
theorem dX6_openPart_14 : decode cX6_openPart 14 = .ok (.getfield 30, 3) := by decide +kernel
theorem dX6_openPart_17 : decode cX6_openPart 17 = .ok (.iload_n 1, 1) := by decide +kernel
theorem dX6_openPart_18 : decode cX6_openPart 18 = .ok (.invokevirtual 85, 3) := by decide +kernel
theorem dX6_openPart_21 : decode cX6_openPart 21 = .ok (.aload_n 0, 1) := by decide +kernel
theorem dX6_openPart_22 : decode cX6_openPart 22 = .ok (.getfield 36, 3) := by decide +kernel
theorem dX6_openPart_25 : decode cX6_openPart 25 = .ok (.aload_n 0, 1) := by decide +kernel
theorem dX6_openPart_26 : decode cX6_openPart 26 = .ok (.getfield 30, 3) := by decide +kernel
theorem dX6_openPart_29 : decode cX6_openPart 29 = .ok (.iconst 0, 1) := by decide +kernel
theorem dX6_openPart_30 : decode cX6_openPart 30 = .ok (.invokevirtual 85, 3) := by decide +kernel
theorem dX6_openPart_33 : decode cX6_openPart 33 = .ok (.aload_n 0, 1) := by decide +kernel
theorem dX6_openPart_34 : decode cX6_openPart 34 = .ok (.dup, 1) := by decide +kernel
theorem dX6_openPart_35 : decode cX6_openPart 35 = .ok (.getfield 30, 3) := by decide +kernel
theorem dX6_openPart_38 : decode cX6_openPart 38 = .ok (.iconst 1, 1) := by decide +kernel
theorem dX6_openPart_39 : decode cX6_openPart 39 = .ok (.iadd, 1) := by decide +kernel
theorem dX6_openPart_40 : decode cX6_openPart 40 = .ok (.putfield 30, 3) := by decide +kernel
theorem dX6_openPart_43 : decode cX6_openPart 43 = .ok (.return_, 1) := by decide +kernel
theorem dX6_takeWord_0 : decode cX6_takeWord 0 = .ok (.aload_n 0, 1) := by decide +kernel
theorem dX6_takeWord_1 : decode cX6_takeWord 1 = .ok (.getfield 39, 3) := by decide +kernel
theorem dX6_takeWord_4 : decode cX6_takeWord 4 = .ok (.bipush 60, 2) := by decide +kernel
theorem dX6_takeWord_6 : decode cX6_takeWord 6 = .ok (.if_icmp .ge 100, 3) := by decide +kernel
theorem dX6_takeWord_9 : decode cX6_takeWord 9 = .ok (.aload_n 0, 1) := by decide +kernel
theorem dX6_takeWord_10 : decode cX6_takeWord 10 = .ok (.getfield 30, 3) := by decide +kernel
theorem dX6_takeWord_13 : decode cX6_takeWord 13 = .ok (.ifCond .le 93, 3) := by decide +kernel
theorem dX6_takeWord_16 : decode cX6_takeWord 16 = .ok (.iconst 0, 1) := by decide +kernel
theorem dX6_takeWord_17 : decode cX6_takeWord 17 = .ok (.istore 4, 2) := by decide +kernel
theorem dX6_takeWord_19 : decode cX6_takeWord 19 = .ok (.iload 4, 2) := by decide +kernel
theorem dX6_takeWord_21 : decode cX6_takeWord 21 = .ok (.iload_n 3, 1) := by decide +kernel
theorem dX6_takeWord_22 : decode cX6_takeWord 22 = .ok (.if_icmp .ge 34, 3) := by decide +kernel
theorem dX6_takeWord_25 : decode cX6_takeWord 25 = .ok (.aload_n 0, 1) := by decide +kernel
theorem dX6_takeWord_26 : decode cX6_takeWord 26 = .ok (.getfield 45, 3) := by decide +kernel
theorem dX6_takeWord_29 : decode cX6_takeWord 29 = .ok (.aload_n 0, 1) := by decide +kernel
theorem dX6_takeWord_30 : decode cX6_takeWord 30 = .ok (.getfield 39, 3) := by decide +kernel
theorem dX6_takeWord_33 : decode cX6_takeWord 33 = .ok (.bipush 12, 2) := by decide +kernel
theorem dX6_takeWord_35 : decode cX6_takeWord 35 = .ok (.imul, 1) := by decide +kernel
theorem dX6_takeWord_36 : decode cX6_takeWord 36 = .ok (.iload 4, 2) := by decide +kernel
theorem dX6_takeWord_38 : decode cX6_takeWord 38 = .ok (.iadd, 1) := by decide +kernel
theorem dX6_takeWord_39 : decode cX6_takeWord 39 = .ok (.aload_n 1, 1) := by decide +kernel
theorem dX6_takeWord_40 : decode cX6_takeWord 40 = .ok (.iload_n 2, 1) := by decide +kernel
theorem dX6_takeWord_41 : decode cX6_takeWord 41 = .ok (.iload 4, 2) := by decide +kernel
theorem dX6_takeWord_43 : decode cX6_takeWord 43 = .ok (.iadd, 1) := by decide +kernel
theorem dX6_takeWord_44 : decode cX6_takeWord 44 = .ok (.invokevirtual 81, 3) := by decide +kernel
theorem dX6_takeWord_47 : decode cX6_takeWord 47 = .ok (.invokevirtual 85, 3) := by decide +kernel
theorem dX6_takeWord_50 : decode cX6_takeWord 50 = .ok (.iinc 4 1, 3) := by decide +kernel
theorem dX6_takeWord_53 : decode cX6_takeWord 53 = .ok (.goto (-34), 3) := by decide +kernel
theorem dX6_takeWord_56 : decode cX6_takeWord 56 = .ok (.aload_n 0, 1) := by decide +kernel
theorem dX6_takeWord_57 : decode cX6_takeWord 57 = .ok (.getfield 42, 3) := by decide +kernel
theorem dX6_takeWord_60 : decode cX6_takeWord 60 = .ok (.aload_n 0, 1) := by decide +kernel
theorem dX6_takeWord_61 : decode cX6_takeWord 61 = .ok (.getfield 39, 3) := by decide +kernel
theorem dX6_takeWord_64 : decode cX6_takeWord 64 = .ok (.iload_n 3, 1) := by decide +kernel
theorem dX6_takeWord_65 : decode cX6_takeWord 65 = .ok (.invokevirtual 85, 3) := by decide +kernel
theorem dX6_takeWord_68 : decode cX6_takeWord 68 = .ok (.aload_n 0, 1) := by decide +kernel
theorem dX6_takeWord_69 : decode cX6_takeWord 69 = .ok (.getfield 36, 3) := by decide +kernel
theorem dX6_takeWord_72 : decode cX6_takeWord 72 = .ok (.aload_n 0, 1) := by decide +kernel
theorem dX6_takeWord_73 : decode cX6_takeWord 73 = .ok (.getfield 30, 3) := by decide +kernel
theorem dX6_takeWord_76 : decode cX6_takeWord 76 = .ok (.iconst 1, 1) := by decide +kernel
theorem dX6_takeWord_77 : decode cX6_takeWord 77 = .ok (.isub, 1) := by decide +kernel
theorem dX6_takeWord_78 : decode cX6_takeWord 78 = .ok (.aload_n 0, 1) := by decide +kernel
theorem dX6_takeWord_79 : decode cX6_takeWord 79 = .ok (.getfield 36, 3) := by decide +kernel
theorem dX6_takeWord_82 : decode cX6_takeWord 82 = .ok (.aload_n 0, 1) := by decide +kernel
theorem dX6_takeWord_83 : decode cX6_takeWord 83 = .ok (.getfield 30, 3) := by decide +kernel
theorem dX6_takeWord_86 : decode cX6_takeWord 86 = .ok (.iconst 1, 1) := by decide +kernel
theorem dX6_takeWord_87 : decode cX6_takeWord 87 = .ok (.isub, 1) := by decide +kernel
theorem dX6_takeWord_88 : decode cX6_takeWord 88 = .ok (.invokevirtual 81, 3) := by decide +kernel
theorem dX6_takeWord_91 : decode cX6_takeWord 91 = .ok (.iconst 1, 1) := by decide +kernel
theorem dX6_takeWord_92 : decode cX6_takeWord 92 = .ok (.iadd, 1) := by decide +kernel
theorem dX6_takeWord_93 : decode cX6_takeWord 93 = .ok (.invokevirtual 85, 3) := by decide +kernel
theorem dX6_takeWord_96 : decode cX6_takeWord 96 = .ok (.aload_n 0, 1) := by decide +kernel
theorem dX6_takeWord_97 : decode cX6_takeWord 97 = .ok (.dup, 1) := by decide +kernel
theorem dX6_takeWord_98 : decode cX6_takeWord 98 = .ok (.getfield 39, 3) := by decide +kernel
theorem dX6_takeWord_101 : decode cX6_takeWord 101 = .ok (.iconst 1, 1) := by decide +kernel
theorem dX6_takeWord_102 : decode cX6_takeWord 102 = .ok (.iadd, 1) := by decide +kernel
theorem dX6_takeWord_103 : decode cX6_takeWord 103 = .ok (.putfield 39, 3) := by decide +kernel
theorem dX6_takeWord_106 : decode cX6_takeWord 106 = .ok (.return_, 1) := by decide +kernel
theorem dX6_takePart_0 : decode cX6_takePart 0 = .ok (.aload_n 1, 1) := by decide +kernel
theorem dX6_takePart_1 : decode cX6_takePart 1 = .ok (.iload_n 2, 1) := by decide +kernel
theorem dX6_takePart_2 : decode cX6_takePart 2 = .ok (.invokevirtual 101, 3) := by decide +kernel
theorem dX6_takePart_5 : decode cX6_takePart 5 = .ok (.istore_n 3, 1) := by decide +kernel
theorem dX6_takePart_6 : decode cX6_takePart 6 = .ok (.iload_n 3, 1) := by decide +kernel
theorem dX6_takePart_7 : decode cX6_takePart 7 = .ok (.aload_n 1, 1) := by decide +kernel
theorem dX6_takePart_8 : decode cX6_takePart 8 = .ok (.getfield 36, 3) := by decide +kernel
theorem dX6_takePart_11 : decode cX6_takePart 11 = .ok (.iload_n 2, 1) := by decide +kernel
theorem dX6_takePart_12 : decode cX6_takePart 12 = .ok (.invokevirtual 81, 3) := by decide +kernel
theorem dX6_takePart_15 : decode cX6_takePart 15 = .ok (.iadd, 1) := by decide +kernel
theorem dX6_takePart_16 : decode cX6_takePart 16 = .ok (.istore 4, 2) := by decide +kernel
theorem dX6_takePart_18 : decode cX6_takePart 18 = .ok (.aload_n 0, 1) := by decide +kernel
theorem dX6_takePart_19 : decode cX6_takePart 19 = .ok (.aload_n 1, 1) := by decide +kernel
theorem dX6_takePart_20 : decode cX6_takePart 20 = .ok (.getfield 33, 3) := by decide +kernel
theorem dX6_takePart_23 : decode cX6_takePart 23 = .ok (.iload_n 2, 1) := by decide +kernel
theorem dX6_takePart_24 : decode cX6_takePart 24 = .ok (.invokevirtual 81, 3) := by decide +kernel
theorem dX6_takePart_27 : decode cX6_takePart 27 = .ok (.invokevirtual 104, 3) := by decide +kernel
theorem dX6_takePart_30 : decode cX6_takePart 30 = .ok (.iload_n 3, 1) := by decide +kernel
theorem dX6_takePart_31 : decode cX6_takePart 31 = .ok (.istore 5, 2) := by decide +kernel
theorem dX6_takePart_33 : decode cX6_takePart 33 = .ok (.iload 5, 2) := by decide +kernel
theorem dX6_takePart_35 : decode cX6_takePart 35 = .ok (.iload 4, 2) := by decide +kernel
theorem dX6_takePart_37 : decode cX6_takePart 37 = .ok (.if_icmp .ge 31, 3) := by decide +kernel
theorem dX6_takePart_40 : decode cX6_takePart 40 = .ok (.aload_n 0, 1) := by decide +kernel
theorem dX6_takePart_41 : decode cX6_takePart 41 = .ok (.aload_n 1, 1) := by decide +kernel
theorem dX6_takePart_42 : decode cX6_takePart 42 = .ok (.getfield 45, 3) := by decide +kernel
theorem dX6_takePart_45 : decode cX6_takePart 45 = .ok (.iload 5, 2) := by decide +kernel
theorem dX6_takePart_47 : decode cX6_takePart 47 = .ok (.bipush 12, 2) := by decide +kernel
theorem dX6_takePart_49 : decode cX6_takePart 49 = .ok (.imul, 1) := by decide +kernel
theorem dX6_takePart_50 : decode cX6_takePart 50 = .ok (.aload_n 1, 1) := by decide +kernel
theorem dX6_takePart_51 : decode cX6_takePart 51 = .ok (.getfield 42, 3) := by decide +kernel
theorem dX6_takePart_54 : decode cX6_takePart 54 = .ok (.iload 5, 2) := by decide +kernel
theorem dX6_takePart_56 : decode cX6_takePart 56 = .ok (.invokevirtual 81, 3) := by decide +kernel
theorem dX6_takePart_59 : decode cX6_takePart 59 = .ok (.invokevirtual 107, 3) := by decide +kernel
theorem dX6_takePart_62 : decode cX6_takePart 62 = .ok (.iinc 5 1, 3) := by decide +kernel
theorem dX6_takePart_65 : decode cX6_takePart 65 = .ok (.goto (-32), 3) := by decide +kernel
theorem dX6_takePart_68 : decode cX6_takePart 68 = .ok (.return_, 1) := by decide +kernel
theorem dX6_byteOf_0 : decode cX6_byteOf 0 = .ok (.aload_n 0, 1) := by decide +kernel
theorem dX6_byteOf_1 : decode cX6_byteOf 1 = .ok (.getfield 45, 3) := by decide +kernel
theorem dX6_byteOf_4 : decode cX6_byteOf 4 = .ok (.iload_n 1, 1) := by decide +kernel
theorem dX6_byteOf_5 : decode cX6_byteOf 5 = .ok (.bipush 12, 2) := by decide +kernel
theorem dX6_byteOf_7 : decode cX6_byteOf 7 = .ok (.imul, 1) := by decide +kernel
theorem dX6_byteOf_8 : decode cX6_byteOf 8 = .ok (.iload_n 2, 1) := by decide +kernel
theorem dX6_byteOf_9 : decode cX6_byteOf 9 = .ok (.iadd, 1) := by decide +kernel
theorem dX6_byteOf_10 : decode cX6_byteOf 10 = .ok (.invokevirtual 81, 3) := by decide +kernel
theorem dX6_byteOf_13 : decode cX6_byteOf 13 = .ok (.ireturn, 1) := by decide +kernel
theorem dX6_sameWord_0 : decode cX6_sameWord 0 = .ok (.aload_n 0, 1) := by decide +kernel
theorem dX6_sameWord_1 : decode cX6_sameWord 1 = .ok (.getfield 42, 3) := by decide +kernel
theorem dX6_sameWord_4 : decode cX6_sameWord 4 = .ok (.iload_n 2, 1) := by decide +kernel
theorem dX6_sameWord_5 : decode cX6_sameWord 5 = .ok (.invokevirtual 81, 3) := by decide +kernel
theorem dX6_sameWord_8 : decode cX6_sameWord 8 = .ok (.aload_n 1, 1) := by decide +kernel
theorem dX6_sameWord_9 : decode cX6_sameWord 9 = .ok (.getfield 42, 3) := by decide +kernel
theorem dX6_sameWord_12 : decode cX6_sameWord 12 = .ok (.iload_n 2, 1) := by decide +kernel
theorem dX6_sameWord_13 : decode cX6_sameWord 13 = .ok (.invokevirtual 81, 3) := by decide +kernel
theorem dX6_sameWord_16 : decode cX6_sameWord 16 = .ok (.if_icmp .eq 5, 3) := by decide +kernel
theorem dX6_sameWord_19 : decode cX6_sameWord 19 = .ok (.iconst 0, 1) := by decide +kernel
theorem dX6_sameWord_20 : decode cX6_sameWord 20 = .ok (.ireturn, 1) := by decide +kernel
theorem dX6_sameWord_21 : decode cX6_sameWord 21 = .ok (.iconst 0, 1) := by decide +kernel
theorem dX6_sameWord_22 : decode cX6_sameWord 22 = .ok (.istore_n 3, 1) := by decide +kernel
theorem dX6_sameWord_23 : decode cX6_sameWord 23 = .ok (.iload_n 3, 1) := by decide +kernel
theorem dX6_sameWord_24 : decode cX6_sameWord 24 = .ok (.aload_n 0, 1) := by decide +kernel
theorem dX6_sameWord_25 : decode cX6_sameWord 25 = .ok (.getfield 42, 3) := by decide +kernel
theorem dX6_sameWord_28 : decode cX6_sameWord 28 = .ok (.iload_n 2, 1) := by decide +kernel
theorem dX6_sameWord_29 : decode cX6_sameWord 29 = .ok (.invokevirtual 81, 3) := by decide +kernel
theorem dX6_sameWord_32 : decode cX6_sameWord 32 = .ok (.if_icmp .ge 26, 3) := by decide +kernel
theorem dX6_sameWord_35 : decode cX6_sameWord 35 = .ok (.aload_n 0, 1) := by decide +kernel
theorem dX6_sameWord_36 : decode cX6_sameWord 36 = .ok (.iload_n 2, 1) := by decide +kernel
theorem dX6_sameWord_37 : decode cX6_sameWord 37 = .ok (.iload_n 3, 1) := by decide +kernel
theorem dX6_sameWord_38 : decode cX6_sameWord 38 = .ok (.invokevirtual 111, 3) := by decide +kernel
theorem dX6_sameWord_41 : decode cX6_sameWord 41 = .ok (.aload_n 1, 1) := by decide +kernel
theorem dX6_sameWord_42 : decode cX6_sameWord 42 = .ok (.iload_n 2, 1) := by decide +kernel
theorem dX6_sameWord_43 : decode cX6_sameWord 43 = .ok (.iload_n 3, 1) := by decide +kernel
theorem dX6_sameWord_44 : decode cX6_sameWord 44 = .ok (.invokevirtual 111, 3) := by decide +kernel
theorem dX6_sameWord_47 : decode cX6_sameWord 47 = .ok (.if_icmp .eq 5, 3) := by decide +kernel
theorem dX6_sameWord_50 : decode cX6_sameWord 50 = .ok (.iconst 0, 1) := by decide +kernel
theorem dX6_sameWord_51 : decode cX6_sameWord 51 = .ok (.ireturn, 1) := by decide +kernel
theorem dX6_sameWord_52 : decode cX6_sameWord 52 = .ok (.iinc 3 1, 3) := by decide +kernel
theorem dX6_sameWord_55 : decode cX6_sameWord 55 = .ok (.goto (-32), 3) := by decide +kernel
theorem dX6_sameWord_58 : decode cX6_sameWord 58 = .ok (.iconst 1, 1) := by decide +kernel
theorem dX6_sameWord_59 : decode cX6_sameWord 59 = .ok (.ireturn, 1) := by decide +kernel
theorem dX6_firstOf_0 : decode cX6_firstOf 0 = .ok (.iconst 0, 1) := by decide +kernel
theorem dX6_firstOf_1 : decode cX6_firstOf 1 = .ok (.istore_n 2, 1) := by decide +kernel
theorem dX6_firstOf_2 : decode cX6_firstOf 2 = .ok (.iconst 0, 1) := by decide +kernel
theorem dX6_firstOf_3 : decode cX6_firstOf 3 = .ok (.istore_n 3, 1) := by decide +kernel
theorem dX6_firstOf_4 : decode cX6_firstOf 4 = .ok (.iload_n 3, 1) := by decide +kernel
theorem dX6_firstOf_5 : decode cX6_firstOf 5 = .ok (.iload_n 1, 1) := by decide +kernel
theorem dX6_firstOf_6 : decode cX6_firstOf 6 = .ok (.if_icmp .ge 20, 3) := by decide +kernel
theorem dX6_firstOf_9 : decode cX6_firstOf 9 = .ok (.iload_n 2, 1) := by decide +kernel
theorem dX6_firstOf_10 : decode cX6_firstOf 10 = .ok (.aload_n 0, 1) := by decide +kernel
theorem dX6_firstOf_11 : decode cX6_firstOf 11 = .ok (.getfield 36, 3) := by decide +kernel
theorem dX6_firstOf_14 : decode cX6_firstOf 14 = .ok (.iload_n 3, 1) := by decide +kernel
theorem dX6_firstOf_15 : decode cX6_firstOf 15 = .ok (.invokevirtual 81, 3) := by decide +kernel
theorem dX6_firstOf_18 : decode cX6_firstOf 18 = .ok (.iadd, 1) := by decide +kernel
theorem dX6_firstOf_19 : decode cX6_firstOf 19 = .ok (.istore_n 2, 1) := by decide +kernel
theorem dX6_firstOf_20 : decode cX6_firstOf 20 = .ok (.iinc 3 1, 3) := by decide +kernel
theorem dX6_firstOf_23 : decode cX6_firstOf 23 = .ok (.goto (-19), 3) := by decide +kernel
theorem dX6_firstOf_26 : decode cX6_firstOf 26 = .ok (.iload_n 2, 1) := by decide +kernel
theorem dX6_firstOf_27 : decode cX6_firstOf 27 = .ok (.ireturn, 1) := by decide +kernel
theorem dX6_partOf_0 : decode cX6_partOf 0 = .ok (.iconst 0, 1) := by decide +kernel
theorem dX6_partOf_1 : decode cX6_partOf 1 = .ok (.istore_n 2, 1) := by decide +kernel
theorem dX6_partOf_2 : decode cX6_partOf 2 = .ok (.aload_n 0, 1) := by decide +kernel
theorem dX6_partOf_3 : decode cX6_partOf 3 = .ok (.getfield 36, 3) := by decide +kernel
theorem dX6_partOf_6 : decode cX6_partOf 6 = .ok (.iconst 0, 1) := by decide +kernel
theorem dX6_partOf_7 : decode cX6_partOf 7 = .ok (.invokevirtual 81, 3) := by decide +kernel
theorem dX6_partOf_10 : decode cX6_partOf 10 = .ok (.istore_n 3, 1) := by decide +kernel
theorem dX6_partOf_11 : decode cX6_partOf 11 = .ok (.iload_n 2, 1) := by decide +kernel
theorem dX6_partOf_12 : decode cX6_partOf 12 = .ok (.aload_n 0, 1) := by decide +kernel
theorem dX6_partOf_13 : decode cX6_partOf 13 = .ok (.getfield 30, 3) := by decide +kernel
theorem dX6_partOf_16 : decode cX6_partOf 16 = .ok (.iconst 1, 1) := by decide +kernel
theorem dX6_partOf_17 : decode cX6_partOf 17 = .ok (.isub, 1) := by decide +kernel
theorem dX6_partOf_18 : decode cX6_partOf 18 = .ok (.if_icmp .ge 25, 3) := by decide +kernel
theorem dX6_partOf_21 : decode cX6_partOf 21 = .ok (.iload_n 3, 1) := by decide +kernel
theorem dX6_partOf_22 : decode cX6_partOf 22 = .ok (.iload_n 1, 1) := by decide +kernel
theorem dX6_partOf_23 : decode cX6_partOf 23 = .ok (.if_icmp .gt 20, 3) := by decide +kernel
theorem dX6_partOf_26 : decode cX6_partOf 26 = .ok (.iinc 2 1, 3) := by decide +kernel
theorem dX6_partOf_29 : decode cX6_partOf 29 = .ok (.iload_n 3, 1) := by decide +kernel
theorem dX6_partOf_30 : decode cX6_partOf 30 = .ok (.aload_n 0, 1) := by decide +kernel
theorem dX6_partOf_31 : decode cX6_partOf 31 = .ok (.getfield 36, 3) := by decide +kernel
theorem dX6_partOf_34 : decode cX6_partOf 34 = .ok (.iload_n 2, 1) := by decide +kernel
theorem dX6_partOf_35 : decode cX6_partOf 35 = .ok (.invokevirtual 81, 3) := by decide +kernel
theorem dX6_partOf_38 : decode cX6_partOf 38 = .ok (.iadd, 1) := by decide +kernel
theorem dX6_partOf_39 : decode cX6_partOf 39 = .ok (.istore_n 3, 1) := by decide +kernel
theorem dX6_partOf_40 : decode cX6_partOf 40 = .ok (.goto (-29), 3) := by decide +kernel
theorem dX6_partOf_43 : decode cX6_partOf 43 = .ok (.iload_n 2, 1) := by decide +kernel
theorem dX6_partOf_44 : decode cX6_partOf 44 = .ok (.ireturn, 1) := by decide +kernel
theorem dX6_lettersAhead_0 : decode cX6_lettersAhead 0 = .ok (.iconst 0, 1) := by decide +kernel
theorem dX6_lettersAhead_1 : decode cX6_lettersAhead 1 = .ok (.istore_n 2, 1) := by decide +kernel
theorem dX6_lettersAhead_2 : decode cX6_lettersAhead 2 = .ok (.iconst 0, 1) := by decide +kernel
theorem dX6_lettersAhead_3 : decode cX6_lettersAhead 3 = .ok (.istore_n 3, 1) := by decide +kernel
theorem dX6_lettersAhead_4 : decode cX6_lettersAhead 4 = .ok (.iload_n 3, 1) := by decide +kernel
theorem dX6_lettersAhead_5 : decode cX6_lettersAhead 5 = .ok (.iload_n 1, 1) := by decide +kernel
theorem dX6_lettersAhead_6 : decode cX6_lettersAhead 6 = .ok (.if_icmp .ge 20, 3) := by decide +kernel
theorem dX6_lettersAhead_9 : decode cX6_lettersAhead 9 = .ok (.iload_n 2, 1) := by decide +kernel
theorem dX6_lettersAhead_10 : decode cX6_lettersAhead 10 = .ok (.aload_n 0, 1) := by decide +kernel
theorem dX6_lettersAhead_11 : decode cX6_lettersAhead 11 = .ok (.getfield 42, 3) := by decide +kernel
theorem dX6_lettersAhead_14 : decode cX6_lettersAhead 14 = .ok (.iload_n 3, 1) := by decide +kernel
theorem dX6_lettersAhead_15 : decode cX6_lettersAhead 15 = .ok (.invokevirtual 81, 3) := by decide +kernel
theorem dX6_lettersAhead_18 : decode cX6_lettersAhead 18 = .ok (.iadd, 1) := by decide +kernel
theorem dX6_lettersAhead_19 : decode cX6_lettersAhead 19 = .ok (.istore_n 2, 1) := by decide +kernel
theorem dX6_lettersAhead_20 : decode cX6_lettersAhead 20 = .ok (.iinc 3 1, 3) := by decide +kernel
theorem dX6_lettersAhead_23 : decode cX6_lettersAhead 23 = .ok (.goto (-19), 3) := by decide +kernel
theorem dX6_lettersAhead_26 : decode cX6_lettersAhead 26 = .ok (.iload_n 2, 1) := by decide +kernel
theorem dX6_lettersAhead_27 : decode cX6_lettersAhead 27 = .ok (.ireturn, 1) := by decide +kernel
theorem dX6_strokesOn_0 : decode cX6_strokesOn 0 = .ok (.iload_n 1, 1) := by decide +kernel
theorem dX6_strokesOn_1 : decode cX6_strokesOn 1 = .ok (.bipush 48, 2) := by decide +kernel
theorem dX6_strokesOn_3 : decode cX6_strokesOn 3 = .ok (.if_icmp .lt 13, 3) := by decide +kernel
theorem dX6_strokesOn_6 : decode cX6_strokesOn 6 = .ok (.iload_n 1, 1) := by decide +kernel
theorem dX6_strokesOn_7 : decode cX6_strokesOn 7 = .ok (.bipush 57, 2) := by decide +kernel
theorem dX6_strokesOn_9 : decode cX6_strokesOn 9 = .ok (.if_icmp .gt 7, 3) := by decide +kernel
theorem dX6_strokesOn_12 : decode cX6_strokesOn 12 = .ok (.iconst 1, 1) := by decide +kernel
theorem dX6_strokesOn_13 : decode cX6_strokesOn 13 = .ok (.goto 4, 3) := by decide +kernel
theorem dX6_strokesOn_16 : decode cX6_strokesOn 16 = .ok (.iconst 0, 1) := by decide +kernel
theorem dX6_strokesOn_17 : decode cX6_strokesOn 17 = .ok (.istore 4, 2) := by decide +kernel
theorem dX6_strokesOn_19 : decode cX6_strokesOn 19 = .ok (.iload 4, 2) := by decide +kernel
theorem dX6_strokesOn_21 : decode cX6_strokesOn 21 = .ok (.ifCond .eq 14, 3) := by decide +kernel
theorem dX6_strokesOn_24 : decode cX6_strokesOn 24 = .ok (.iconst 2, 1) := by decide +kernel
theorem dX6_strokesOn_25 : decode cX6_strokesOn 25 = .ok (.iload_n 1, 1) := by decide +kernel
theorem dX6_strokesOn_26 : decode cX6_strokesOn 26 = .ok (.bipush 48, 2) := by decide +kernel
theorem dX6_strokesOn_28 : decode cX6_strokesOn 28 = .ok (.isub, 1) := by decide +kernel
theorem dX6_strokesOn_29 : decode cX6_strokesOn 29 = .ok (.iconst 3, 1) := by decide +kernel
theorem dX6_strokesOn_30 : decode cX6_strokesOn 30 = .ok (.irem, 1) := by decide +kernel
theorem dX6_strokesOn_31 : decode cX6_strokesOn 31 = .ok (.iadd, 1) := by decide +kernel
theorem dX6_strokesOn_32 : decode cX6_strokesOn 32 = .ok (.goto 14, 3) := by decide +kernel
theorem dX6_strokesOn_35 : decode cX6_strokesOn 35 = .ok (.iconst 1, 1) := by decide +kernel
theorem dX6_strokesOn_36 : decode cX6_strokesOn 36 = .ok (.bipush 7, 2) := by decide +kernel
theorem dX6_strokesOn_38 : decode cX6_strokesOn 38 = .ok (.iload_n 1, 1) := by decide +kernel
theorem dX6_strokesOn_39 : decode cX6_strokesOn 39 = .ok (.bipush 97, 2) := by decide +kernel
theorem dX6_strokesOn_41 : decode cX6_strokesOn 41 = .ok (.isub, 1) := by decide +kernel
theorem dX6_strokesOn_42 : decode cX6_strokesOn 42 = .ok (.imul, 1) := by decide +kernel
theorem dX6_strokesOn_43 : decode cX6_strokesOn 43 = .ok (.iconst 5, 1) := by decide +kernel
theorem dX6_strokesOn_44 : decode cX6_strokesOn 44 = .ok (.irem, 1) := by decide +kernel
theorem dX6_strokesOn_45 : decode cX6_strokesOn 45 = .ok (.iadd, 1) := by decide +kernel
theorem dX6_strokesOn_46 : decode cX6_strokesOn 46 = .ok (.istore 5, 2) := by decide +kernel
theorem dX6_strokesOn_48 : decode cX6_strokesOn 48 = .ok (.aload_n 0, 1) := by decide +kernel
theorem dX6_strokesOn_49 : decode cX6_strokesOn 49 = .ok (.iload_n 2, 1) := by decide +kernel
theorem dX6_strokesOn_50 : decode cX6_strokesOn 50 = .ok (.iload_n 3, 1) := by decide +kernel
theorem dX6_strokesOn_51 : decode cX6_strokesOn 51 = .ok (.invokevirtual 115, 3) := by decide +kernel
theorem dX6_strokesOn_54 : decode cX6_strokesOn 54 = .ok (.ifCond .eq 10, 3) := by decide +kernel
theorem dX6_strokesOn_57 : decode cX6_strokesOn 57 = .ok (.iconst 2, 1) := by decide +kernel
theorem dX6_strokesOn_58 : decode cX6_strokesOn 58 = .ok (.iload 5, 2) := by decide +kernel
theorem dX6_strokesOn_60 : decode cX6_strokesOn 60 = .ok (.imul, 1) := by decide +kernel
theorem dX6_strokesOn_61 : decode cX6_strokesOn 61 = .ok (.goto 5, 3) := by decide +kernel
theorem dX6_strokesOn_64 : decode cX6_strokesOn 64 = .ok (.iload 5, 2) := by decide +kernel
theorem dX6_strokesOn_66 : decode cX6_strokesOn 66 = .ok (.ireturn, 1) := by decide +kernel
theorem dX7_init_0 : decode cX7_init 0 = .ok (.aload_n 0, 1) := by decide +kernel
theorem dX7_init_1 : decode cX7_init 1 = .ok (.invokespecial 3, 3) := by decide +kernel
theorem dX7_init_4 : decode cX7_init 4 = .ok (.aload_n 0, 1) := by decide +kernel
theorem dX7_init_5 : decode cX7_init 5 = .ok (.iconst 0, 1) := by decide +kernel
theorem dX7_init_6 : decode cX7_init 6 = .ok (.putfield 11, 3) := by decide +kernel
theorem dX7_init_9 : decode cX7_init 9 = .ok (.aload_n 0, 1) := by decide +kernel
theorem dX7_init_10 : decode cX7_init 10 = .ok (.iconst 0, 1) := by decide +kernel
theorem dX7_init_11 : decode cX7_init 11 = .ok (.putfield 15, 3) := by decide +kernel
theorem dX7_init_14 : decode cX7_init 14 = .ok (.aload_n 0, 1) := by decide +kernel
theorem dX7_init_15 : decode cX7_init 15 = .ok (.iconst 0, 1) := by decide +kernel
theorem dX7_init_16 : decode cX7_init 16 = .ok (.putfield 18, 3) := by decide +kernel
theorem dX7_init_19 : decode cX7_init 19 = .ok (.aload_n 0, 1) := by decide +kernel
theorem dX7_init_20 : decode cX7_init 20 = .ok (.aload_n 1, 1) := by decide +kernel
theorem dX7_init_21 : decode cX7_init 21 = .ok (.putfield 21, 3) := by decide +kernel
theorem dX7_init_24 : decode cX7_init 24 = .ok (.return_, 1) := by decide +kernel
theorem dX7_restart_0 : decode cX7_restart 0 = .ok (.aload_n 0, 1) := by decide +kernel
theorem dX7_restart_1 : decode cX7_restart 1 = .ok (.iconst 0, 1) := by decide +kernel
theorem dX7_restart_2 : decode cX7_restart 2 = .ok (.putfield 15, 3) := by decide +kernel
theorem dX7_restart_5 : decode cX7_restart 5 = .ok (.aload_n 0, 1) := by decide +kernel
theorem dX7_restart_6 : decode cX7_restart 6 = .ok (.iconst 0, 1) := by decide +kernel
theorem dX7_restart_7 : decode cX7_restart 7 = .ok (.putfield 18, 3) := by decide +kernel
theorem dX7_restart_10 : decode cX7_restart 10 = .ok (.aload_n 0, 1) := by decide +kernel
theorem dX7_restart_11 : decode cX7_restart 11 = .ok (.invokevirtual 25, 3) := by decide +kernel
theorem dX7_restart_14 : decode cX7_restart 14 = .ok (.return_, 1) := by decide +kernel
theorem dX7_step_0 : decode cX7_step 0 = .ok (.aload_n 0, 1) := by decide +kernel
theorem dX7_step_1 : decode cX7_step 1 = .ok (.getfield 15, 3) := by decide +kernel
theorem dX7_step_4 : decode cX7_step 4 = .ok (.aload_n 0, 1) := by decide +kernel
theorem dX7_step_5 : decode cX7_step 5 = .ok (.getfield 18, 3) := by decide +kernel
theorem dX7_step_8 : decode cX7_step 8 = .ok (.iadd, 1) := by decide +kernel
theorem dX7_step_9 : decode cX7_step 9 = .ok (.istore_n 1, 1) := by decide +kernel
theorem dX7_step_10 : decode cX7_step 10 = .ok (.iload_n 1, 1) := by decide +kernel
theorem dX7_step_11 : decode cX7_step 11 = .ok (.aload_n 0, 1) := by decide +kernel
theorem dX7_step_12 : decode cX7_step 12 = .ok (.getfield 21, 3) := by decide +kernel
theorem dX7_step_15 : decode cX7_step 15 = .ok (.getfield 28, 3) := by decide +kernel
theorem dX7_step_18 : decode cX7_step 18 = .ok (.if_icmp .ge 41, 3) := by decide +kernel
theorem dX7_step_21 : decode cX7_step 21 = .ok (.aload_n 0, 1) := by decide +kernel
theorem dX7_step_22 : decode cX7_step 22 = .ok (.getfield 21, 3) := by decide +kernel
theorem dX7_step_25 : decode cX7_step 25 = .ok (.getfield 31, 3) := by decide +kernel
theorem dX7_step_28 : decode cX7_step 28 = .ok (.iload_n 1, 1) := by decide +kernel
theorem dX7_step_29 : decode cX7_step 29 = .ok (.invokevirtual 35, 3) := by decide +kernel
theorem dX7_step_32 : decode cX7_step 32 = .ok (.bipush 32, 2) := by decide +kernel
theorem dX7_step_34 : decode cX7_step 34 = .ok (.if_icmp .eq 19, 3) := by decide +kernel
theorem dX7_step_37 : decode cX7_step 37 = .ok (.aload_n 0, 1) := by decide +kernel
theorem dX7_step_38 : decode cX7_step 38 = .ok (.getfield 21, 3) := by decide +kernel
theorem dX7_step_41 : decode cX7_step 41 = .ok (.getfield 31, 3) := by decide +kernel
theorem dX7_step_44 : decode cX7_step 44 = .ok (.iload_n 1, 1) := by decide +kernel
theorem dX7_step_45 : decode cX7_step 45 = .ok (.invokevirtual 35, 3) := by decide +kernel
theorem dX7_step_48 : decode cX7_step 48 = .ok (.bipush 10, 2) := by decide +kernel
theorem dX7_step_50 : decode cX7_step 50 = .ok (.if_icmp .ne 9, 3) := by decide +kernel
theorem dX7_step_53 : decode cX7_step 53 = .ok (.iinc 1 1, 3) := by decide +kernel
theorem dX7_step_56 : decode cX7_step 56 = .ok (.goto (-46), 3) := by decide +kernel
theorem dX7_step_59 : decode cX7_step 59 = .ok (.aload_n 0, 1) := by decide +kernel
theorem dX7_step_60 : decode cX7_step 60 = .ok (.iload_n 1, 1) := by decide +kernel
theorem dX7_step_61 : decode cX7_step 61 = .ok (.putfield 15, 3) := by decide +kernel
theorem dX7_step_64 : decode cX7_step 64 = .ok (.iload_n 1, 1) := by decide +kernel
theorem dX7_step_65 : decode cX7_step 65 = .ok (.aload_n 0, 1) := by decide +kernel
theorem dX7_step_66 : decode cX7_step 66 = .ok (.getfield 21, 3) := by decide +kernel
theorem dX7_step_69 : decode cX7_step 69 = .ok (.getfield 28, 3) := by decide +kernel
theorem dX7_step_72 : decode cX7_step 72 = .ok (.if_icmp .lt 14, 3) := by decide +kernel
theorem dX7_step_75 : decode cX7_step 75 = .ok (.aload_n 0, 1) := by decide +kernel
theorem dX7_step_76 : decode cX7_step 76 = .ok (.iconst 0, 1) := by decide +kernel
theorem dX7_step_77 : decode cX7_step 77 = .ok (.putfield 11, 3) := by decide +kernel
theorem dX7_step_80 : decode cX7_step 80 = .ok (.aload_n 0, 1) := by decide +kernel
theorem dX7_step_81 : decode cX7_step 81 = .ok (.iconst 0, 1) := by decide +kernel
theorem dX7_step_82 : decode cX7_step 82 = .ok (.putfield 18, 3) := by decide +kernel
theorem dX7_step_85 : decode cX7_step 85 = .ok (.return_, 1) := by decide +kernel
theorem dX7_step_86 : decode cX7_step 86 = .ok (.aload_n 0, 1) := by decide +kernel
theorem dX7_step_87 : decode cX7_step 87 = .ok (.aload_n 0, 1) := by decide +kernel
theorem dX7_step_88 : decode cX7_step 88 = .ok (.getfield 21, 3) := by decide +kernel
theorem dX7_step_91 : decode cX7_step 91 = .ok (.getfield 31, 3) := by decide +kernel
theorem dX7_step_94 : decode cX7_step 94 = .ok (.iload_n 1, 1) := by decide +kernel
theorem dX7_step_95 : decode cX7_step 95 = .ok (.invokevirtual 35, 3) := by decide +kernel
theorem dX7_step_98 : decode cX7_step 98 = .ok (.invokestatic 41, 3) := by decide +kernel
theorem dX7_step_101 : decode cX7_step 101 = .ok (.putfield 11, 3) := by decide +kernel
theorem dX7_step_104 : decode cX7_step 104 = .ok (.iinc 1 1, 3) := by decide +kernel
theorem dX7_step_107 : decode cX7_step 107 = .ok (.iload_n 1, 1) := by decide +kernel
theorem dX7_step_108 : decode cX7_step 108 = .ok (.aload_n 0, 1) := by decide +kernel
theorem dX7_step_109 : decode cX7_step 109 = .ok (.getfield 21, 3) := by decide +kernel
theorem dX7_step_112 : decode cX7_step 112 = .ok (.getfield 28, 3) := by decide +kernel
theorem dX7_step_115 : decode cX7_step 115 = .ok (.if_icmp .ge 38, 3) := by decide +kernel
theorem dX7_step_118 : decode cX7_step 118 = .ok (.aload_n 0, 1) := by decide +kernel
theorem dX7_step_119 : decode cX7_step 119 = .ok (.getfield 11, 3) := by decide +kernel
theorem dX7_step_122 : decode cX7_step 122 = .ok (.iconst 3, 1) := by decide +kernel
theorem dX7_step_123 : decode cX7_step 123 = .ok (.if_icmp .eq 30, 3) := by decide +kernel
theorem dX7_step_126 : decode cX7_step 126 = .ok (.aload_n 0, 1) := by decide +kernel
theorem dX7_step_127 : decode cX7_step 127 = .ok (.getfield 21, 3) := by decide +kernel
theorem dX7_step_130 : decode cX7_step 130 = .ok (.getfield 31, 3) := by decide +kernel
theorem dX7_step_133 : decode cX7_step 133 = .ok (.iload_n 1, 1) := by decide +kernel
theorem dX7_step_134 : decode cX7_step 134 = .ok (.invokevirtual 35, 3) := by decide +kernel
theorem dX7_step_137 : decode cX7_step 137 = .ok (.invokestatic 41, 3) := by decide +kernel
theorem dX7_step_140 : decode cX7_step 140 = .ok (.aload_n 0, 1) := by decide +kernel
theorem dX7_step_141 : decode cX7_step 141 = .ok (.getfield 11, 3) := by decide +kernel
theorem dX7_step_144 : decode cX7_step 144 = .ok (.if_icmp .ne 9, 3) := by decide +kernel
theorem dX7_step_147 : decode cX7_step 147 = .ok (.iinc 1 1, 3) := by decide +kernel
theorem dX7_step_150 : decode cX7_step 150 = .ok (.goto (-43), 3) := by decide +kernel
theorem dX7_step_153 : decode cX7_step 153 = .ok (.aload_n 0, 1) := by decide +kernel
theorem dX7_step_154 : decode cX7_step 154 = .ok (.iload_n 1, 1) := by decide +kernel
theorem dX7_step_155 : decode cX7_step 155 = .ok (.aload_n 0, 1) := by decide +kernel
theorem dX7_step_156 : decode cX7_step 156 = .ok (.getfield 15, 3) := by decide +kernel
theorem dX7_step_159 : decode cX7_step 159 = .ok (.isub, 1) := by decide +kernel
theorem dX7_step_160 : decode cX7_step 160 = .ok (.putfield 18, 3) := by decide +kernel
theorem dX7_step_163 : decode cX7_step 163 = .ok (.return_, 1) := by decide +kernel
theorem dX7_kindOf_0 : decode cX7_kindOf 0 = .ok (.iload_n 0, 1) := by decide +kernel
theorem dX7_kindOf_1 : decode cX7_kindOf 1 = .ok (.bipush 97, 2) := by decide +kernel
theorem dX7_kindOf_3 : decode cX7_kindOf 3 = .ok (.if_icmp .lt 11, 3) := by decide +kernel
theorem dX7_kindOf_6 : decode cX7_kindOf 6 = .ok (.iload_n 0, 1) := by decide +kernel
theorem dX7_kindOf_7 : decode cX7_kindOf 7 = .ok (.bipush 122, 2) := by decide +kernel
theorem dX7_kindOf_9 : decode cX7_kindOf 9 = .ok (.if_icmp .gt 5, 3) := by decide +kernel
theorem dX7_kindOf_12 : decode cX7_kindOf 12 = .ok (.iconst 1, 1) := by decide +kernel
theorem dX7_kindOf_13 : decode cX7_kindOf 13 = .ok (.ireturn, 1) := by decide +kernel
theorem dX7_kindOf_14 : decode cX7_kindOf 14 = .ok (.iload_n 0, 1) := by decide +kernel
theorem dX7_kindOf_15 : decode cX7_kindOf 15 = .ok (.bipush 48, 2) := by decide +kernel
theorem dX7_kindOf_17 : decode cX7_kindOf 17 = .ok (.if_icmp .lt 13, 3) := by decide +kernel
theorem dX7_kindOf_20 : decode cX7_kindOf 20 = .ok (.iload_n 0, 1) := by decide +kernel
theorem dX7_kindOf_21 : decode cX7_kindOf 21 = .ok (.bipush 57, 2) := by decide +kernel
theorem dX7_kindOf_23 : decode cX7_kindOf 23 = .ok (.if_icmp .gt 7, 3) := by decide +kernel
theorem dX7_kindOf_26 : decode cX7_kindOf 26 = .ok (.iconst 2, 1) := by decide +kernel
theorem dX7_kindOf_27 : decode cX7_kindOf 27 = .ok (.goto 4, 3) := by decide +kernel
theorem dX7_kindOf_30 : decode cX7_kindOf 30 = .ok (.iconst 3, 1) := by decide +kernel
theorem dX7_kindOf_31 : decode cX7_kindOf 31 = .ok (.ireturn, 1) := by decide +kernel
theorem dX7_says_0 : decode cX7_says 0 = .ok (.aload_n 0, 1) := by decide +kernel
theorem dX7_says_1 : decode cX7_says 1 = .ok (.getfield 18, 3) := by decide +kernel
theorem dX7_says_4 : decode cX7_says 4 = .ok (.aload_n 1, 1) := by decide +kernel
theorem dX7_says_5 : decode cX7_says 5 = .ok (.invokevirtual 44, 3) := by decide +kernel
theorem dX7_says_8 : decode cX7_says 8 = .ok (.if_icmp .eq 5, 3) := by decide +kernel
theorem dX7_says_11 : decode cX7_says 11 = .ok (.iconst 0, 1) := by decide +kernel
theorem dX7_says_12 : decode cX7_says 12 = .ok (.ireturn, 1) := by decide +kernel
theorem dX7_says_13 : decode cX7_says 13 = .ok (.iconst 0, 1) := by decide +kernel
theorem dX7_says_14 : decode cX7_says 14 = .ok (.istore_n 2, 1) := by decide +kernel
theorem dX7_says_15 : decode cX7_says 15 = .ok (.iload_n 2, 1) := by decide +kernel
theorem dX7_says_16 : decode cX7_says 16 = .ok (.aload_n 1, 1) := by decide +kernel
theorem dX7_says_17 : decode cX7_says 17 = .ok (.invokevirtual 44, 3) := by decide +kernel
theorem dX7_says_20 : decode cX7_says 20 = .ok (.if_icmp .ge 35, 3) := by decide +kernel
theorem dX7_says_23 : decode cX7_says 23 = .ok (.aload_n 0, 1) := by decide +kernel
theorem dX7_says_24 : decode cX7_says 24 = .ok (.getfield 21, 3) := by decide +kernel
theorem dX7_says_27 : decode cX7_says 27 = .ok (.getfield 31, 3) := by decide +kernel
theorem dX7_says_30 : decode cX7_says 30 = .ok (.aload_n 0, 1) := by decide +kernel
theorem dX7_says_31 : decode cX7_says 31 = .ok (.getfield 15, 3) := by decide +kernel
theorem dX7_says_34 : decode cX7_says 34 = .ok (.iload_n 2, 1) := by decide +kernel
theorem dX7_says_35 : decode cX7_says 35 = .ok (.iadd, 1) := by decide +kernel
theorem dX7_says_36 : decode cX7_says 36 = .ok (.invokevirtual 35, 3) := by decide +kernel
theorem dX7_says_39 : decode cX7_says 39 = .ok (.aload_n 1, 1) := by decide +kernel
theorem dX7_says_40 : decode cX7_says 40 = .ok (.iload_n 2, 1) := by decide +kernel
theorem dX7_says_41 : decode cX7_says 41 = .ok (.invokevirtual 49, 3) := by decide +kernel
theorem dX7_says_44 : decode cX7_says 44 = .ok (.if_icmp .eq 5, 3) := by decide +kernel
theorem dX7_says_47 : decode cX7_says 47 = .ok (.iconst 0, 1) := by decide +kernel
theorem dX7_says_48 : decode cX7_says 48 = .ok (.ireturn, 1) := by decide +kernel
theorem dX7_says_49 : decode cX7_says 49 = .ok (.iinc 2 1, 3) := by decide +kernel
theorem dX7_says_52 : decode cX7_says 52 = .ok (.goto (-37), 3) := by decide +kernel
theorem dX7_says_55 : decode cX7_says 55 = .ok (.iconst 1, 1) := by decide +kernel
theorem dX7_says_56 : decode cX7_says 56 = .ok (.ireturn, 1) := by decide +kernel
theorem dX7_isPlainWord_0 : decode cX7_isPlainWord 0 = .ok (.aload_n 0, 1) := by decide +kernel
theorem dX7_isPlainWord_1 : decode cX7_isPlainWord 1 = .ok (.getfield 11, 3) := by decide +kernel
theorem dX7_isPlainWord_4 : decode cX7_isPlainWord 4 = .ok (.iconst 1, 1) := by decide +kernel
theorem dX7_isPlainWord_5 : decode cX7_isPlainWord 5 = .ok (.if_icmp .eq 11, 3) := by decide +kernel
theorem dX7_isPlainWord_8 : decode cX7_isPlainWord 8 = .ok (.aload_n 0, 1) := by decide +kernel
theorem dX7_isPlainWord_9 : decode cX7_isPlainWord 9 = .ok (.getfield 11, 3) := by decide +kernel
theorem dX7_isPlainWord_12 : decode cX7_isPlainWord 12 = .ok (.iconst 2, 1) := by decide +kernel
theorem dX7_isPlainWord_13 : decode cX7_isPlainWord 13 = .ok (.if_icmp .ne 16, 3) := by decide +kernel
theorem dX7_isPlainWord_16 : decode cX7_isPlainWord 16 = .ok (.aload_n 0, 1) := by decide +kernel
theorem dX7_isPlainWord_17 : decode cX7_isPlainWord 17 = .ok (.getfield 18, 3) := by decide +kernel
theorem dX7_isPlainWord_20 : decode cX7_isPlainWord 20 = .ok (.bipush 12, 2) := by decide +kernel
theorem dX7_isPlainWord_22 : decode cX7_isPlainWord 22 = .ok (.if_icmp .gt 7, 3) := by decide +kernel
theorem dX7_isPlainWord_25 : decode cX7_isPlainWord 25 = .ok (.iconst 1, 1) := by decide +kernel
theorem dX7_isPlainWord_26 : decode cX7_isPlainWord 26 = .ok (.goto 4, 3) := by decide +kernel
theorem dX7_isPlainWord_29 : decode cX7_isPlainWord 29 = .ok (.iconst 0, 1) := by decide +kernel
theorem dX7_isPlainWord_30 : decode cX7_isPlainWord 30 = .ok (.ireturn, 1) := by decide +kernel
theorem dX7_value_0 : decode cX7_value 0 = .ok (.iconst 0, 1) := by decide +kernel
theorem dX7_value_1 : decode cX7_value 1 = .ok (.istore_n 1, 1) := by decide +kernel
theorem dX7_value_2 : decode cX7_value 2 = .ok (.iconst 0, 1) := by decide +kernel
theorem dX7_value_3 : decode cX7_value 3 = .ok (.istore_n 2, 1) := by decide +kernel
theorem dX7_value_4 : decode cX7_value 4 = .ok (.iload_n 2, 1) := by decide +kernel
theorem dX7_value_5 : decode cX7_value 5 = .ok (.aload_n 0, 1) := by decide +kernel
theorem dX7_value_6 : decode cX7_value 6 = .ok (.getfield 18, 3) := by decide +kernel
theorem dX7_value_9 : decode cX7_value 9 = .ok (.if_icmp .ge 40, 3) := by decide +kernel
theorem dX7_value_12 : decode cX7_value 12 = .ok (.iload_n 1, 1) := by decide +kernel
theorem dX7_value_13 : decode cX7_value 13 = .ok (.bipush 10, 2) := by decide +kernel
theorem dX7_value_15 : decode cX7_value 15 = .ok (.imul, 1) := by decide +kernel
theorem dX7_value_16 : decode cX7_value 16 = .ok (.aload_n 0, 1) := by decide +kernel
theorem dX7_value_17 : decode cX7_value 17 = .ok (.getfield 21, 3) := by decide +kernel
theorem dX7_value_20 : decode cX7_value 20 = .ok (.getfield 31, 3) := by decide +kernel
theorem dX7_value_23 : decode cX7_value 23 = .ok (.aload_n 0, 1) := by decide +kernel
theorem dX7_value_24 : decode cX7_value 24 = .ok (.getfield 15, 3) := by decide +kernel
theorem dX7_value_27 : decode cX7_value 27 = .ok (.iload_n 2, 1) := by decide +kernel
theorem dX7_value_28 : decode cX7_value 28 = .ok (.iadd, 1) := by decide +kernel
theorem dX7_value_29 : decode cX7_value 29 = .ok (.invokevirtual 35, 3) := by decide +kernel
theorem dX7_value_32 : decode cX7_value 32 = .ok (.iadd, 1) := by decide +kernel
theorem dX7_value_33 : decode cX7_value 33 = .ok (.bipush 48, 2) := by decide +kernel
theorem dX7_value_35 : decode cX7_value 35 = .ok (.isub, 1) := by decide +kernel
theorem dX7_value_36 : decode cX7_value 36 = .ok (.sipush 10000, 3) := by decide +kernel
theorem dX7_value_39 : decode cX7_value 39 = .ok (.invokestatic 53, 3) := by decide +kernel
theorem dX7_value_42 : decode cX7_value 42 = .ok (.istore_n 1, 1) := by decide +kernel
theorem dX7_value_43 : decode cX7_value 43 = .ok (.iinc 2 1, 3) := by decide +kernel
theorem dX7_value_46 : decode cX7_value 46 = .ok (.goto (-42), 3) := by decide +kernel
theorem dX7_value_49 : decode cX7_value 49 = .ok (.iload_n 1, 1) := by decide +kernel
theorem dX7_value_50 : decode cX7_value 50 = .ok (.ireturn, 1) := by decide +kernel
theorem dX8_init_0 : decode cX8_init 0 = .ok (.aload_n 0, 1) := by decide +kernel
theorem dX8_init_1 : decode cX8_init 1 = .ok (.invokespecial 3, 3) := by decide +kernel
theorem dX8_init_4 : decode cX8_init 4 = .ok (.aload_n 0, 1) := by decide +kernel
theorem dX8_init_5 : decode cX8_init 5 = .ok (.new 9, 3) := by decide +kernel
theorem dX8_init_8 : decode cX8_init 8 = .ok (.dup, 1) := by decide +kernel
theorem dX8_init_9 : decode cX8_init 9 = .ok (.sipush 500, 3) := by decide +kernel
theorem dX8_init_12 : decode cX8_init 12 = .ok (.invokespecial 11, 3) := by decide +kernel
theorem dX8_init_15 : decode cX8_init 15 = .ok (.putfield 14, 3) := by decide +kernel
theorem dX8_init_18 : decode cX8_init 18 = .ok (.aload_n 0, 1) := by decide +kernel
theorem dX8_init_19 : decode cX8_init 19 = .ok (.new 9, 3) := by decide +kernel
theorem dX8_init_22 : decode cX8_init 22 = .ok (.dup, 1) := by decide +kernel
theorem dX8_init_23 : decode cX8_init 23 = .ok (.sipush 900, 3) := by decide +kernel
theorem dX8_init_26 : decode cX8_init 26 = .ok (.invokespecial 11, 3) := by decide +kernel
theorem dX8_init_29 : decode cX8_init 29 = .ok (.putfield 18, 3) := by decide +kernel
theorem dX8_init_32 : decode cX8_init 32 = .ok (.aload_n 0, 1) := by decide +kernel
theorem dX8_init_33 : decode cX8_init 33 = .ok (.new 21, 3) := by decide +kernel
theorem dX8_init_36 : decode cX8_init 36 = .ok (.dup, 1) := by decide +kernel
theorem dX8_init_37 : decode cX8_init 37 = .ok (.aload_n 0, 1) := by decide +kernel
theorem dX8_init_38 : decode cX8_init 38 = .ok (.getfield 14, 3) := by decide +kernel
theorem dX8_init_41 : decode cX8_init 41 = .ok (.invokespecial 23, 3) := by decide +kernel
theorem dX8_init_44 : decode cX8_init 44 = .ok (.putfield 26, 3) := by decide +kernel
theorem dX8_init_47 : decode cX8_init 47 = .ok (.aload_n 0, 1) := by decide +kernel
theorem dX8_init_48 : decode cX8_init 48 = .ok (.new 30, 3) := by decide +kernel
theorem dX8_init_51 : decode cX8_init 51 = .ok (.dup, 1) := by decide +kernel
theorem dX8_init_52 : decode cX8_init 52 = .ok (.aload_n 0, 1) := by decide +kernel
theorem dX8_init_53 : decode cX8_init 53 = .ok (.getfield 26, 3) := by decide +kernel
theorem dX8_init_56 : decode cX8_init 56 = .ok (.invokespecial 32, 3) := by decide +kernel
theorem dX8_init_59 : decode cX8_init 59 = .ok (.putfield 35, 3) := by decide +kernel
theorem dX8_init_62 : decode cX8_init 62 = .ok (.aload_n 0, 1) := by decide +kernel
theorem dX8_init_63 : decode cX8_init 63 = .ok (.new 39, 3) := by decide +kernel
theorem dX8_init_66 : decode cX8_init 66 = .ok (.dup, 1) := by decide +kernel
theorem dX8_init_67 : decode cX8_init 67 = .ok (.invokespecial 41, 3) := by decide +kernel
theorem dX8_init_70 : decode cX8_init 70 = .ok (.putfield 42, 3) := by decide +kernel
theorem dX8_init_73 : decode cX8_init 73 = .ok (.aload_n 0, 1) := by decide +kernel
theorem dX8_init_74 : decode cX8_init 74 = .ok (.new 46, 3) := by decide +kernel
theorem dX8_init_77 : decode cX8_init 77 = .ok (.dup, 1) := by decide +kernel
theorem dX8_init_78 : decode cX8_init 78 = .ok (.invokespecial 48, 3) := by decide +kernel
theorem dX8_init_81 : decode cX8_init 81 = .ok (.putfield 49, 3) := by decide +kernel
theorem dX8_init_84 : decode cX8_init 84 = .ok (.aload_n 0, 1) := by decide +kernel
theorem dX8_init_85 : decode cX8_init 85 = .ok (.new 39, 3) := by decide +kernel
theorem dX8_init_88 : decode cX8_init 88 = .ok (.dup, 1) := by decide +kernel
theorem dX8_init_89 : decode cX8_init 89 = .ok (.invokespecial 41, 3) := by decide +kernel
theorem dX8_init_92 : decode cX8_init 92 = .ok (.putfield 53, 3) := by decide +kernel
theorem dX8_init_95 : decode cX8_init 95 = .ok (.aload_n 0, 1) := by decide +kernel
theorem dX8_init_96 : decode cX8_init 96 = .ok (.new 46, 3) := by decide +kernel
theorem dX8_init_99 : decode cX8_init 99 = .ok (.dup, 1) := by decide +kernel
theorem dX8_init_100 : decode cX8_init 100 = .ok (.invokespecial 48, 3) := by decide +kernel
theorem dX8_init_103 : decode cX8_init 103 = .ok (.putfield 56, 3) := by decide +kernel
theorem dX8_init_106 : decode cX8_init 106 = .ok (.aload_n 0, 1) := by decide +kernel
theorem dX8_init_107 : decode cX8_init 107 = .ok (.new 59, 3) := by decide +kernel
theorem dX8_init_110 : decode cX8_init 110 = .ok (.dup, 1) := by decide +kernel
theorem dX8_init_111 : decode cX8_init 111 = .ok (.invokespecial 61, 3) := by decide +kernel
theorem dX8_init_114 : decode cX8_init 114 = .ok (.putfield 62, 3) := by decide +kernel
theorem dX8_init_117 : decode cX8_init 117 = .ok (.aload_n 0, 1) := by decide +kernel
theorem dX8_init_118 : decode cX8_init 118 = .ok (.new 66, 3) := by decide +kernel
theorem dX8_init_121 : decode cX8_init 121 = .ok (.dup, 1) := by decide +kernel
theorem dX8_init_122 : decode cX8_init 122 = .ok (.invokespecial 68, 3) := by decide +kernel
theorem dX8_init_125 : decode cX8_init 125 = .ok (.putfield 69, 3) := by decide +kernel
theorem dX8_init_128 : decode cX8_init 128 = .ok (.aload_n 0, 1) := by decide +kernel
theorem dX8_init_129 : decode cX8_init 129 = .ok (.iconst 2, 1) := by decide +kernel
theorem dX8_init_130 : decode cX8_init 130 = .ok (.anewarray 39, 3) := by decide +kernel
theorem dX8_init_133 : decode cX8_init 133 = .ok (.putfield 73, 3) := by decide +kernel
theorem dX8_init_136 : decode cX8_init 136 = .ok (.return_, 1) := by decide +kernel
theorem dX8_append_0 : decode cX8_append 0 = .ok (.aload_n 0, 1) := by decide +kernel
theorem dX8_append_1 : decode cX8_append 1 = .ok (.getfield 14, 3) := by decide +kernel
theorem dX8_append_4 : decode cX8_append 4 = .ok (.getfield 77, 3) := by decide +kernel
theorem dX8_append_7 : decode cX8_append 7 = .ok (.sipush 480, 3) := by decide +kernel
theorem dX8_append_10 : decode cX8_append 10 = .ok (.if_icmp .le 11, 3) := by decide +kernel
theorem dX8_append_13 : decode cX8_append 13 = .ok (.new 81, 3) := by decide +kernel
theorem dX8_append_16 : decode cX8_append 16 = .ok (.dup, 1) := by decide +kernel
theorem dX8_append_17 : decode cX8_append 17 = .ok (.invokespecial 83, 3) := by decide +kernel
theorem dX8_append_20 : decode cX8_append 20 = .ok (.athrow, 1) := by decide +kernel
theorem dX8_append_21 : decode cX8_append 21 = .ok (.aload_n 0, 1) := by decide +kernel
theorem dX8_append_22 : decode cX8_append 22 = .ok (.getfield 14, 3) := by decide +kernel
theorem dX8_append_25 : decode cX8_append 25 = .ok (.iload_n 1, 1) := by decide +kernel
theorem dX8_append_26 : decode cX8_append 26 = .ok (.invokevirtual 84, 3) := by decide +kernel
theorem dX8_append_29 : decode cX8_append 29 = .ok (.aload_n 0, 1) := by decide +kernel
theorem dX8_append_30 : decode cX8_append 30 = .ok (.getfield 14, 3) := by decide +kernel
theorem dX8_append_33 : decode cX8_append 33 = .ok (.iload_n 2, 1) := by decide +kernel
theorem dX8_append_34 : decode cX8_append 34 = .ok (.invokevirtual 84, 3) := by decide +kernel
theorem dX8_append_37 : decode cX8_append 37 = .ok (.aload_n 0, 1) := by decide +kernel
theorem dX8_append_38 : decode cX8_append 38 = .ok (.getfield 14, 3) := by decide +kernel
theorem dX8_append_41 : decode cX8_append 41 = .ok (.iload_n 3, 1) := by decide +kernel
theorem dX8_append_42 : decode cX8_append 42 = .ok (.invokevirtual 84, 3) := by decide +kernel
theorem dX8_append_45 : decode cX8_append 45 = .ok (.aload_n 0, 1) := by decide +kernel
theorem dX8_append_46 : decode cX8_append 46 = .ok (.getfield 14, 3) := by decide +kernel
theorem dX8_append_49 : decode cX8_append 49 = .ok (.iload 4, 2) := by decide +kernel
theorem dX8_append_51 : decode cX8_append 51 = .ok (.invokevirtual 84, 3) := by decide +kernel
theorem dX8_append_54 : decode cX8_append 54 = .ok (.aload_n 0, 1) := by decide +kernel
theorem dX8_append_55 : decode cX8_append 55 = .ok (.getfield 14, 3) := by decide +kernel
theorem dX8_append_58 : decode cX8_append 58 = .ok (.iload 5, 2) := by decide +kernel
theorem dX8_append_60 : decode cX8_append 60 = .ok (.invokevirtual 84, 3) := by decide +kernel
theorem dX8_append_63 : decode cX8_append 63 = .ok (.aload_n 0, 1) := by decide +kernel
theorem dX8_append_64 : decode cX8_append 64 = .ok (.getfield 14, 3) := by decide +kernel
theorem dX8_append_67 : decode cX8_append 67 = .ok (.getfield 77, 3) := by decide +kernel
theorem dX8_append_70 : decode cX8_append 70 = .ok (.ireturn, 1) := by decide +kernel
theorem dX8_truncate_0 : decode cX8_truncate 0 = .ok (.iload_n 1, 1) := by decide +kernel
theorem dX8_truncate_1 : decode cX8_truncate 1 = .ok (.ifCond .lt 14, 3) := by decide +kernel
theorem dX8_truncate_4 : decode cX8_truncate 4 = .ok (.iload_n 1, 1) := by decide +kernel
theorem dX8_truncate_5 : decode cX8_truncate 5 = .ok (.aload_n 0, 1) := by decide +kernel
theorem dX8_truncate_6 : decode cX8_truncate 6 = .ok (.getfield 14, 3) := by decide +kernel
theorem dX8_truncate_9 : decode cX8_truncate 9 = .ok (.getfield 77, 3) := by decide +kernel
theorem dX8_truncate_12 : decode cX8_truncate 12 = .ok (.if_icmp .le 11, 3) := by decide +kernel
theorem dX8_truncate_15 : decode cX8_truncate 15 = .ok (.new 87, 3) := by decide +kernel
theorem dX8_truncate_18 : decode cX8_truncate 18 = .ok (.dup, 1) := by decide +kernel
theorem dX8_truncate_19 : decode cX8_truncate 19 = .ok (.invokespecial 89, 3) := by decide +kernel
theorem dX8_truncate_22 : decode cX8_truncate 22 = .ok (.athrow, 1) := by decide +kernel
theorem dX8_truncate_23 : decode cX8_truncate 23 = .ok (.aload_n 0, 1) := by decide +kernel
theorem dX8_truncate_24 : decode cX8_truncate 24 = .ok (.getfield 14, 3) := by decide +kernel
theorem dX8_truncate_27 : decode cX8_truncate 27 = .ok (.iload_n 1, 1) := by decide +kernel
theorem dX8_truncate_28 : decode cX8_truncate 28 = .ok (.putfield 77, 3) := by decide +kernel
theorem dX8_truncate_31 : decode cX8_truncate 31 = .ok (.return_, 1) := by decide +kernel
theorem dX8_load_0 : decode cX8_load 0 = .ok (.aload_n 0, 1) := by decide +kernel
theorem dX8_load_1 : decode cX8_load 1 = .ok (.getfield 35, 3) := by decide +kernel
theorem dX8_load_4 : decode cX8_load 4 = .ok (.aload_n 0, 1) := by decide +kernel
theorem dX8_load_5 : decode cX8_load 5 = .ok (.getfield 53, 3) := by decide +kernel
theorem dX8_load_8 : decode cX8_load 8 = .ok (.invokevirtual 90, 3) := by decide +kernel
theorem dX8_load_11 : decode cX8_load 11 = .ok (.istore_n 1, 1) := by decide +kernel
theorem dX8_load_12 : decode cX8_load 12 = .ok (.aload_n 0, 1) := by decide +kernel
theorem dX8_load_13 : decode cX8_load 13 = .ok (.getfield 14, 3) := by decide +kernel
theorem dX8_load_16 : decode cX8_load 16 = .ok (.iconst 0, 1) := by decide +kernel
theorem dX8_load_17 : decode cX8_load 17 = .ok (.putfield 77, 3) := by decide +kernel
theorem dX8_load_20 : decode cX8_load 20 = .ok (.iload_n 1, 1) := by decide +kernel
theorem dX8_load_21 : decode cX8_load 21 = .ok (.ifCond .ne 6, 3) := by decide +kernel
theorem dX8_load_24 : decode cX8_load 24 = .ok (.bipush (-4), 2) := by decide +kernel
theorem dX8_load_26 : decode cX8_load 26 = .ok (.ireturn, 1) := by decide +kernel
theorem dX8_load_27 : decode cX8_load 27 = .ok (.aload_n 0, 1) := by decide +kernel
theorem dX8_load_28 : decode cX8_load 28 = .ok (.invokevirtual 94, 3) := by decide +kernel
theorem dX8_load_31 : decode cX8_load 31 = .ok (.aload_n 0, 1) := by decide +kernel
theorem dX8_load_32 : decode cX8_load 32 = .ok (.getfield 49, 3) := by decide +kernel
theorem dX8_load_35 : decode cX8_load 35 = .ok (.getfield 97, 3) := by decide +kernel
theorem dX8_load_38 : decode cX8_load 38 = .ok (.ireturn, 1) := by decide +kernel
theorem dX8_errorCode_0 : decode cX8_errorCode 0 = .ok (.aload_n 0, 1) := by decide +kernel
theorem dX8_errorCode_1 : decode cX8_errorCode 1 = .ok (.getfield 35, 3) := by decide +kernel
theorem dX8_errorCode_4 : decode cX8_errorCode 4 = .ok (.getfield 100, 3) := by decide +kernel
theorem dX8_errorCode_7 : decode cX8_errorCode 7 = .ok (.ireturn, 1) := by decide +kernel
theorem dX8_property_0 : decode cX8_property 0 = .ok (.iload_n 1, 1) := by decide +kernel
theorem dX8_property_1 : decode cX8_property 1 = .ok (.tableswitch 198 0 13 #[71, 79, 87, 95, 103, 111, 119, 127, 135, 143, 154, 165, 176, 187], 71) := by decide +kernel
theorem dX8_property_72 : decode cX8_property 72 = .ok (.aload_n 0, 1) := by decide +kernel
theorem dX8_property_73 : decode cX8_property 73 = .ok (.getfield 42, 3) := by decide +kernel
theorem dX8_property_76 : decode cX8_property 76 = .ok (.getfield 106, 3) := by decide +kernel
theorem dX8_property_79 : decode cX8_property 79 = .ok (.ireturn, 1) := by decide +kernel
theorem dX8_property_80 : decode cX8_property 80 = .ok (.aload_n 0, 1) := by decide +kernel
theorem dX8_property_81 : decode cX8_property 81 = .ok (.getfield 42, 3) := by decide +kernel
theorem dX8_property_84 : decode cX8_property 84 = .ok (.getfield 109, 3) := by decide +kernel
theorem dX8_property_87 : decode cX8_property 87 = .ok (.ireturn, 1) := by decide +kernel
theorem dX8_property_88 : decode cX8_property 88 = .ok (.aload_n 0, 1) := by decide +kernel
theorem dX8_property_89 : decode cX8_property 89 = .ok (.getfield 42, 3) := by decide +kernel
theorem dX8_property_92 : decode cX8_property 92 = .ok (.invokevirtual 112, 3) := by decide +kernel
theorem dX8_property_95 : decode cX8_property 95 = .ok (.ireturn, 1) := by decide +kernel
theorem dX8_property_96 : decode cX8_property 96 = .ok (.aload_n 0, 1) := by decide +kernel
theorem dX8_property_97 : decode cX8_property 97 = .ok (.getfield 42, 3) := by decide +kernel
theorem dX8_property_100 : decode cX8_property 100 = .ok (.getfield 116, 3) := by decide +kernel
theorem dX8_property_103 : decode cX8_property 103 = .ok (.ireturn, 1) := by decide +kernel
theorem dX8_property_104 : decode cX8_property 104 = .ok (.aload_n 0, 1) := by decide +kernel
theorem dX8_property_105 : decode cX8_property 105 = .ok (.getfield 42, 3) := by decide +kernel
theorem dX8_property_108 : decode cX8_property 108 = .ok (.getfield 119, 3) := by decide +kernel
theorem dX8_property_111 : decode cX8_property 111 = .ok (.ireturn, 1) := by decide +kernel
theorem dX8_property_112 : decode cX8_property 112 = .ok (.aload_n 0, 1) := by decide +kernel
theorem dX8_property_113 : decode cX8_property 113 = .ok (.getfield 42, 3) := by decide +kernel
theorem dX8_property_116 : decode cX8_property 116 = .ok (.getfield 122, 3) := by decide +kernel
theorem dX8_property_119 : decode cX8_property 119 = .ok (.ireturn, 1) := by decide +kernel
theorem dX8_property_120 : decode cX8_property 120 = .ok (.aload_n 0, 1) := by decide +kernel
theorem dX8_property_121 : decode cX8_property 121 = .ok (.getfield 49, 3) := by decide +kernel
theorem dX8_property_124 : decode cX8_property 124 = .ok (.getfield 97, 3) := by decide +kernel
theorem dX8_property_127 : decode cX8_property 127 = .ok (.ireturn, 1) := by decide +kernel
theorem dX8_property_128 : decode cX8_property 128 = .ok (.aload_n 0, 1) := by decide +kernel
theorem dX8_property_129 : decode cX8_property 129 = .ok (.getfield 49, 3) := by decide +kernel
theorem dX8_property_132 : decode cX8_property 132 = .ok (.getfield 125, 3) := by decide +kernel
theorem dX8_property_135 : decode cX8_property 135 = .ok (.ireturn, 1) := by decide +kernel
theorem dX8_property_136 : decode cX8_property 136 = .ok (.aload_n 0, 1) := by decide +kernel
theorem dX8_property_137 : decode cX8_property 137 = .ok (.getfield 42, 3) := by decide +kernel
theorem dX8_property_140 : decode cX8_property 140 = .ok (.getfield 128, 3) := by decide +kernel
theorem dX8_property_143 : decode cX8_property 143 = .ok (.ireturn, 1) := by decide +kernel
theorem dX8_property_144 : decode cX8_property 144 = .ok (.aload_n 0, 1) := by decide +kernel
theorem dX8_property_145 : decode cX8_property 145 = .ok (.getfield 42, 3) := by decide +kernel
theorem dX8_property_148 : decode cX8_property 148 = .ok (.getfield 131, 3) := by decide +kernel
theorem dX8_property_151 : decode cX8_property 151 = .ok (.getfield 134, 3) := by decide +kernel
theorem dX8_property_154 : decode cX8_property 154 = .ok (.ireturn, 1) := by decide +kernel
theorem dX8_property_155 : decode cX8_property 155 = .ok (.aload_n 0, 1) := by decide +kernel
theorem dX8_property_156 : decode cX8_property 156 = .ok (.getfield 42, 3) := by decide +kernel
theorem dX8_property_159 : decode cX8_property 159 = .ok (.getfield 131, 3) := by decide +kernel
theorem dX8_property_162 : decode cX8_property 162 = .ok (.getfield 137, 3) := by decide +kernel
theorem dX8_property_165 : decode cX8_property 165 = .ok (.ireturn, 1) := by decide +kernel
theorem dX8_property_166 : decode cX8_property 166 = .ok (.aload_n 0, 1) := by decide +kernel
theorem dX8_property_167 : decode cX8_property 167 = .ok (.getfield 42, 3) := by decide +kernel
theorem dX8_property_170 : decode cX8_property 170 = .ok (.getfield 131, 3) := by decide +kernel
theorem dX8_property_173 : decode cX8_property 173 = .ok (.getfield 140, 3) := by decide +kernel
theorem dX8_property_176 : decode cX8_property 176 = .ok (.ireturn, 1) := by decide +kernel
theorem dX8_property_177 : decode cX8_property 177 = .ok (.aload_n 0, 1) := by decide +kernel
theorem dX8_property_178 : decode cX8_property 178 = .ok (.getfield 42, 3) := by decide +kernel
theorem dX8_property_181 : decode cX8_property 181 = .ok (.getfield 131, 3) := by decide +kernel
theorem dX8_property_184 : decode cX8_property 184 = .ok (.getfield 143, 3) := by decide +kernel
theorem dX8_property_187 : decode cX8_property 187 = .ok (.ireturn, 1) := by decide +kernel
theorem dX8_property_188 : decode cX8_property 188 = .ok (.aload_n 0, 1) := by decide +kernel
theorem dX8_property_189 : decode cX8_property 189 = .ok (.getfield 42, 3) := by decide +kernel
theorem dX8_property_192 : decode cX8_property 192 = .ok (.getfield 131, 3) := by decide +kernel
theorem dX8_property_195 : decode cX8_property 195 = .ok (.getfield 146, 3) := by decide +kernel
theorem dX8_property_198 : decode cX8_property 198 = .ok (.ireturn, 1) := by decide +kernel
theorem dX8_property_199 : decode cX8_property 199 = .ok (.new 87, 3) := by decide +kernel
theorem dX8_property_202 : decode cX8_property 202 = .ok (.dup, 1) := by decide +kernel
theorem dX8_property_203 : decode cX8_property 203 = .ok (.invokespecial 89, 3) := by decide +kernel
theorem dX8_property_206 : decode cX8_property 206 = .ok (.athrow, 1) := by decide +kernel
theorem dX8_word_0 : decode cX8_word 0 = .ok (.aload_n 0, 1) := by decide +kernel
theorem dX8_word_1 : decode cX8_word 1 = .ok (.iload_n 1, 1) := by decide +kernel
theorem dX8_word_2 : decode cX8_word 2 = .ok (.invokevirtual 180, 3) := by decide +kernel
theorem dX8_word_5 : decode cX8_word 5 = .ok (.iload_n 2, 1) := by decide +kernel
theorem dX8_word_6 : decode cX8_word 6 = .ok (.tableswitch 95 0 5 #[38, 47, 59, 71, 83, 89], 38) := by decide +kernel
theorem dX8_word_44 : decode cX8_word 44 = .ok (.aload_n 0, 1) := by decide +kernel
theorem dX8_word_45 : decode cX8_word 45 = .ok (.getfield 42, 3) := by decide +kernel
theorem dX8_word_48 : decode cX8_word 48 = .ok (.iload_n 1, 1) := by decide +kernel
theorem dX8_word_49 : decode cX8_word 49 = .ok (.invokevirtual 183, 3) := by decide +kernel
theorem dX8_word_52 : decode cX8_word 52 = .ok (.ireturn, 1) := by decide +kernel
theorem dX8_word_53 : decode cX8_word 53 = .ok (.aload_n 0, 1) := by decide +kernel
theorem dX8_word_54 : decode cX8_word 54 = .ok (.getfield 42, 3) := by decide +kernel
theorem dX8_word_57 : decode cX8_word 57 = .ok (.getfield 186, 3) := by decide +kernel
theorem dX8_word_60 : decode cX8_word 60 = .ok (.iload_n 1, 1) := by decide +kernel
theorem dX8_word_61 : decode cX8_word 61 = .ok (.invokevirtual 160, 3) := by decide +kernel
theorem dX8_word_64 : decode cX8_word 64 = .ok (.ireturn, 1) := by decide +kernel
theorem dX8_word_65 : decode cX8_word 65 = .ok (.aload_n 0, 1) := by decide +kernel
theorem dX8_word_66 : decode cX8_word 66 = .ok (.getfield 49, 3) := by decide +kernel
theorem dX8_word_69 : decode cX8_word 69 = .ok (.getfield 177, 3) := by decide +kernel
theorem dX8_word_72 : decode cX8_word 72 = .ok (.iload_n 1, 1) := by decide +kernel
theorem dX8_word_73 : decode cX8_word 73 = .ok (.invokevirtual 160, 3) := by decide +kernel
theorem dX8_word_76 : decode cX8_word 76 = .ok (.ireturn, 1) := by decide +kernel
theorem dX8_word_77 : decode cX8_word 77 = .ok (.aload_n 0, 1) := by decide +kernel
theorem dX8_word_78 : decode cX8_word 78 = .ok (.getfield 49, 3) := by decide +kernel
theorem dX8_word_81 : decode cX8_word 81 = .ok (.getfield 189, 3) := by decide +kernel
theorem dX8_word_84 : decode cX8_word 84 = .ok (.iload_n 1, 1) := by decide +kernel
theorem dX8_word_85 : decode cX8_word 85 = .ok (.invokevirtual 160, 3) := by decide +kernel
theorem dX8_word_88 : decode cX8_word 88 = .ok (.ireturn, 1) := by decide +kernel
theorem dX8_word_89 : decode cX8_word 89 = .ok (.aload_n 0, 1) := by decide +kernel
theorem dX8_word_90 : decode cX8_word 90 = .ok (.iload_n 1, 1) := by decide +kernel
theorem dX8_word_91 : decode cX8_word 91 = .ok (.invokevirtual 192, 3) := by decide +kernel
theorem dX8_word_94 : decode cX8_word 94 = .ok (.ireturn, 1) := by decide +kernel
theorem dX8_word_95 : decode cX8_word 95 = .ok (.aload_n 0, 1) := by decide +kernel
theorem dX8_word_96 : decode cX8_word 96 = .ok (.iload_n 1, 1) := by decide +kernel
theorem dX8_word_97 : decode cX8_word 97 = .ok (.invokevirtual 195, 3) := by decide +kernel
theorem dX8_word_100 : decode cX8_word 100 = .ok (.ireturn, 1) := by decide +kernel
theorem dX8_word_101 : decode cX8_word 101 = .ok (.new 87, 3) := by decide +kernel
theorem dX8_word_104 : decode cX8_word 104 = .ok (.dup, 1) := by decide +kernel
theorem dX8_word_105 : decode cX8_word 105 = .ok (.invokespecial 89, 3) := by decide +kernel
theorem dX8_word_108 : decode cX8_word 108 = .ok (.athrow, 1) := by decide +kernel
theorem dX8_letter_0 : decode cX8_letter 0 = .ok (.aload_n 0, 1) := by decide +kernel
theorem dX8_letter_1 : decode cX8_letter 1 = .ok (.iload_n 1, 1) := by decide +kernel
theorem dX8_letter_2 : decode cX8_letter 2 = .ok (.invokevirtual 180, 3) := by decide +kernel
theorem dX8_letter_5 : decode cX8_letter 5 = .ok (.iload_n 2, 1) := by decide +kernel
theorem dX8_letter_6 : decode cX8_letter 6 = .ok (.ifCond .lt 18, 3) := by decide +kernel
theorem dX8_letter_9 : decode cX8_letter 9 = .ok (.iload_n 2, 1) := by decide +kernel
theorem dX8_letter_10 : decode cX8_letter 10 = .ok (.aload_n 0, 1) := by decide +kernel
theorem dX8_letter_11 : decode cX8_letter 11 = .ok (.getfield 42, 3) := by decide +kernel
theorem dX8_letter_14 : decode cX8_letter 14 = .ok (.getfield 186, 3) := by decide +kernel
theorem dX8_letter_17 : decode cX8_letter 17 = .ok (.iload_n 1, 1) := by decide +kernel
theorem dX8_letter_18 : decode cX8_letter 18 = .ok (.invokevirtual 160, 3) := by decide +kernel
theorem dX8_letter_21 : decode cX8_letter 21 = .ok (.if_icmp .lt 11, 3) := by decide +kernel
theorem dX8_letter_24 : decode cX8_letter 24 = .ok (.new 198, 3) := by decide +kernel
theorem dX8_letter_27 : decode cX8_letter 27 = .ok (.dup, 1) := by decide +kernel
theorem dX8_letter_28 : decode cX8_letter 28 = .ok (.invokespecial 200, 3) := by decide +kernel
theorem dX8_letter_31 : decode cX8_letter 31 = .ok (.athrow, 1) := by decide +kernel
theorem dX8_letter_32 : decode cX8_letter 32 = .ok (.aload_n 0, 1) := by decide +kernel
theorem dX8_letter_33 : decode cX8_letter 33 = .ok (.getfield 42, 3) := by decide +kernel
theorem dX8_letter_36 : decode cX8_letter 36 = .ok (.iload_n 1, 1) := by decide +kernel
theorem dX8_letter_37 : decode cX8_letter 37 = .ok (.iload_n 2, 1) := by decide +kernel
theorem dX8_letter_38 : decode cX8_letter 38 = .ok (.invokevirtual 201, 3) := by decide +kernel
theorem dX8_letter_41 : decode cX8_letter 41 = .ok (.ireturn, 1) := by decide +kernel
theorem dX8_cell_0 : decode cX8_cell 0 = .ok (.aload_n 0, 1) := by decide +kernel
theorem dX8_cell_1 : decode cX8_cell 1 = .ok (.iload_n 1, 1) := by decide +kernel
theorem dX8_cell_2 : decode cX8_cell 2 = .ok (.iload_n 2, 1) := by decide +kernel
theorem dX8_cell_3 : decode cX8_cell 3 = .ok (.invokevirtual 204, 3) := by decide +kernel
theorem dX8_cell_6 : decode cX8_cell 6 = .ok (.aload_n 0, 1) := by decide +kernel
theorem dX8_cell_7 : decode cX8_cell 7 = .ok (.getfield 42, 3) := by decide +kernel
theorem dX8_cell_10 : decode cX8_cell 10 = .ok (.iload_n 1, 1) := by decide +kernel
theorem dX8_cell_11 : decode cX8_cell 11 = .ok (.iload_n 2, 1) := by decide +kernel
theorem dX8_cell_12 : decode cX8_cell 12 = .ok (.invokevirtual 208, 3) := by decide +kernel
theorem dX8_cell_15 : decode cX8_cell 15 = .ok (.ifCond .eq 5, 3) := by decide +kernel
theorem dX8_cell_18 : decode cX8_cell 18 = .ok (.iconst (-1), 1) := by decide +kernel
theorem dX8_cell_19 : decode cX8_cell 19 = .ok (.ireturn, 1) := by decide +kernel
theorem dX8_cell_20 : decode cX8_cell 20 = .ok (.aload_n 0, 1) := by decide +kernel
theorem dX8_cell_21 : decode cX8_cell 21 = .ok (.getfield 49, 3) := by decide +kernel
theorem dX8_cell_24 : decode cX8_cell 24 = .ok (.aload_n 0, 1) := by decide +kernel
theorem dX8_cell_25 : decode cX8_cell 25 = .ok (.getfield 42, 3) := by decide +kernel
theorem dX8_cell_28 : decode cX8_cell 28 = .ok (.iload_n 1, 1) := by decide +kernel
theorem dX8_cell_29 : decode cX8_cell 29 = .ok (.iload_n 2, 1) := by decide +kernel
theorem dX8_cell_30 : decode cX8_cell 30 = .ok (.invokevirtual 212, 3) := by decide +kernel
theorem dX8_cell_33 : decode cX8_cell 33 = .ok (.istore_n 3, 1) := by decide +kernel
theorem dX8_cell_34 : decode cX8_cell 34 = .ok (.iload_n 3, 1) := by decide +kernel
theorem dX8_cell_35 : decode cX8_cell 35 = .ok (.iconst (-1), 1) := by decide +kernel
theorem dX8_cell_36 : decode cX8_cell 36 = .ok (.if_icmp .ne 7, 3) := by decide +kernel
theorem dX8_cell_39 : decode cX8_cell 39 = .ok (.iconst 0, 1) := by decide +kernel
theorem dX8_cell_40 : decode cX8_cell 40 = .ok (.goto 24, 3) := by decide +kernel
theorem dX8_cell_43 : decode cX8_cell 43 = .ok (.aload_n 0, 1) := by decide +kernel
theorem dX8_cell_44 : decode cX8_cell 44 = .ok (.getfield 42, 3) := by decide +kernel
theorem dX8_cell_47 : decode cX8_cell 47 = .ok (.iload_n 3, 1) := by decide +kernel
theorem dX8_cell_48 : decode cX8_cell 48 = .ok (.iload_n 1, 1) := by decide +kernel
theorem dX8_cell_49 : decode cX8_cell 49 = .ok (.aload_n 0, 1) := by decide +kernel
theorem dX8_cell_50 : decode cX8_cell 50 = .ok (.getfield 49, 3) := by decide +kernel
theorem dX8_cell_53 : decode cX8_cell 53 = .ok (.getfield 189, 3) := by decide +kernel
theorem dX8_cell_56 : decode cX8_cell 56 = .ok (.iload_n 3, 1) := by decide +kernel
theorem dX8_cell_57 : decode cX8_cell 57 = .ok (.invokevirtual 160, 3) := by decide +kernel
theorem dX8_cell_60 : decode cX8_cell 60 = .ok (.isub, 1) := by decide +kernel
theorem dX8_cell_61 : decode cX8_cell 61 = .ok (.invokevirtual 201, 3) := by decide +kernel
theorem dX8_cell_64 : decode cX8_cell 64 = .ok (.ireturn, 1) := by decide +kernel
theorem dX8_wordAt_0 : decode cX8_wordAt 0 = .ok (.aload_n 0, 1) := by decide +kernel
theorem dX8_wordAt_1 : decode cX8_wordAt 1 = .ok (.iload_n 1, 1) := by decide +kernel
theorem dX8_wordAt_2 : decode cX8_wordAt 2 = .ok (.iload_n 2, 1) := by decide +kernel
theorem dX8_wordAt_3 : decode cX8_wordAt 3 = .ok (.invokevirtual 204, 3) := by decide +kernel
theorem dX8_wordAt_6 : decode cX8_wordAt 6 = .ok (.aload_n 0, 1) := by decide +kernel
theorem dX8_wordAt_7 : decode cX8_wordAt 7 = .ok (.getfield 49, 3) := by decide +kernel
theorem dX8_wordAt_10 : decode cX8_wordAt 10 = .ok (.aload_n 0, 1) := by decide +kernel
theorem dX8_wordAt_11 : decode cX8_wordAt 11 = .ok (.getfield 42, 3) := by decide +kernel
theorem dX8_wordAt_14 : decode cX8_wordAt 14 = .ok (.iload_n 1, 1) := by decide +kernel
theorem dX8_wordAt_15 : decode cX8_wordAt 15 = .ok (.iload_n 2, 1) := by decide +kernel
theorem dX8_wordAt_16 : decode cX8_wordAt 16 = .ok (.invokevirtual 212, 3) := by decide +kernel
theorem dX8_wordAt_19 : decode cX8_wordAt 19 = .ok (.ireturn, 1) := by decide +kernel
theorem dX8_freeIn_0 : decode cX8_freeIn 0 = .ok (.aload_n 0, 1) := by decide +kernel
theorem dX8_freeIn_1 : decode cX8_freeIn 1 = .ok (.iload_n 1, 1) := by decide +kernel
theorem dX8_freeIn_2 : decode cX8_freeIn 2 = .ok (.invokevirtual 216, 3) := by decide +kernel
theorem dX8_freeIn_5 : decode cX8_freeIn 5 = .ok (.iconst 0, 1) := by decide +kernel
theorem dX8_freeIn_6 : decode cX8_freeIn 6 = .ok (.istore_n 2, 1) := by decide +kernel
theorem dX8_freeIn_7 : decode cX8_freeIn 7 = .ok (.iconst 0, 1) := by decide +kernel
theorem dX8_freeIn_8 : decode cX8_freeIn 8 = .ok (.istore_n 3, 1) := by decide +kernel
theorem dX8_freeIn_9 : decode cX8_freeIn 9 = .ok (.iload_n 3, 1) := by decide +kernel
theorem dX8_freeIn_10 : decode cX8_freeIn 10 = .ok (.aload_n 0, 1) := by decide +kernel
theorem dX8_freeIn_11 : decode cX8_freeIn 11 = .ok (.getfield 42, 3) := by decide +kernel
theorem dX8_freeIn_14 : decode cX8_freeIn 14 = .ok (.getfield 106, 3) := by decide +kernel
theorem dX8_freeIn_17 : decode cX8_freeIn 17 = .ok (.if_icmp .ge 41, 3) := by decide +kernel
theorem dX8_freeIn_20 : decode cX8_freeIn 20 = .ok (.aload_n 0, 1) := by decide +kernel
theorem dX8_freeIn_21 : decode cX8_freeIn 21 = .ok (.getfield 42, 3) := by decide +kernel
theorem dX8_freeIn_24 : decode cX8_freeIn 24 = .ok (.iload_n 3, 1) := by decide +kernel
theorem dX8_freeIn_25 : decode cX8_freeIn 25 = .ok (.iload_n 1, 1) := by decide +kernel
theorem dX8_freeIn_26 : decode cX8_freeIn 26 = .ok (.invokevirtual 208, 3) := by decide +kernel
theorem dX8_freeIn_29 : decode cX8_freeIn 29 = .ok (.ifCond .ne 23, 3) := by decide +kernel
theorem dX8_freeIn_32 : decode cX8_freeIn 32 = .ok (.aload_n 0, 1) := by decide +kernel
theorem dX8_freeIn_33 : decode cX8_freeIn 33 = .ok (.getfield 49, 3) := by decide +kernel
theorem dX8_freeIn_36 : decode cX8_freeIn 36 = .ok (.aload_n 0, 1) := by decide +kernel
theorem dX8_freeIn_37 : decode cX8_freeIn 37 = .ok (.getfield 42, 3) := by decide +kernel
theorem dX8_freeIn_40 : decode cX8_freeIn 40 = .ok (.iload_n 3, 1) := by decide +kernel
theorem dX8_freeIn_41 : decode cX8_freeIn 41 = .ok (.iload_n 1, 1) := by decide +kernel
theorem dX8_freeIn_42 : decode cX8_freeIn 42 = .ok (.invokevirtual 212, 3) := by decide +kernel
theorem dX8_freeIn_45 : decode cX8_freeIn 45 = .ok (.iconst (-1), 1) := by decide +kernel
theorem dX8_freeIn_46 : decode cX8_freeIn 46 = .ok (.if_icmp .ne 6, 3) := by decide +kernel
theorem dX8_freeIn_49 : decode cX8_freeIn 49 = .ok (.iinc 2 1, 3) := by decide +kernel
theorem dX8_freeIn_52 : decode cX8_freeIn 52 = .ok (.iinc 3 1, 3) := by decide +kernel
theorem dX8_freeIn_55 : decode cX8_freeIn 55 = .ok (.goto (-46), 3) := by decide +kernel
theorem dX8_freeIn_58 : decode cX8_freeIn 58 = .ok (.iload_n 2, 1) := by decide +kernel
theorem dX8_freeIn_59 : decode cX8_freeIn 59 = .ok (.ireturn, 1) := by decide +kernel
theorem dX8_firstMissing_0 : decode cX8_firstMissing 0 = .ok (.aload_n 0, 1) := by decide +kernel
theorem dX8_firstMissing_1 : decode cX8_firstMissing 1 = .ok (.getfield 49, 3) := by decide +kernel
theorem dX8_firstMissing_4 : decode cX8_firstMissing 4 = .ok (.getfield 97, 3) := by decide +kernel
theorem dX8_firstMissing_7 : decode cX8_firstMissing 7 = .ok (.aload_n 0, 1) := by decide +kernel
theorem dX8_firstMissing_8 : decode cX8_firstMissing 8 = .ok (.getfield 42, 3) := by decide +kernel
theorem dX8_firstMissing_11 : decode cX8_firstMissing 11 = .ok (.getfield 122, 3) := by decide +kernel
theorem dX8_firstMissing_14 : decode cX8_firstMissing 14 = .ok (.if_icmp .ge 13, 3) := by decide +kernel
theorem dX8_firstMissing_17 : decode cX8_firstMissing 17 = .ok (.aload_n 0, 1) := by decide +kernel
theorem dX8_firstMissing_18 : decode cX8_firstMissing 18 = .ok (.getfield 49, 3) := by decide +kernel
theorem dX8_firstMissing_21 : decode cX8_firstMissing 21 = .ok (.getfield 97, 3) := by decide +kernel
theorem dX8_firstMissing_24 : decode cX8_firstMissing 24 = .ok (.goto 4, 3) := by decide +kernel
theorem dX8_firstMissing_27 : decode cX8_firstMissing 27 = .ok (.iconst (-1), 1) := by decide +kernel
theorem dX8_firstMissing_28 : decode cX8_firstMissing 28 = .ok (.ireturn, 1) := by decide +kernel
theorem dX8_strokesLeft_0 : decode cX8_strokesLeft 0 = .ok (.aload_n 0, 1) := by decide +kernel
theorem dX8_strokesLeft_1 : decode cX8_strokesLeft 1 = .ok (.getfield 49, 3) := by decide +kernel
theorem dX8_strokesLeft_4 : decode cX8_strokesLeft 4 = .ok (.aload_n 0, 1) := by decide +kernel
theorem dX8_strokesLeft_5 : decode cX8_strokesLeft 5 = .ok (.getfield 42, 3) := by decide +kernel
theorem dX8_strokesLeft_8 : decode cX8_strokesLeft 8 = .ok (.getfield 128, 3) := by decide +kernel
theorem dX8_strokesLeft_11 : decode cX8_strokesLeft 11 = .ok (.aload_n 0, 1) := by decide +kernel
theorem dX8_strokesLeft_12 : decode cX8_strokesLeft 12 = .ok (.getfield 49, 3) := by decide +kernel
theorem dX8_strokesLeft_15 : decode cX8_strokesLeft 15 = .ok (.getfield 125, 3) := by decide +kernel
theorem dX8_strokesLeft_18 : decode cX8_strokesLeft 18 = .ok (.invokevirtual 219, 3) := by decide +kernel
theorem dX8_strokesLeft_21 : decode cX8_strokesLeft 21 = .ok (.ireturn, 1) := by decide +kernel
theorem dX8_dear_0 : decode cX8_dear 0 = .ok (.iconst 0, 1) := by decide +kernel
theorem dX8_dear_1 : decode cX8_dear 1 = .ok (.istore_n 1, 1) := by decide +kernel
theorem dX8_dear_2 : decode cX8_dear 2 = .ok (.iconst 0, 1) := by decide +kernel
theorem dX8_dear_3 : decode cX8_dear 3 = .ok (.istore_n 2, 1) := by decide +kernel
theorem dX8_dear_4 : decode cX8_dear 4 = .ok (.iload_n 2, 1) := by decide +kernel
theorem dX8_dear_5 : decode cX8_dear 5 = .ok (.aload_n 0, 1) := by decide +kernel
theorem dX8_dear_6 : decode cX8_dear 6 = .ok (.getfield 49, 3) := by decide +kernel
theorem dX8_dear_9 : decode cX8_dear 9 = .ok (.getfield 125, 3) := by decide +kernel
theorem dX8_dear_12 : decode cX8_dear 12 = .ok (.if_icmp .ge 55, 3) := by decide +kernel
theorem dX8_dear_15 : decode cX8_dear 15 = .ok (.aload_n 0, 1) := by decide +kernel
theorem dX8_dear_16 : decode cX8_dear 16 = .ok (.getfield 49, 3) := by decide +kernel
theorem dX8_dear_19 : decode cX8_dear 19 = .ok (.getfield 238, 3) := by decide +kernel
theorem dX8_dear_22 : decode cX8_dear 22 = .ok (.iload_n 2, 1) := by decide +kernel
theorem dX8_dear_23 : decode cX8_dear 23 = .ok (.invokevirtual 160, 3) := by decide +kernel
theorem dX8_dear_26 : decode cX8_dear 26 = .ok (.istore_n 3, 1) := by decide +kernel
theorem dX8_dear_27 : decode cX8_dear 27 = .ok (.aload_n 0, 1) := by decide +kernel
theorem dX8_dear_28 : decode cX8_dear 28 = .ok (.getfield 42, 3) := by decide +kernel
theorem dX8_dear_31 : decode cX8_dear 31 = .ok (.iload_n 3, 1) := by decide +kernel
theorem dX8_dear_32 : decode cX8_dear 32 = .ok (.bipush 100, 2) := by decide +kernel
theorem dX8_dear_34 : decode cX8_dear 34 = .ok (.irem, 1) := by decide +kernel
theorem dX8_dear_35 : decode cX8_dear 35 = .ok (.iload_n 3, 1) := by decide +kernel
theorem dX8_dear_36 : decode cX8_dear 36 = .ok (.bipush 100, 2) := by decide +kernel
theorem dX8_dear_38 : decode cX8_dear 38 = .ok (.idiv, 1) := by decide +kernel
theorem dX8_dear_39 : decode cX8_dear 39 = .ok (.invokevirtual 272, 3) := by decide +kernel
theorem dX8_dear_42 : decode cX8_dear 42 = .ok (.ifCond .eq 19, 3) := by decide +kernel
theorem dX8_dear_45 : decode cX8_dear 45 = .ok (.iload_n 1, 1) := by decide +kernel
theorem dX8_dear_46 : decode cX8_dear 46 = .ok (.aload_n 0, 1) := by decide +kernel
theorem dX8_dear_47 : decode cX8_dear 47 = .ok (.getfield 49, 3) := by decide +kernel
theorem dX8_dear_50 : decode cX8_dear 50 = .ok (.getfield 229, 3) := by decide +kernel
theorem dX8_dear_53 : decode cX8_dear 53 = .ok (.iload_n 2, 1) := by decide +kernel
theorem dX8_dear_54 : decode cX8_dear 54 = .ok (.invokevirtual 160, 3) := by decide +kernel
theorem dX8_dear_57 : decode cX8_dear 57 = .ok (.iconst 2, 1) := by decide +kernel
theorem dX8_dear_58 : decode cX8_dear 58 = .ok (.idiv, 1) := by decide +kernel
theorem dX8_dear_59 : decode cX8_dear 59 = .ok (.iadd, 1) := by decide +kernel
theorem dX8_dear_60 : decode cX8_dear 60 = .ok (.istore_n 1, 1) := by decide +kernel
theorem dX8_dear_61 : decode cX8_dear 61 = .ok (.iinc 2 1, 3) := by decide +kernel
theorem dX8_dear_64 : decode cX8_dear 64 = .ok (.goto (-60), 3) := by decide +kernel
theorem dX8_dear_67 : decode cX8_dear 67 = .ok (.iload_n 1, 1) := by decide +kernel
theorem dX8_dear_68 : decode cX8_dear 68 = .ok (.ireturn, 1) := by decide +kernel
theorem dX8_carvedShare_0 : decode cX8_carvedShare 0 = .ok (.aload_n 0, 1) := by decide +kernel
theorem dX8_carvedShare_1 : decode cX8_carvedShare 1 = .ok (.getfield 49, 3) := by decide +kernel
theorem dX8_carvedShare_4 : decode cX8_carvedShare 4 = .ok (.getfield 125, 3) := by decide +kernel
theorem dX8_carvedShare_7 : decode cX8_carvedShare 7 = .ok (.ifCond .ne 7, 3) := by decide +kernel
theorem dX8_carvedShare_10 : decode cX8_carvedShare 10 = .ok (.fconst 1, 1) := by decide +kernel
theorem dX8_carvedShare_11 : decode cX8_carvedShare 11 = .ok (.goto 20, 3) := by decide +kernel
theorem dX8_carvedShare_14 : decode cX8_carvedShare 14 = .ok (.aload_n 0, 1) := by decide +kernel
theorem dX8_carvedShare_15 : decode cX8_carvedShare 15 = .ok (.getfield 42, 3) := by decide +kernel
theorem dX8_carvedShare_18 : decode cX8_carvedShare 18 = .ok (.getfield 128, 3) := by decide +kernel
theorem dX8_carvedShare_21 : decode cX8_carvedShare 21 = .ok (.i2f, 1) := by decide +kernel
theorem dX8_carvedShare_22 : decode cX8_carvedShare 22 = .ok (.aload_n 0, 1) := by decide +kernel
theorem dX8_carvedShare_23 : decode cX8_carvedShare 23 = .ok (.getfield 49, 3) := by decide +kernel
theorem dX8_carvedShare_26 : decode cX8_carvedShare 26 = .ok (.getfield 125, 3) := by decide +kernel
theorem dX8_carvedShare_29 : decode cX8_carvedShare 29 = .ok (.i2f, 1) := by decide +kernel
theorem dX8_carvedShare_30 : decode cX8_carvedShare 30 = .ok (.fdiv, 1) := by decide +kernel
theorem dX8_carvedShare_31 : decode cX8_carvedShare 31 = .ok (.freturn, 1) := by decide +kernel
theorem dX8_meanStrokes_0 : decode cX8_meanStrokes 0 = .ok (.aload_n 0, 1) := by decide +kernel
theorem dX8_meanStrokes_1 : decode cX8_meanStrokes 1 = .ok (.getfield 49, 3) := by decide +kernel
theorem dX8_meanStrokes_4 : decode cX8_meanStrokes 4 = .ok (.iconst 0, 1) := by decide +kernel
theorem dX8_meanStrokes_5 : decode cX8_meanStrokes 5 = .ok (.aload_n 0, 1) := by decide +kernel
theorem dX8_meanStrokes_6 : decode cX8_meanStrokes 6 = .ok (.getfield 49, 3) := by decide +kernel
theorem dX8_meanStrokes_9 : decode cX8_meanStrokes 9 = .ok (.getfield 125, 3) := by decide +kernel
theorem dX8_meanStrokes_12 : decode cX8_meanStrokes 12 = .ok (.invokevirtual 219, 3) := by decide +kernel
theorem dX8_meanStrokes_15 : decode cX8_meanStrokes 15 = .ok (.istore_n 1, 1) := by decide +kernel
theorem dX8_meanStrokes_16 : decode cX8_meanStrokes 16 = .ok (.aload_n 0, 1) := by decide +kernel
theorem dX8_meanStrokes_17 : decode cX8_meanStrokes 17 = .ok (.getfield 49, 3) := by decide +kernel
theorem dX8_meanStrokes_20 : decode cX8_meanStrokes 20 = .ok (.getfield 125, 3) := by decide +kernel
theorem dX8_meanStrokes_23 : decode cX8_meanStrokes 23 = .ok (.ifCond .ne 7, 3) := by decide +kernel
theorem dX8_meanStrokes_26 : decode cX8_meanStrokes 26 = .ok (.dconst 0, 1) := by decide +kernel
theorem dX8_meanStrokes_27 : decode cX8_meanStrokes 27 = .ok (.goto 14, 3) := by decide +kernel
theorem dX8_meanStrokes_30 : decode cX8_meanStrokes 30 = .ok (.iload_n 1, 1) := by decide +kernel
theorem dX8_meanStrokes_31 : decode cX8_meanStrokes 31 = .ok (.i2d, 1) := by decide +kernel
theorem dX8_meanStrokes_32 : decode cX8_meanStrokes 32 = .ok (.aload_n 0, 1) := by decide +kernel
theorem dX8_meanStrokes_33 : decode cX8_meanStrokes 33 = .ok (.getfield 49, 3) := by decide +kernel
theorem dX8_meanStrokes_36 : decode cX8_meanStrokes 36 = .ok (.getfield 125, 3) := by decide +kernel
theorem dX8_meanStrokes_39 : decode cX8_meanStrokes 39 = .ok (.i2d, 1) := by decide +kernel
theorem dX8_meanStrokes_40 : decode cX8_meanStrokes 40 = .ok (.ddiv, 1) := by decide +kernel
theorem dX8_meanStrokes_41 : decode cX8_meanStrokes 41 = .ok (.dreturn, 1) := by decide +kernel
theorem dX8_addPart_0 : decode cX8_addPart 0 = .ok (.aload_n 0, 1) := by decide +kernel
theorem dX8_addPart_1 : decode cX8_addPart 1 = .ok (.getfield 53, 3) := by decide +kernel
theorem dX8_addPart_4 : decode cX8_addPart 4 = .ok (.aload_n 0, 1) := by decide +kernel
theorem dX8_addPart_5 : decode cX8_addPart 5 = .ok (.getfield 42, 3) := by decide +kernel
theorem dX8_addPart_8 : decode cX8_addPart 8 = .ok (.invokevirtual 241, 3) := by decide +kernel
theorem dX8_addPart_11 : decode cX8_addPart 11 = .ok (.aload_n 0, 1) := by decide +kernel
theorem dX8_addPart_12 : decode cX8_addPart 12 = .ok (.iload_n 1, 1) := by decide +kernel
theorem dX8_addPart_13 : decode cX8_addPart 13 = .ok (.invokevirtual 275, 3) := by decide +kernel
theorem dX8_addPart_16 : decode cX8_addPart 16 = .ok (.istore_n 2, 1) := by decide +kernel
theorem dX8_addPart_17 : decode cX8_addPart 17 = .ok (.aload_n 0, 1) := by decide +kernel
theorem dX8_addPart_18 : decode cX8_addPart 18 = .ok (.getfield 14, 3) := by decide +kernel
theorem dX8_addPart_21 : decode cX8_addPart 21 = .ok (.iconst 0, 1) := by decide +kernel
theorem dX8_addPart_22 : decode cX8_addPart 22 = .ok (.putfield 77, 3) := by decide +kernel
theorem dX8_addPart_25 : decode cX8_addPart 25 = .ok (.iload_n 2, 1) := by decide +kernel
theorem dX8_addPart_26 : decode cX8_addPart 26 = .ok (.ifCond .eq 12, 3) := by decide +kernel
theorem dX8_addPart_29 : decode cX8_addPart 29 = .ok (.iload_n 1, 1) := by decide +kernel
theorem dX8_addPart_30 : decode cX8_addPart 30 = .ok (.ifCond .lt 8, 3) := by decide +kernel
theorem dX8_addPart_33 : decode cX8_addPart 33 = .ok (.iload_n 1, 1) := by decide +kernel
theorem dX8_addPart_34 : decode cX8_addPart 34 = .ok (.iconst 2, 1) := by decide +kernel
theorem dX8_addPart_35 : decode cX8_addPart 35 = .ok (.if_icmp .le 11, 3) := by decide +kernel
theorem dX8_addPart_38 : decode cX8_addPart 38 = .ok (.new 87, 3) := by decide +kernel
theorem dX8_addPart_41 : decode cX8_addPart 41 = .ok (.dup, 1) := by decide +kernel
theorem dX8_addPart_42 : decode cX8_addPart 42 = .ok (.invokespecial 89, 3) := by decide +kernel
theorem dX8_addPart_45 : decode cX8_addPart 45 = .ok (.athrow, 1) := by decide +kernel
theorem dX8_addPart_46 : decode cX8_addPart 46 = .ok (.aload_n 0, 1) := by decide +kernel
theorem dX8_addPart_47 : decode cX8_addPart 47 = .ok (.getfield 42, 3) := by decide +kernel
theorem dX8_addPart_50 : decode cX8_addPart 50 = .ok (.getfield 119, 3) := by decide +kernel
theorem dX8_addPart_53 : decode cX8_addPart 53 = .ok (.bipush 10, 2) := by decide +kernel
theorem dX8_addPart_55 : decode cX8_addPart 55 = .ok (.if_icmp .ge 17, 3) := by decide +kernel
theorem dX8_addPart_58 : decode cX8_addPart 58 = .ok (.aload_n 0, 1) := by decide +kernel
theorem dX8_addPart_59 : decode cX8_addPart 59 = .ok (.getfield 42, 3) := by decide +kernel
theorem dX8_addPart_62 : decode cX8_addPart 62 = .ok (.getfield 122, 3) := by decide +kernel
theorem dX8_addPart_65 : decode cX8_addPart 65 = .ok (.iload_n 2, 1) := by decide +kernel
theorem dX8_addPart_66 : decode cX8_addPart 66 = .ok (.iadd, 1) := by decide +kernel
theorem dX8_addPart_67 : decode cX8_addPart 67 = .ok (.bipush 60, 2) := by decide +kernel
theorem dX8_addPart_69 : decode cX8_addPart 69 = .ok (.if_icmp .le 11, 3) := by decide +kernel
theorem dX8_addPart_72 : decode cX8_addPart 72 = .ok (.new 81, 3) := by decide +kernel
theorem dX8_addPart_75 : decode cX8_addPart 75 = .ok (.dup, 1) := by decide +kernel
theorem dX8_addPart_76 : decode cX8_addPart 76 = .ok (.invokespecial 83, 3) := by decide +kernel
theorem dX8_addPart_79 : decode cX8_addPart 79 = .ok (.athrow, 1) := by decide +kernel
theorem dX8_addPart_80 : decode cX8_addPart 80 = .ok (.aload_n 0, 1) := by decide +kernel
theorem dX8_addPart_81 : decode cX8_addPart 81 = .ok (.invokevirtual 94, 3) := by decide +kernel
theorem dX8_addPart_84 : decode cX8_addPart 84 = .ok (.aload_n 0, 1) := by decide +kernel
theorem dX8_addPart_85 : decode cX8_addPart 85 = .ok (.getfield 42, 3) := by decide +kernel
theorem dX8_addPart_88 : decode cX8_addPart 88 = .ok (.getfield 119, 3) := by decide +kernel
theorem dX8_addPart_91 : decode cX8_addPart 91 = .ok (.iconst 1, 1) := by decide +kernel
theorem dX8_addPart_92 : decode cX8_addPart 92 = .ok (.isub, 1) := by decide +kernel
theorem dX8_addPart_93 : decode cX8_addPart 93 = .ok (.ireturn, 1) := by decide +kernel
theorem dX8_dropPart_0 : decode cX8_dropPart 0 = .ok (.aload_n 0, 1) := by decide +kernel
theorem dX8_dropPart_1 : decode cX8_dropPart 1 = .ok (.iload_n 1, 1) := by decide +kernel
theorem dX8_dropPart_2 : decode cX8_dropPart 2 = .ok (.invokevirtual 149, 3) := by decide +kernel
theorem dX8_dropPart_5 : decode cX8_dropPart 5 = .ok (.aload_n 0, 1) := by decide +kernel
theorem dX8_dropPart_6 : decode cX8_dropPart 6 = .ok (.iload_n 1, 1) := by decide +kernel
theorem dX8_dropPart_7 : decode cX8_dropPart 7 = .ok (.invokevirtual 263, 3) := by decide +kernel
theorem dX8_dropPart_10 : decode cX8_dropPart 10 = .ok (.aload_n 0, 1) := by decide +kernel
theorem dX8_dropPart_11 : decode cX8_dropPart 11 = .ok (.invokevirtual 278, 3) := by decide +kernel
theorem dX8_dropPart_14 : decode cX8_dropPart 14 = .ok (.aload_n 0, 1) := by decide +kernel
theorem dX8_dropPart_15 : decode cX8_dropPart 15 = .ok (.invokevirtual 94, 3) := by decide +kernel
theorem dX8_dropPart_18 : decode cX8_dropPart 18 = .ok (.aload_n 0, 1) := by decide +kernel
theorem dX8_dropPart_19 : decode cX8_dropPart 19 = .ok (.getfield 49, 3) := by decide +kernel
theorem dX8_dropPart_22 : decode cX8_dropPart 22 = .ok (.getfield 97, 3) := by decide +kernel
theorem dX8_dropPart_25 : decode cX8_dropPart 25 = .ok (.ireturn, 1) := by decide +kernel
theorem dX8_movePart_0 : decode cX8_movePart 0 = .ok (.aload_n 0, 1) := by decide +kernel
theorem dX8_movePart_1 : decode cX8_movePart 1 = .ok (.iload_n 1, 1) := by decide +kernel
theorem dX8_movePart_2 : decode cX8_movePart 2 = .ok (.invokevirtual 149, 3) := by decide +kernel
theorem dX8_movePart_5 : decode cX8_movePart 5 = .ok (.aload_n 0, 1) := by decide +kernel
theorem dX8_movePart_6 : decode cX8_movePart 6 = .ok (.iload_n 2, 1) := by decide +kernel
theorem dX8_movePart_7 : decode cX8_movePart 7 = .ok (.invokevirtual 149, 3) := by decide +kernel
theorem dX8_movePart_10 : decode cX8_movePart 10 = .ok (.aload_n 0, 1) := by decide +kernel
theorem dX8_movePart_11 : decode cX8_movePart 11 = .ok (.iload_n 1, 1) := by decide +kernel
theorem dX8_movePart_12 : decode cX8_movePart 12 = .ok (.iload_n 2, 1) := by decide +kernel
theorem dX8_movePart_13 : decode cX8_movePart 13 = .ok (.invokevirtual 266, 3) := by decide +kernel
theorem dX8_movePart_16 : decode cX8_movePart 16 = .ok (.aload_n 0, 1) := by decide +kernel
theorem dX8_movePart_17 : decode cX8_movePart 17 = .ok (.invokevirtual 278, 3) := by decide +kernel
theorem dX8_movePart_20 : decode cX8_movePart 20 = .ok (.aload_n 0, 1) := by decide +kernel
theorem dX8_movePart_21 : decode cX8_movePart 21 = .ok (.invokevirtual 94, 3) := by decide +kernel
theorem dX8_movePart_24 : decode cX8_movePart 24 = .ok (.aload_n 0, 1) := by decide +kernel
theorem dX8_movePart_25 : decode cX8_movePart 25 = .ok (.getfield 49, 3) := by decide +kernel
theorem dX8_movePart_28 : decode cX8_movePart 28 = .ok (.getfield 97, 3) := by decide +kernel
theorem dX8_movePart_31 : decode cX8_movePart 31 = .ok (.ireturn, 1) := by decide +kernel
theorem dX8_setFlaw_0 : decode cX8_setFlaw 0 = .ok (.aload_n 0, 1) := by decide +kernel
theorem dX8_setFlaw_1 : decode cX8_setFlaw 1 = .ok (.iload_n 1, 1) := by decide +kernel
theorem dX8_setFlaw_2 : decode cX8_setFlaw 2 = .ok (.iload_n 2, 1) := by decide +kernel
theorem dX8_setFlaw_3 : decode cX8_setFlaw 3 = .ok (.invokevirtual 204, 3) := by decide +kernel
theorem dX8_setFlaw_6 : decode cX8_setFlaw 6 = .ok (.aload_n 0, 1) := by decide +kernel
theorem dX8_setFlaw_7 : decode cX8_setFlaw 7 = .ok (.getfield 42, 3) := by decide +kernel
theorem dX8_setFlaw_10 : decode cX8_setFlaw 10 = .ok (.iload_n 1, 1) := by decide +kernel
theorem dX8_setFlaw_11 : decode cX8_setFlaw 11 = .ok (.iload_n 2, 1) := by decide +kernel
theorem dX8_setFlaw_12 : decode cX8_setFlaw 12 = .ok (.invokevirtual 208, 3) := by decide +kernel
theorem dX8_setFlaw_15 : decode cX8_setFlaw 15 = .ok (.istore 4, 2) := by decide +kernel
theorem dX8_setFlaw_17 : decode cX8_setFlaw 17 = .ok (.iload_n 3, 1) := by decide +kernel
theorem dX8_setFlaw_18 : decode cX8_setFlaw 18 = .ok (.ifCond .eq 28, 3) := by decide +kernel
theorem dX8_setFlaw_21 : decode cX8_setFlaw 21 = .ok (.iload 4, 2) := by decide +kernel
theorem dX8_setFlaw_23 : decode cX8_setFlaw 23 = .ok (.ifCond .ne 23, 3) := by decide +kernel
theorem dX8_setFlaw_26 : decode cX8_setFlaw 26 = .ok (.aload_n 0, 1) := by decide +kernel
theorem dX8_setFlaw_27 : decode cX8_setFlaw 27 = .ok (.getfield 42, 3) := by decide +kernel
theorem dX8_setFlaw_30 : decode cX8_setFlaw 30 = .ok (.invokevirtual 112, 3) := by decide +kernel
theorem dX8_setFlaw_33 : decode cX8_setFlaw 33 = .ok (.bipush 40, 2) := by decide +kernel
theorem dX8_setFlaw_35 : decode cX8_setFlaw 35 = .ok (.if_icmp .lt 11, 3) := by decide +kernel
theorem dX8_setFlaw_38 : decode cX8_setFlaw 38 = .ok (.new 81, 3) := by decide +kernel
theorem dX8_setFlaw_41 : decode cX8_setFlaw 41 = .ok (.dup, 1) := by decide +kernel
theorem dX8_setFlaw_42 : decode cX8_setFlaw 42 = .ok (.invokespecial 83, 3) := by decide +kernel
theorem dX8_setFlaw_45 : decode cX8_setFlaw 45 = .ok (.athrow, 1) := by decide +kernel
theorem dX8_setFlaw_46 : decode cX8_setFlaw 46 = .ok (.aload_n 0, 1) := by decide +kernel
theorem dX8_setFlaw_47 : decode cX8_setFlaw 47 = .ok (.getfield 53, 3) := by decide +kernel
theorem dX8_setFlaw_50 : decode cX8_setFlaw 50 = .ok (.aload_n 0, 1) := by decide +kernel
theorem dX8_setFlaw_51 : decode cX8_setFlaw 51 = .ok (.getfield 42, 3) := by decide +kernel
theorem dX8_setFlaw_54 : decode cX8_setFlaw 54 = .ok (.invokevirtual 241, 3) := by decide +kernel
theorem dX8_setFlaw_57 : decode cX8_setFlaw 57 = .ok (.aload_n 0, 1) := by decide +kernel
theorem dX8_setFlaw_58 : decode cX8_setFlaw 58 = .ok (.getfield 53, 3) := by decide +kernel
theorem dX8_setFlaw_61 : decode cX8_setFlaw 61 = .ok (.iload_n 1, 1) := by decide +kernel
theorem dX8_setFlaw_62 : decode cX8_setFlaw 62 = .ok (.iload_n 2, 1) := by decide +kernel
theorem dX8_setFlaw_63 : decode cX8_setFlaw 63 = .ok (.iload_n 3, 1) := by decide +kernel
theorem dX8_setFlaw_64 : decode cX8_setFlaw 64 = .ok (.invokevirtual 244, 3) := by decide +kernel
theorem dX8_setFlaw_67 : decode cX8_setFlaw 67 = .ok (.aload_n 0, 1) := by decide +kernel
theorem dX8_setFlaw_68 : decode cX8_setFlaw 68 = .ok (.invokevirtual 278, 3) := by decide +kernel
theorem dX8_setFlaw_71 : decode cX8_setFlaw 71 = .ok (.aload_n 0, 1) := by decide +kernel
theorem dX8_setFlaw_72 : decode cX8_setFlaw 72 = .ok (.invokevirtual 94, 3) := by decide +kernel
theorem dX8_setFlaw_75 : decode cX8_setFlaw 75 = .ok (.iload 4, 2) := by decide +kernel
theorem dX8_setFlaw_77 : decode cX8_setFlaw 77 = .ok (.ireturn, 1) := by decide +kernel
theorem dX8_setGap_0 : decode cX8_setGap 0 = .ok (.aload_n 0, 1) := by decide +kernel
theorem dX8_setGap_1 : decode cX8_setGap 1 = .ok (.iload_n 1, 1) := by decide +kernel
theorem dX8_setGap_2 : decode cX8_setGap 2 = .ok (.invokevirtual 257, 3) := by decide +kernel
theorem dX8_setGap_5 : decode cX8_setGap 5 = .ok (.aload_n 0, 1) := by decide +kernel
theorem dX8_setGap_6 : decode cX8_setGap 6 = .ok (.getfield 42, 3) := by decide +kernel
theorem dX8_setGap_9 : decode cX8_setGap 9 = .ok (.getfield 116, 3) := by decide +kernel
theorem dX8_setGap_12 : decode cX8_setGap 12 = .ok (.istore_n 2, 1) := by decide +kernel
theorem dX8_setGap_13 : decode cX8_setGap 13 = .ok (.aload_n 0, 1) := by decide +kernel
theorem dX8_setGap_14 : decode cX8_setGap 14 = .ok (.getfield 53, 3) := by decide +kernel
theorem dX8_setGap_17 : decode cX8_setGap 17 = .ok (.aload_n 0, 1) := by decide +kernel
theorem dX8_setGap_18 : decode cX8_setGap 18 = .ok (.getfield 42, 3) := by decide +kernel
theorem dX8_setGap_21 : decode cX8_setGap 21 = .ok (.invokevirtual 241, 3) := by decide +kernel
theorem dX8_setGap_24 : decode cX8_setGap 24 = .ok (.aload_n 0, 1) := by decide +kernel
theorem dX8_setGap_25 : decode cX8_setGap 25 = .ok (.getfield 53, 3) := by decide +kernel
theorem dX8_setGap_28 : decode cX8_setGap 28 = .ok (.iload_n 1, 1) := by decide +kernel
theorem dX8_setGap_29 : decode cX8_setGap 29 = .ok (.putfield 116, 3) := by decide +kernel
theorem dX8_setGap_32 : decode cX8_setGap 32 = .ok (.aload_n 0, 1) := by decide +kernel
theorem dX8_setGap_33 : decode cX8_setGap 33 = .ok (.invokevirtual 278, 3) := by decide +kernel
theorem dX8_setGap_36 : decode cX8_setGap 36 = .ok (.aload_n 0, 1) := by decide +kernel
theorem dX8_setGap_37 : decode cX8_setGap 37 = .ok (.invokevirtual 94, 3) := by decide +kernel
theorem dX8_setGap_40 : decode cX8_setGap 40 = .ok (.iload_n 2, 1) := by decide +kernel
theorem dX8_setGap_41 : decode cX8_setGap 41 = .ok (.ireturn, 1) := by decide +kernel
theorem dX8_turnSlab_0 : decode cX8_turnSlab 0 = .ok (.aload_n 0, 1) := by decide +kernel
theorem dX8_turnSlab_1 : decode cX8_turnSlab 1 = .ok (.getfield 42, 3) := by decide +kernel
theorem dX8_turnSlab_4 : decode cX8_turnSlab 4 = .ok (.getfield 128, 3) := by decide +kernel
theorem dX8_turnSlab_7 : decode cX8_turnSlab 7 = .ok (.ifCond .le 11, 3) := by decide +kernel
theorem dX8_turnSlab_10 : decode cX8_turnSlab 10 = .ok (.new 81, 3) := by decide +kernel
theorem dX8_turnSlab_13 : decode cX8_turnSlab 13 = .ok (.dup, 1) := by decide +kernel
theorem dX8_turnSlab_14 : decode cX8_turnSlab 14 = .ok (.invokespecial 83, 3) := by decide +kernel
theorem dX8_turnSlab_17 : decode cX8_turnSlab 17 = .ok (.athrow, 1) := by decide +kernel
theorem dX8_turnSlab_18 : decode cX8_turnSlab 18 = .ok (.aload_n 0, 1) := by decide +kernel
theorem dX8_turnSlab_19 : decode cX8_turnSlab 19 = .ok (.getfield 53, 3) := by decide +kernel
theorem dX8_turnSlab_22 : decode cX8_turnSlab 22 = .ok (.aload_n 0, 1) := by decide +kernel
theorem dX8_turnSlab_23 : decode cX8_turnSlab 23 = .ok (.getfield 42, 3) := by decide +kernel
theorem dX8_turnSlab_26 : decode cX8_turnSlab 26 = .ok (.invokevirtual 241, 3) := by decide +kernel
theorem dX8_turnSlab_29 : decode cX8_turnSlab 29 = .ok (.aload_n 0, 1) := by decide +kernel
theorem dX8_turnSlab_30 : decode cX8_turnSlab 30 = .ok (.getfield 53, 3) := by decide +kernel
theorem dX8_turnSlab_33 : decode cX8_turnSlab 33 = .ok (.aload_n 0, 1) := by decide +kernel
theorem dX8_turnSlab_34 : decode cX8_turnSlab 34 = .ok (.getfield 42, 3) := by decide +kernel
theorem dX8_turnSlab_37 : decode cX8_turnSlab 37 = .ok (.invokevirtual 260, 3) := by decide +kernel
theorem dX8_turnSlab_40 : decode cX8_turnSlab 40 = .ok (.aload_n 0, 1) := by decide +kernel
theorem dX8_turnSlab_41 : decode cX8_turnSlab 41 = .ok (.invokevirtual 94, 3) := by decide +kernel
theorem dX8_turnSlab_44 : decode cX8_turnSlab 44 = .ok (.aload_n 0, 1) := by decide +kernel
theorem dX8_turnSlab_45 : decode cX8_turnSlab 45 = .ok (.getfield 49, 3) := by decide +kernel
theorem dX8_turnSlab_48 : decode cX8_turnSlab 48 = .ok (.getfield 97, 3) := by decide +kernel
theorem dX8_turnSlab_51 : decode cX8_turnSlab 51 = .ok (.ireturn, 1) := by decide +kernel
theorem dX8_cutRows_0 : decode cX8_cutRows 0 = .ok (.iload_n 1, 1) := by decide +kernel
theorem dX8_cutRows_1 : decode cX8_cutRows 1 = .ok (.iconst 1, 1) := by decide +kernel
theorem dX8_cutRows_2 : decode cX8_cutRows 2 = .ok (.if_icmp .lt 16, 3) := by decide +kernel
theorem dX8_cutRows_5 : decode cX8_cutRows 5 = .ok (.iload_n 1, 1) := by decide +kernel
theorem dX8_cutRows_6 : decode cX8_cutRows 6 = .ok (.aload_n 0, 1) := by decide +kernel
theorem dX8_cutRows_7 : decode cX8_cutRows 7 = .ok (.getfield 42, 3) := by decide +kernel
theorem dX8_cutRows_10 : decode cX8_cutRows 10 = .ok (.getfield 109, 3) := by decide +kernel
theorem dX8_cutRows_13 : decode cX8_cutRows 13 = .ok (.iconst 2, 1) := by decide +kernel
theorem dX8_cutRows_14 : decode cX8_cutRows 14 = .ok (.isub, 1) := by decide +kernel
theorem dX8_cutRows_15 : decode cX8_cutRows 15 = .ok (.if_icmp .le 11, 3) := by decide +kernel
theorem dX8_cutRows_18 : decode cX8_cutRows 18 = .ok (.new 87, 3) := by decide +kernel
theorem dX8_cutRows_21 : decode cX8_cutRows 21 = .ok (.dup, 1) := by decide +kernel
theorem dX8_cutRows_22 : decode cX8_cutRows 22 = .ok (.invokespecial 89, 3) := by decide +kernel
theorem dX8_cutRows_25 : decode cX8_cutRows 25 = .ok (.athrow, 1) := by decide +kernel
theorem dX8_cutRows_26 : decode cX8_cutRows 26 = .ok (.iload_n 2, 1) := by decide +kernel
theorem dX8_cutRows_27 : decode cX8_cutRows 27 = .ok (.ifCond .eq 21, 3) := by decide +kernel
theorem dX8_cutRows_30 : decode cX8_cutRows 30 = .ok (.aload_n 0, 1) := by decide +kernel
theorem dX8_cutRows_31 : decode cX8_cutRows 31 = .ok (.getfield 42, 3) := by decide +kernel
theorem dX8_cutRows_34 : decode cX8_cutRows 34 = .ok (.getfield 128, 3) := by decide +kernel
theorem dX8_cutRows_37 : decode cX8_cutRows 37 = .ok (.ifCond .le 11, 3) := by decide +kernel
theorem dX8_cutRows_40 : decode cX8_cutRows 40 = .ok (.new 81, 3) := by decide +kernel
theorem dX8_cutRows_43 : decode cX8_cutRows 43 = .ok (.dup, 1) := by decide +kernel
theorem dX8_cutRows_44 : decode cX8_cutRows 44 = .ok (.invokespecial 83, 3) := by decide +kernel
theorem dX8_cutRows_47 : decode cX8_cutRows 47 = .ok (.athrow, 1) := by decide +kernel
theorem dX8_cutRows_48 : decode cX8_cutRows 48 = .ok (.aload_n 0, 1) := by decide +kernel
theorem dX8_cutRows_49 : decode cX8_cutRows 49 = .ok (.getfield 53, 3) := by decide +kernel
theorem dX8_cutRows_52 : decode cX8_cutRows 52 = .ok (.aload_n 0, 1) := by decide +kernel
theorem dX8_cutRows_53 : decode cX8_cutRows 53 = .ok (.getfield 42, 3) := by decide +kernel
theorem dX8_cutRows_56 : decode cX8_cutRows 56 = .ok (.invokevirtual 241, 3) := by decide +kernel
theorem dX8_cutRows_59 : decode cX8_cutRows 59 = .ok (.aload_n 0, 1) := by decide +kernel
theorem dX8_cutRows_60 : decode cX8_cutRows 60 = .ok (.getfield 53, 3) := by decide +kernel
theorem dX8_cutRows_63 : decode cX8_cutRows 63 = .ok (.iload_n 1, 1) := by decide +kernel
theorem dX8_cutRows_64 : decode cX8_cutRows 64 = .ok (.iload_n 2, 1) := by decide +kernel
theorem dX8_cutRows_65 : decode cX8_cutRows 65 = .ok (.invokevirtual 281, 3) := by decide +kernel
theorem dX8_cutRows_68 : decode cX8_cutRows 68 = .ok (.aload_n 0, 1) := by decide +kernel
theorem dX8_cutRows_69 : decode cX8_cutRows 69 = .ok (.invokevirtual 278, 3) := by decide +kernel
theorem dX8_cutRows_72 : decode cX8_cutRows 72 = .ok (.aload_n 0, 1) := by decide +kernel
theorem dX8_cutRows_73 : decode cX8_cutRows 73 = .ok (.invokevirtual 94, 3) := by decide +kernel
theorem dX8_cutRows_76 : decode cX8_cutRows 76 = .ok (.aload_n 0, 1) := by decide +kernel
theorem dX8_cutRows_77 : decode cX8_cutRows 77 = .ok (.getfield 49, 3) := by decide +kernel
theorem dX8_cutRows_80 : decode cX8_cutRows 80 = .ok (.getfield 97, 3) := by decide +kernel
theorem dX8_cutRows_83 : decode cX8_cutRows 83 = .ok (.ireturn, 1) := by decide +kernel
theorem dX8_carve_0 : decode cX8_carve 0 = .ok (.iload_n 1, 1) := by decide +kernel
theorem dX8_carve_1 : decode cX8_carve 1 = .ok (.iconst 1, 1) := by decide +kernel
theorem dX8_carve_2 : decode cX8_carve 2 = .ok (.if_icmp .lt 10, 3) := by decide +kernel
theorem dX8_carve_5 : decode cX8_carve 5 = .ok (.iload_n 1, 1) := by decide +kernel
theorem dX8_carve_6 : decode cX8_carve 6 = .ok (.sipush 300, 3) := by decide +kernel
theorem dX8_carve_9 : decode cX8_carve 9 = .ok (.if_icmp .le 11, 3) := by decide +kernel
theorem dX8_carve_12 : decode cX8_carve 12 = .ok (.new 87, 3) := by decide +kernel
theorem dX8_carve_15 : decode cX8_carve 15 = .ok (.dup, 1) := by decide +kernel
theorem dX8_carve_16 : decode cX8_carve 16 = .ok (.invokespecial 89, 3) := by decide +kernel
theorem dX8_carve_19 : decode cX8_carve 19 = .ok (.athrow, 1) := by decide +kernel
theorem dX8_carve_20 : decode cX8_carve 20 = .ok (.aload_n 0, 1) := by decide +kernel
theorem dX8_carve_21 : decode cX8_carve 21 = .ok (.getfield 42, 3) := by decide +kernel
theorem dX8_carve_24 : decode cX8_carve 24 = .ok (.getfield 131, 3) := by decide +kernel
theorem dX8_carve_27 : decode cX8_carve 27 = .ok (.getfield 143, 3) := by decide +kernel
theorem dX8_carve_30 : decode cX8_carve 30 = .ok (.istore_n 2, 1) := by decide +kernel
theorem dX8_carve_31 : decode cX8_carve 31 = .ok (.aload_n 0, 1) := by decide +kernel
theorem dX8_carve_32 : decode cX8_carve 32 = .ok (.getfield 42, 3) := by decide +kernel
theorem dX8_carve_35 : decode cX8_carve 35 = .ok (.getfield 128, 3) := by decide +kernel
theorem dX8_carve_38 : decode cX8_carve 38 = .ok (.iload_n 1, 1) := by decide +kernel
theorem dX8_carve_39 : decode cX8_carve 39 = .ok (.iadd, 1) := by decide +kernel
theorem dX8_carve_40 : decode cX8_carve 40 = .ok (.aload_n 0, 1) := by decide +kernel
theorem dX8_carve_41 : decode cX8_carve 41 = .ok (.getfield 49, 3) := by decide +kernel
theorem dX8_carve_44 : decode cX8_carve 44 = .ok (.getfield 125, 3) := by decide +kernel
theorem dX8_carve_47 : decode cX8_carve 47 = .ok (.invokestatic 165, 3) := by decide +kernel
theorem dX8_carve_50 : decode cX8_carve 50 = .ok (.istore_n 3, 1) := by decide +kernel
theorem dX8_carve_51 : decode cX8_carve 51 = .ok (.aload_n 0, 1) := by decide +kernel
theorem dX8_carve_52 : decode cX8_carve 52 = .ok (.getfield 53, 3) := by decide +kernel
theorem dX8_carve_55 : decode cX8_carve 55 = .ok (.aload_n 0, 1) := by decide +kernel
theorem dX8_carve_56 : decode cX8_carve 56 = .ok (.getfield 42, 3) := by decide +kernel
theorem dX8_carve_59 : decode cX8_carve 59 = .ok (.invokevirtual 241, 3) := by decide +kernel
theorem dX8_carve_62 : decode cX8_carve 62 = .ok (.aload_n 0, 1) := by decide +kernel
theorem dX8_carve_63 : decode cX8_carve 63 = .ok (.getfield 42, 3) := by decide +kernel
theorem dX8_carve_66 : decode cX8_carve 66 = .ok (.getfield 128, 3) := by decide +kernel
theorem dX8_carve_69 : decode cX8_carve 69 = .ok (.istore 4, 2) := by decide +kernel
theorem dX8_carve_71 : decode cX8_carve 71 = .ok (.iload 4, 2) := by decide +kernel
theorem dX8_carve_73 : decode cX8_carve 73 = .ok (.iload_n 3, 1) := by decide +kernel
theorem dX8_carve_74 : decode cX8_carve 74 = .ok (.if_icmp .ge 31, 3) := by decide +kernel
theorem dX8_carve_77 : decode cX8_carve 77 = .ok (.aload_n 0, 1) := by decide +kernel
theorem dX8_carve_78 : decode cX8_carve 78 = .ok (.getfield 53, 3) := by decide +kernel
theorem dX8_carve_81 : decode cX8_carve 81 = .ok (.getfield 131, 3) := by decide +kernel
theorem dX8_carve_84 : decode cX8_carve 84 = .ok (.aload_n 0, 1) := by decide +kernel
theorem dX8_carve_85 : decode cX8_carve 85 = .ok (.getfield 49, 3) := by decide +kernel
theorem dX8_carve_88 : decode cX8_carve 88 = .ok (.getfield 229, 3) := by decide +kernel
theorem dX8_carve_91 : decode cX8_carve 91 = .ok (.iload 4, 2) := by decide +kernel
theorem dX8_carve_93 : decode cX8_carve 93 = .ok (.invokevirtual 160, 3) := by decide +kernel
theorem dX8_carve_96 : decode cX8_carve 96 = .ok (.invokevirtual 232, 3) := by decide +kernel
theorem dX8_carve_99 : decode cX8_carve 99 = .ok (.iinc 4 1, 3) := by decide +kernel
theorem dX8_carve_102 : decode cX8_carve 102 = .ok (.goto (-31), 3) := by decide +kernel
theorem dX8_carve_105 : decode cX8_carve 105 = .ok (.aload_n 0, 1) := by decide +kernel
theorem dX8_carve_106 : decode cX8_carve 106 = .ok (.getfield 53, 3) := by decide +kernel
theorem dX8_carve_109 : decode cX8_carve 109 = .ok (.iload_n 3, 1) := by decide +kernel
theorem dX8_carve_110 : decode cX8_carve 110 = .ok (.putfield 128, 3) := by decide +kernel
theorem dX8_carve_113 : decode cX8_carve 113 = .ok (.aload_n 0, 1) := by decide +kernel
theorem dX8_carve_114 : decode cX8_carve 114 = .ok (.invokevirtual 94, 3) := by decide +kernel
theorem dX8_carve_117 : decode cX8_carve 117 = .ok (.aload_n 0, 1) := by decide +kernel
theorem dX8_carve_118 : decode cX8_carve 118 = .ok (.getfield 42, 3) := by decide +kernel
theorem dX8_carve_121 : decode cX8_carve 121 = .ok (.getfield 131, 3) := by decide +kernel
theorem dX8_carve_124 : decode cX8_carve 124 = .ok (.getfield 143, 3) := by decide +kernel
theorem dX8_carve_127 : decode cX8_carve 127 = .ok (.iload_n 2, 1) := by decide +kernel
theorem dX8_carve_128 : decode cX8_carve 128 = .ok (.isub, 1) := by decide +kernel
theorem dX8_carve_129 : decode cX8_carve 129 = .ok (.ireturn, 1) := by decide +kernel
theorem dX8_sharpen_0 : decode cX8_sharpen 0 = .ok (.aload_n 0, 1) := by decide +kernel
theorem dX8_sharpen_1 : decode cX8_sharpen 1 = .ok (.getfield 42, 3) := by decide +kernel
theorem dX8_sharpen_4 : decode cX8_sharpen 4 = .ok (.getfield 131, 3) := by decide +kernel
theorem dX8_sharpen_7 : decode cX8_sharpen 7 = .ok (.getfield 134, 3) := by decide +kernel
theorem dX8_sharpen_10 : decode cX8_sharpen 10 = .ok (.istore_n 1, 1) := by decide +kernel
theorem dX8_sharpen_11 : decode cX8_sharpen 11 = .ok (.aload_n 0, 1) := by decide +kernel
theorem dX8_sharpen_12 : decode cX8_sharpen 12 = .ok (.getfield 53, 3) := by decide +kernel
theorem dX8_sharpen_15 : decode cX8_sharpen 15 = .ok (.aload_n 0, 1) := by decide +kernel
theorem dX8_sharpen_16 : decode cX8_sharpen 16 = .ok (.getfield 42, 3) := by decide +kernel
theorem dX8_sharpen_19 : decode cX8_sharpen 19 = .ok (.invokevirtual 241, 3) := by decide +kernel
theorem dX8_sharpen_22 : decode cX8_sharpen 22 = .ok (.aload_n 0, 1) := by decide +kernel
theorem dX8_sharpen_23 : decode cX8_sharpen 23 = .ok (.getfield 53, 3) := by decide +kernel
theorem dX8_sharpen_26 : decode cX8_sharpen 26 = .ok (.getfield 131, 3) := by decide +kernel
theorem dX8_sharpen_29 : decode cX8_sharpen 29 = .ok (.invokevirtual 285, 3) := by decide +kernel
theorem dX8_sharpen_32 : decode cX8_sharpen 32 = .ok (.aload_n 0, 1) := by decide +kernel
theorem dX8_sharpen_33 : decode cX8_sharpen 33 = .ok (.invokevirtual 94, 3) := by decide +kernel
theorem dX8_sharpen_36 : decode cX8_sharpen 36 = .ok (.iload_n 1, 1) := by decide +kernel
theorem dX8_sharpen_37 : decode cX8_sharpen 37 = .ok (.ireturn, 1) := by decide +kernel
theorem dX8_setChisel_0 : decode cX8_setChisel 0 = .ok (.iload_n 1, 1) := by decide +kernel
theorem dX8_setChisel_1 : decode cX8_setChisel 1 = .ok (.iconst 1, 1) := by decide +kernel
theorem dX8_setChisel_2 : decode cX8_setChisel 2 = .ok (.if_icmp .lt 20, 3) := by decide +kernel
theorem dX8_setChisel_5 : decode cX8_setChisel 5 = .ok (.iload_n 1, 1) := by decide +kernel
theorem dX8_setChisel_6 : decode cX8_setChisel 6 = .ok (.sipush 999, 3) := by decide +kernel
theorem dX8_setChisel_9 : decode cX8_setChisel 9 = .ok (.if_icmp .gt 13, 3) := by decide +kernel
theorem dX8_setChisel_12 : decode cX8_setChisel 12 = .ok (.iload_n 2, 1) := by decide +kernel
theorem dX8_setChisel_13 : decode cX8_setChisel 13 = .ok (.ifCond .lt 9, 3) := by decide +kernel
theorem dX8_setChisel_16 : decode cX8_setChisel 16 = .ok (.iload_n 2, 1) := by decide +kernel
theorem dX8_setChisel_17 : decode cX8_setChisel 17 = .ok (.bipush 99, 2) := by decide +kernel
theorem dX8_setChisel_19 : decode cX8_setChisel 19 = .ok (.if_icmp .le 11, 3) := by decide +kernel
theorem dX8_setChisel_22 : decode cX8_setChisel 22 = .ok (.new 87, 3) := by decide +kernel
theorem dX8_setChisel_25 : decode cX8_setChisel 25 = .ok (.dup, 1) := by decide +kernel
theorem dX8_setChisel_26 : decode cX8_setChisel 26 = .ok (.invokespecial 89, 3) := by decide +kernel
theorem dX8_setChisel_29 : decode cX8_setChisel 29 = .ok (.athrow, 1) := by decide +kernel
theorem dX8_setChisel_30 : decode cX8_setChisel 30 = .ok (.bipush 100, 2) := by decide +kernel
theorem dX8_setChisel_32 : decode cX8_setChisel 32 = .ok (.aload_n 0, 1) := by decide +kernel
theorem dX8_setChisel_33 : decode cX8_setChisel 33 = .ok (.getfield 42, 3) := by decide +kernel
theorem dX8_setChisel_36 : decode cX8_setChisel 36 = .ok (.getfield 131, 3) := by decide +kernel
theorem dX8_setChisel_39 : decode cX8_setChisel 39 = .ok (.getfield 137, 3) := by decide +kernel
theorem dX8_setChisel_42 : decode cX8_setChisel 42 = .ok (.imul, 1) := by decide +kernel
theorem dX8_setChisel_43 : decode cX8_setChisel 43 = .ok (.aload_n 0, 1) := by decide +kernel
theorem dX8_setChisel_44 : decode cX8_setChisel 44 = .ok (.getfield 42, 3) := by decide +kernel
theorem dX8_setChisel_47 : decode cX8_setChisel 47 = .ok (.getfield 131, 3) := by decide +kernel
theorem dX8_setChisel_50 : decode cX8_setChisel 50 = .ok (.getfield 140, 3) := by decide +kernel
theorem dX8_setChisel_53 : decode cX8_setChisel 53 = .ok (.iadd, 1) := by decide +kernel
theorem dX8_setChisel_54 : decode cX8_setChisel 54 = .ok (.istore_n 3, 1) := by decide +kernel
theorem dX8_setChisel_55 : decode cX8_setChisel 55 = .ok (.aload_n 0, 1) := by decide +kernel
theorem dX8_setChisel_56 : decode cX8_setChisel 56 = .ok (.getfield 53, 3) := by decide +kernel
theorem dX8_setChisel_59 : decode cX8_setChisel 59 = .ok (.aload_n 0, 1) := by decide +kernel
theorem dX8_setChisel_60 : decode cX8_setChisel 60 = .ok (.getfield 42, 3) := by decide +kernel
theorem dX8_setChisel_63 : decode cX8_setChisel 63 = .ok (.invokevirtual 241, 3) := by decide +kernel
theorem dX8_setChisel_66 : decode cX8_setChisel 66 = .ok (.aload_n 0, 1) := by decide +kernel
theorem dX8_setChisel_67 : decode cX8_setChisel 67 = .ok (.getfield 53, 3) := by decide +kernel
theorem dX8_setChisel_70 : decode cX8_setChisel 70 = .ok (.getfield 131, 3) := by decide +kernel
theorem dX8_setChisel_73 : decode cX8_setChisel 73 = .ok (.iload_n 1, 1) := by decide +kernel
theorem dX8_setChisel_74 : decode cX8_setChisel 74 = .ok (.iload_n 2, 1) := by decide +kernel
theorem dX8_setChisel_75 : decode cX8_setChisel 75 = .ok (.invokevirtual 235, 3) := by decide +kernel
theorem dX8_setChisel_78 : decode cX8_setChisel 78 = .ok (.aload_n 0, 1) := by decide +kernel
theorem dX8_setChisel_79 : decode cX8_setChisel 79 = .ok (.invokevirtual 94, 3) := by decide +kernel
theorem dX8_setChisel_82 : decode cX8_setChisel 82 = .ok (.iload_n 3, 1) := by decide +kernel
theorem dX8_setChisel_83 : decode cX8_setChisel 83 = .ok (.ireturn, 1) := by decide +kernel
theorem dX8_needPart_0 : decode cX8_needPart 0 = .ok (.iload_n 1, 1) := by decide +kernel
theorem dX8_needPart_1 : decode cX8_needPart 1 = .ok (.ifCond .lt 14, 3) := by decide +kernel
theorem dX8_needPart_4 : decode cX8_needPart 4 = .ok (.iload_n 1, 1) := by decide +kernel
theorem dX8_needPart_5 : decode cX8_needPart 5 = .ok (.aload_n 0, 1) := by decide +kernel
theorem dX8_needPart_6 : decode cX8_needPart 6 = .ok (.getfield 42, 3) := by decide +kernel
theorem dX8_needPart_9 : decode cX8_needPart 9 = .ok (.getfield 119, 3) := by decide +kernel
theorem dX8_needPart_12 : decode cX8_needPart 12 = .ok (.if_icmp .lt 11, 3) := by decide +kernel
theorem dX8_needPart_15 : decode cX8_needPart 15 = .ok (.new 198, 3) := by decide +kernel
theorem dX8_needPart_18 : decode cX8_needPart 18 = .ok (.dup, 1) := by decide +kernel
theorem dX8_needPart_19 : decode cX8_needPart 19 = .ok (.invokespecial 200, 3) := by decide +kernel
theorem dX8_needPart_22 : decode cX8_needPart 22 = .ok (.athrow, 1) := by decide +kernel
theorem dX8_needPart_23 : decode cX8_needPart 23 = .ok (.return_, 1) := by decide +kernel
theorem dX8_needWord_0 : decode cX8_needWord 0 = .ok (.iload_n 1, 1) := by decide +kernel
theorem dX8_needWord_1 : decode cX8_needWord 1 = .ok (.ifCond .lt 14, 3) := by decide +kernel
theorem dX8_needWord_4 : decode cX8_needWord 4 = .ok (.iload_n 1, 1) := by decide +kernel
theorem dX8_needWord_5 : decode cX8_needWord 5 = .ok (.aload_n 0, 1) := by decide +kernel
theorem dX8_needWord_6 : decode cX8_needWord 6 = .ok (.getfield 42, 3) := by decide +kernel
theorem dX8_needWord_9 : decode cX8_needWord 9 = .ok (.getfield 122, 3) := by decide +kernel
theorem dX8_needWord_12 : decode cX8_needWord 12 = .ok (.if_icmp .lt 11, 3) := by decide +kernel
theorem dX8_needWord_15 : decode cX8_needWord 15 = .ok (.new 198, 3) := by decide +kernel
theorem dX8_needWord_18 : decode cX8_needWord 18 = .ok (.dup, 1) := by decide +kernel
theorem dX8_needWord_19 : decode cX8_needWord 19 = .ok (.invokespecial 200, 3) := by decide +kernel
theorem dX8_needWord_22 : decode cX8_needWord 22 = .ok (.athrow, 1) := by decide +kernel
end
section
theorem dX8_needWord_23 : decode cX8_needWord 23 = .ok (.return_, 1) := by decide +kernel
theorem dX8_needRow_0 : decode cX8_needRow 0 = .ok (.iload_n 1, 1) := by decide +kernel
theorem dX8_needRow_1 : decode cX8_needRow 1 = .ok (.ifCond .lt 14, 3) := by decide +kernel
theorem dX8_needRow_4 : decode cX8_needRow 4 = .ok (.iload_n 1, 1) := by decide +kernel
theorem dX8_needRow_5 : decode cX8_needRow 5 = .ok (.aload_n 0, 1) := by decide +kernel
theorem dX8_needRow_6 : decode cX8_needRow 6 = .ok (.getfield 42, 3) := by decide +kernel
theorem dX8_needRow_9 : decode cX8_needRow 9 = .ok (.getfield 109, 3) := by decide +kernel
theorem dX8_needRow_12 : decode cX8_needRow 12 = .ok (.if_icmp .lt 11, 3) := by decide +kernel
theorem dX8_needRow_15 : decode cX8_needRow 15 = .ok (.new 198, 3) := by decide +kernel
theorem dX8_needRow_18 : decode cX8_needRow 18 = .ok (.dup, 1) := by decide +kernel
theorem dX8_needRow_19 : decode cX8_needRow 19 = .ok (.invokespecial 200, 3) := by decide +kernel
theorem dX8_needRow_22 : decode cX8_needRow 22 = .ok (.athrow, 1) := by decide +kernel
theorem dX8_needRow_23 : decode cX8_needRow 23 = .ok (.return_, 1) := by decide +kernel
theorem dX8_needCell_0 : decode cX8_needCell 0 = .ok (.aload_n 0, 1) := by decide +kernel
theorem dX8_needCell_1 : decode cX8_needCell 1 = .ok (.iload_n 2, 1) := by decide +kernel
theorem dX8_needCell_2 : decode cX8_needCell 2 = .ok (.invokevirtual 216, 3) := by decide +kernel
theorem dX8_needCell_5 : decode cX8_needCell 5 = .ok (.iload_n 1, 1) := by decide +kernel
theorem dX8_needCell_6 : decode cX8_needCell 6 = .ok (.ifCond .lt 14, 3) := by decide +kernel
theorem dX8_needCell_9 : decode cX8_needCell 9 = .ok (.iload_n 1, 1) := by decide +kernel
theorem dX8_needCell_10 : decode cX8_needCell 10 = .ok (.aload_n 0, 1) := by decide +kernel
theorem dX8_needCell_11 : decode cX8_needCell 11 = .ok (.getfield 42, 3) := by decide +kernel
theorem dX8_needCell_14 : decode cX8_needCell 14 = .ok (.getfield 106, 3) := by decide +kernel
theorem dX8_needCell_17 : decode cX8_needCell 17 = .ok (.if_icmp .lt 11, 3) := by decide +kernel
theorem dX8_needCell_20 : decode cX8_needCell 20 = .ok (.new 198, 3) := by decide +kernel
theorem dX8_needCell_23 : decode cX8_needCell 23 = .ok (.dup, 1) := by decide +kernel
theorem dX8_needCell_24 : decode cX8_needCell 24 = .ok (.invokespecial 200, 3) := by decide +kernel
theorem dX8_needCell_27 : decode cX8_needCell 27 = .ok (.athrow, 1) := by decide +kernel
theorem dX8_needCell_28 : decode cX8_needCell 28 = .ok (.return_, 1) := by decide +kernel
theorem dX8_needGap_0 : decode cX8_needGap 0 = .ok (.iload_n 1, 1) := by decide +kernel
theorem dX8_needGap_1 : decode cX8_needGap 1 = .ok (.ifCond .lt 8, 3) := by decide +kernel
theorem dX8_needGap_4 : decode cX8_needGap 4 = .ok (.iload_n 1, 1) := by decide +kernel
theorem dX8_needGap_5 : decode cX8_needGap 5 = .ok (.iconst 3, 1) := by decide +kernel
theorem dX8_needGap_6 : decode cX8_needGap 6 = .ok (.if_icmp .le 11, 3) := by decide +kernel
theorem dX8_needGap_9 : decode cX8_needGap 9 = .ok (.new 87, 3) := by decide +kernel
theorem dX8_needGap_12 : decode cX8_needGap 12 = .ok (.dup, 1) := by decide +kernel
theorem dX8_needGap_13 : decode cX8_needGap 13 = .ok (.invokespecial 89, 3) := by decide +kernel
theorem dX8_needGap_16 : decode cX8_needGap 16 = .ok (.athrow, 1) := by decide +kernel
theorem dX8_needGap_17 : decode cX8_needGap 17 = .ok (.return_, 1) := by decide +kernel
theorem dX8_tryWithout_0 : decode cX8_tryWithout 0 = .ok (.aload_n 0, 1) := by decide +kernel
theorem dX8_tryWithout_1 : decode cX8_tryWithout 1 = .ok (.getfield 53, 3) := by decide +kernel
theorem dX8_tryWithout_4 : decode cX8_tryWithout 4 = .ok (.aload_n 0, 1) := by decide +kernel
theorem dX8_tryWithout_5 : decode cX8_tryWithout 5 = .ok (.getfield 42, 3) := by decide +kernel
theorem dX8_tryWithout_8 : decode cX8_tryWithout 8 = .ok (.invokevirtual 241, 3) := by decide +kernel
theorem dX8_tryWithout_11 : decode cX8_tryWithout 11 = .ok (.aload_n 0, 1) := by decide +kernel
theorem dX8_tryWithout_12 : decode cX8_tryWithout 12 = .ok (.getfield 53, 3) := by decide +kernel
theorem dX8_tryWithout_15 : decode cX8_tryWithout 15 = .ok (.invokevirtual 318, 3) := by decide +kernel
theorem dX8_tryWithout_18 : decode cX8_tryWithout 18 = .ok (.iconst 0, 1) := by decide +kernel
theorem dX8_tryWithout_19 : decode cX8_tryWithout 19 = .ok (.istore_n 2, 1) := by decide +kernel
theorem dX8_tryWithout_20 : decode cX8_tryWithout 20 = .ok (.iload_n 2, 1) := by decide +kernel
theorem dX8_tryWithout_21 : decode cX8_tryWithout 21 = .ok (.aload_n 0, 1) := by decide +kernel
theorem dX8_tryWithout_22 : decode cX8_tryWithout 22 = .ok (.getfield 42, 3) := by decide +kernel
theorem dX8_tryWithout_25 : decode cX8_tryWithout 25 = .ok (.getfield 119, 3) := by decide +kernel
theorem dX8_tryWithout_28 : decode cX8_tryWithout 28 = .ok (.if_icmp .ge 26, 3) := by decide +kernel
theorem dX8_tryWithout_31 : decode cX8_tryWithout 31 = .ok (.iload_n 2, 1) := by decide +kernel
theorem dX8_tryWithout_32 : decode cX8_tryWithout 32 = .ok (.iload_n 1, 1) := by decide +kernel
theorem dX8_tryWithout_33 : decode cX8_tryWithout 33 = .ok (.if_icmp .eq 15, 3) := by decide +kernel
theorem dX8_tryWithout_36 : decode cX8_tryWithout 36 = .ok (.aload_n 0, 1) := by decide +kernel
theorem dX8_tryWithout_37 : decode cX8_tryWithout 37 = .ok (.getfield 53, 3) := by decide +kernel
theorem dX8_tryWithout_40 : decode cX8_tryWithout 40 = .ok (.aload_n 0, 1) := by decide +kernel
theorem dX8_tryWithout_41 : decode cX8_tryWithout 41 = .ok (.getfield 42, 3) := by decide +kernel
theorem dX8_tryWithout_44 : decode cX8_tryWithout 44 = .ok (.iload_n 2, 1) := by decide +kernel
theorem dX8_tryWithout_45 : decode cX8_tryWithout 45 = .ok (.invokevirtual 321, 3) := by decide +kernel
theorem dX8_tryWithout_48 : decode cX8_tryWithout 48 = .ok (.iinc 2 1, 3) := by decide +kernel
theorem dX8_tryWithout_51 : decode cX8_tryWithout 51 = .ok (.goto (-31), 3) := by decide +kernel
theorem dX8_tryWithout_54 : decode cX8_tryWithout 54 = .ok (.return_, 1) := by decide +kernel
theorem dX8_tryMoved_0 : decode cX8_tryMoved 0 = .ok (.aload_n 0, 1) := by decide +kernel
theorem dX8_tryMoved_1 : decode cX8_tryMoved 1 = .ok (.getfield 53, 3) := by decide +kernel
theorem dX8_tryMoved_4 : decode cX8_tryMoved 4 = .ok (.aload_n 0, 1) := by decide +kernel
theorem dX8_tryMoved_5 : decode cX8_tryMoved 5 = .ok (.getfield 42, 3) := by decide +kernel
theorem dX8_tryMoved_8 : decode cX8_tryMoved 8 = .ok (.invokevirtual 241, 3) := by decide +kernel
theorem dX8_tryMoved_11 : decode cX8_tryMoved 11 = .ok (.aload_n 0, 1) := by decide +kernel
theorem dX8_tryMoved_12 : decode cX8_tryMoved 12 = .ok (.getfield 53, 3) := by decide +kernel
theorem dX8_tryMoved_15 : decode cX8_tryMoved 15 = .ok (.invokevirtual 318, 3) := by decide +kernel
theorem dX8_tryMoved_18 : decode cX8_tryMoved 18 = .ok (.iconst 0, 1) := by decide +kernel
theorem dX8_tryMoved_19 : decode cX8_tryMoved 19 = .ok (.istore_n 3, 1) := by decide +kernel
theorem dX8_tryMoved_20 : decode cX8_tryMoved 20 = .ok (.iload_n 3, 1) := by decide +kernel
theorem dX8_tryMoved_21 : decode cX8_tryMoved 21 = .ok (.aload_n 0, 1) := by decide +kernel
theorem dX8_tryMoved_22 : decode cX8_tryMoved 22 = .ok (.getfield 42, 3) := by decide +kernel
theorem dX8_tryMoved_25 : decode cX8_tryMoved 25 = .ok (.getfield 119, 3) := by decide +kernel
theorem dX8_tryMoved_28 : decode cX8_tryMoved 28 = .ok (.if_icmp .ge 26, 3) := by decide +kernel
theorem dX8_tryMoved_31 : decode cX8_tryMoved 31 = .ok (.aload_n 0, 1) := by decide +kernel
theorem dX8_tryMoved_32 : decode cX8_tryMoved 32 = .ok (.getfield 53, 3) := by decide +kernel
theorem dX8_tryMoved_35 : decode cX8_tryMoved 35 = .ok (.aload_n 0, 1) := by decide +kernel
theorem dX8_tryMoved_36 : decode cX8_tryMoved 36 = .ok (.getfield 42, 3) := by decide +kernel
theorem dX8_tryMoved_39 : decode cX8_tryMoved 39 = .ok (.iload_n 3, 1) := by decide +kernel
theorem dX8_tryMoved_40 : decode cX8_tryMoved 40 = .ok (.iload_n 1, 1) := by decide +kernel
theorem dX8_tryMoved_41 : decode cX8_tryMoved 41 = .ok (.iload_n 2, 1) := by decide +kernel
theorem dX8_tryMoved_42 : decode cX8_tryMoved 42 = .ok (.invokestatic 325, 3) := by decide +kernel
theorem dX8_tryMoved_45 : decode cX8_tryMoved 45 = .ok (.invokevirtual 321, 3) := by decide +kernel
theorem dX8_tryMoved_48 : decode cX8_tryMoved 48 = .ok (.iinc 3 1, 3) := by decide +kernel
theorem dX8_tryMoved_51 : decode cX8_tryMoved 51 = .ok (.goto (-31), 3) := by decide +kernel
theorem dX8_tryMoved_54 : decode cX8_tryMoved 54 = .ok (.return_, 1) := by decide +kernel
theorem dX8_partForPlace_0 : decode cX8_partForPlace 0 = .ok (.iload_n 0, 1) := by decide +kernel
theorem dX8_partForPlace_1 : decode cX8_partForPlace 1 = .ok (.iload_n 2, 1) := by decide +kernel
theorem dX8_partForPlace_2 : decode cX8_partForPlace 2 = .ok (.if_icmp .ne 5, 3) := by decide +kernel
theorem dX8_partForPlace_5 : decode cX8_partForPlace 5 = .ok (.iload_n 1, 1) := by decide +kernel
theorem dX8_partForPlace_6 : decode cX8_partForPlace 6 = .ok (.ireturn, 1) := by decide +kernel
theorem dX8_partForPlace_7 : decode cX8_partForPlace 7 = .ok (.iload_n 0, 1) := by decide +kernel
theorem dX8_partForPlace_8 : decode cX8_partForPlace 8 = .ok (.iload_n 2, 1) := by decide +kernel
theorem dX8_partForPlace_9 : decode cX8_partForPlace 9 = .ok (.if_icmp .ge 7, 3) := by decide +kernel
theorem dX8_partForPlace_12 : decode cX8_partForPlace 12 = .ok (.iload_n 0, 1) := by decide +kernel
theorem dX8_partForPlace_13 : decode cX8_partForPlace 13 = .ok (.goto 6, 3) := by decide +kernel
theorem dX8_partForPlace_16 : decode cX8_partForPlace 16 = .ok (.iload_n 0, 1) := by decide +kernel
theorem dX8_partForPlace_17 : decode cX8_partForPlace 17 = .ok (.iconst 1, 1) := by decide +kernel
theorem dX8_partForPlace_18 : decode cX8_partForPlace 18 = .ok (.isub, 1) := by decide +kernel
theorem dX8_partForPlace_19 : decode cX8_partForPlace 19 = .ok (.istore_n 3, 1) := by decide +kernel
theorem dX8_partForPlace_20 : decode cX8_partForPlace 20 = .ok (.iload_n 3, 1) := by decide +kernel
theorem dX8_partForPlace_21 : decode cX8_partForPlace 21 = .ok (.iload_n 1, 1) := by decide +kernel
theorem dX8_partForPlace_22 : decode cX8_partForPlace 22 = .ok (.if_icmp .ge 7, 3) := by decide +kernel
theorem dX8_partForPlace_25 : decode cX8_partForPlace 25 = .ok (.iload_n 3, 1) := by decide +kernel
theorem dX8_partForPlace_26 : decode cX8_partForPlace 26 = .ok (.goto 6, 3) := by decide +kernel
theorem dX8_partForPlace_29 : decode cX8_partForPlace 29 = .ok (.iload_n 3, 1) := by decide +kernel
theorem dX8_partForPlace_30 : decode cX8_partForPlace 30 = .ok (.iconst 1, 1) := by decide +kernel
theorem dX8_partForPlace_31 : decode cX8_partForPlace 31 = .ok (.iadd, 1) := by decide +kernel
theorem dX8_partForPlace_32 : decode cX8_partForPlace 32 = .ok (.ireturn, 1) := by decide +kernel
theorem dX8_needCarvedStay_0 : decode cX8_needCarvedStay 0 = .ok (.aload_n 0, 1) := by decide +kernel
theorem dX8_needCarvedStay_1 : decode cX8_needCarvedStay 1 = .ok (.getfield 56, 3) := by decide +kernel
theorem dX8_needCarvedStay_4 : decode cX8_needCarvedStay 4 = .ok (.aload_n 0, 1) := by decide +kernel
theorem dX8_needCarvedStay_5 : decode cX8_needCarvedStay 5 = .ok (.getfield 53, 3) := by decide +kernel
theorem dX8_needCarvedStay_8 : decode cX8_needCarvedStay 8 = .ok (.invokevirtual 315, 3) := by decide +kernel
theorem dX8_needCarvedStay_11 : decode cX8_needCarvedStay 11 = .ok (.aload_n 0, 1) := by decide +kernel
theorem dX8_needCarvedStay_12 : decode cX8_needCarvedStay 12 = .ok (.invokevirtual 329, 3) := by decide +kernel
theorem dX8_needCarvedStay_15 : decode cX8_needCarvedStay 15 = .ok (.ifCond .ne 11, 3) := by decide +kernel
theorem dX8_needCarvedStay_18 : decode cX8_needCarvedStay 18 = .ok (.new 81, 3) := by decide +kernel
theorem dX8_needCarvedStay_21 : decode cX8_needCarvedStay 21 = .ok (.dup, 1) := by decide +kernel
theorem dX8_needCarvedStay_22 : decode cX8_needCarvedStay 22 = .ok (.invokespecial 83, 3) := by decide +kernel
theorem dX8_needCarvedStay_25 : decode cX8_needCarvedStay 25 = .ok (.athrow, 1) := by decide +kernel
theorem dX8_needCarvedStay_26 : decode cX8_needCarvedStay 26 = .ok (.return_, 1) := by decide +kernel
theorem dX8_settle_0 : decode cX8_settle 0 = .ok (.aload_n 0, 1) := by decide +kernel
theorem dX8_settle_1 : decode cX8_settle 1 = .ok (.getfield 69, 3) := by decide +kernel
theorem dX8_settle_4 : decode cX8_settle 4 = .ok (.aload_n 0, 1) := by decide +kernel
theorem dX8_settle_5 : decode cX8_settle 5 = .ok (.getfield 42, 3) := by decide +kernel
theorem dX8_settle_8 : decode cX8_settle 8 = .ok (.invokevirtual 333, 3) := by decide +kernel
theorem dX8_settle_11 : decode cX8_settle 11 = .ok (.aload_n 0, 1) := by decide +kernel
theorem dX8_settle_12 : decode cX8_settle 12 = .ok (.getfield 42, 3) := by decide +kernel
theorem dX8_settle_15 : decode cX8_settle 15 = .ok (.aload_n 0, 1) := by decide +kernel
theorem dX8_settle_16 : decode cX8_settle 16 = .ok (.getfield 53, 3) := by decide +kernel
theorem dX8_settle_19 : decode cX8_settle 19 = .ok (.invokevirtual 241, 3) := by decide +kernel
theorem dX8_settle_22 : decode cX8_settle 22 = .ok (.aload_n 0, 1) := by decide +kernel
theorem dX8_settle_23 : decode cX8_settle 23 = .ok (.invokevirtual 297, 3) := by decide +kernel
theorem dX8_settle_26 : decode cX8_settle 26 = .ok (.return_, 1) := by decide +kernel
theorem dX8_layAnew_0 : decode cX8_layAnew 0 = .ok (.aload_n 0, 1) := by decide +kernel
theorem dX8_layAnew_1 : decode cX8_layAnew 1 = .ok (.getfield 49, 3) := by decide +kernel
theorem dX8_layAnew_4 : decode cX8_layAnew 4 = .ok (.aload_n 0, 1) := by decide +kernel
theorem dX8_layAnew_5 : decode cX8_layAnew 5 = .ok (.getfield 42, 3) := by decide +kernel
theorem dX8_layAnew_8 : decode cX8_layAnew 8 = .ok (.invokevirtual 315, 3) := by decide +kernel
theorem dX8_layAnew_11 : decode cX8_layAnew 11 = .ok (.aload_n 0, 1) := by decide +kernel
theorem dX8_layAnew_12 : decode cX8_layAnew 12 = .ok (.getfield 49, 3) := by decide +kernel
theorem dX8_layAnew_15 : decode cX8_layAnew 15 = .ok (.aload_n 0, 1) := by decide +kernel
theorem dX8_layAnew_16 : decode cX8_layAnew 16 = .ok (.getfield 42, 3) := by decide +kernel
theorem dX8_layAnew_19 : decode cX8_layAnew 19 = .ok (.invokevirtual 336, 3) := by decide +kernel
theorem dX8_layAnew_22 : decode cX8_layAnew 22 = .ok (.return_, 1) := by decide +kernel
theorem dX8_carvedStay_0 : decode cX8_carvedStay 0 = .ok (.aload_n 0, 1) := by decide +kernel
theorem dX8_carvedStay_1 : decode cX8_carvedStay 1 = .ok (.getfield 42, 3) := by decide +kernel
theorem dX8_carvedStay_4 : decode cX8_carvedStay 4 = .ok (.getfield 128, 3) := by decide +kernel
theorem dX8_carvedStay_7 : decode cX8_carvedStay 7 = .ok (.istore_n 1, 1) := by decide +kernel
theorem dX8_carvedStay_8 : decode cX8_carvedStay 8 = .ok (.iconst 0, 1) := by decide +kernel
theorem dX8_carvedStay_9 : decode cX8_carvedStay 9 = .ok (.istore_n 2, 1) := by decide +kernel
theorem dX8_carvedStay_10 : decode cX8_carvedStay 10 = .ok (.iload_n 2, 1) := by decide +kernel
theorem dX8_carvedStay_11 : decode cX8_carvedStay 11 = .ok (.aload_n 0, 1) := by decide +kernel
theorem dX8_carvedStay_12 : decode cX8_carvedStay 12 = .ok (.getfield 49, 3) := by decide +kernel
theorem dX8_carvedStay_15 : decode cX8_carvedStay 15 = .ok (.getfield 97, 3) := by decide +kernel
theorem dX8_carvedStay_18 : decode cX8_carvedStay 18 = .ok (.if_icmp .ge 37, 3) := by decide +kernel
theorem dX8_carvedStay_21 : decode cX8_carvedStay 21 = .ok (.iload_n 1, 1) := by decide +kernel
theorem dX8_carvedStay_22 : decode cX8_carvedStay 22 = .ok (.ifCond .le 33, 3) := by decide +kernel
theorem dX8_carvedStay_25 : decode cX8_carvedStay 25 = .ok (.aload_n 0, 1) := by decide +kernel
theorem dX8_carvedStay_26 : decode cX8_carvedStay 26 = .ok (.iload_n 2, 1) := by decide +kernel
theorem dX8_carvedStay_27 : decode cX8_carvedStay 27 = .ok (.invokevirtual 339, 3) := by decide +kernel
theorem dX8_carvedStay_30 : decode cX8_carvedStay 30 = .ok (.ifCond .ne 5, 3) := by decide +kernel
theorem dX8_carvedStay_33 : decode cX8_carvedStay 33 = .ok (.iconst 0, 1) := by decide +kernel
theorem dX8_carvedStay_34 : decode cX8_carvedStay 34 = .ok (.ireturn, 1) := by decide +kernel
theorem dX8_carvedStay_35 : decode cX8_carvedStay 35 = .ok (.iload_n 1, 1) := by decide +kernel
theorem dX8_carvedStay_36 : decode cX8_carvedStay 36 = .ok (.aload_n 0, 1) := by decide +kernel
theorem dX8_carvedStay_37 : decode cX8_carvedStay 37 = .ok (.getfield 42, 3) := by decide +kernel
theorem dX8_carvedStay_40 : decode cX8_carvedStay 40 = .ok (.getfield 186, 3) := by decide +kernel
theorem dX8_carvedStay_43 : decode cX8_carvedStay 43 = .ok (.iload_n 2, 1) := by decide +kernel
theorem dX8_carvedStay_44 : decode cX8_carvedStay 44 = .ok (.invokevirtual 160, 3) := by decide +kernel
theorem dX8_carvedStay_47 : decode cX8_carvedStay 47 = .ok (.isub, 1) := by decide +kernel
theorem dX8_carvedStay_48 : decode cX8_carvedStay 48 = .ok (.istore_n 1, 1) := by decide +kernel
theorem dX8_carvedStay_49 : decode cX8_carvedStay 49 = .ok (.iinc 2 1, 3) := by decide +kernel
theorem dX8_carvedStay_52 : decode cX8_carvedStay 52 = .ok (.goto (-42), 3) := by decide +kernel
theorem dX8_carvedStay_55 : decode cX8_carvedStay 55 = .ok (.iconst 1, 1) := by decide +kernel
theorem dX8_carvedStay_56 : decode cX8_carvedStay 56 = .ok (.ireturn, 1) := by decide +kernel
theorem dX8_sameOnTrial_0 : decode cX8_sameOnTrial 0 = .ok (.iload_n 1, 1) := by decide +kernel
theorem dX8_sameOnTrial_1 : decode cX8_sameOnTrial 1 = .ok (.aload_n 0, 1) := by decide +kernel
theorem dX8_sameOnTrial_2 : decode cX8_sameOnTrial 2 = .ok (.getfield 56, 3) := by decide +kernel
theorem dX8_sameOnTrial_5 : decode cX8_sameOnTrial 5 = .ok (.getfield 97, 3) := by decide +kernel
theorem dX8_sameOnTrial_8 : decode cX8_sameOnTrial 8 = .ok (.if_icmp .ge 72, 3) := by decide +kernel
theorem dX8_sameOnTrial_11 : decode cX8_sameOnTrial 11 = .ok (.aload_n 0, 1) := by decide +kernel
theorem dX8_sameOnTrial_12 : decode cX8_sameOnTrial 12 = .ok (.getfield 49, 3) := by decide +kernel
theorem dX8_sameOnTrial_15 : decode cX8_sameOnTrial 15 = .ok (.getfield 177, 3) := by decide +kernel
theorem dX8_sameOnTrial_18 : decode cX8_sameOnTrial 18 = .ok (.iload_n 1, 1) := by decide +kernel
theorem dX8_sameOnTrial_19 : decode cX8_sameOnTrial 19 = .ok (.invokevirtual 160, 3) := by decide +kernel
theorem dX8_sameOnTrial_22 : decode cX8_sameOnTrial 22 = .ok (.aload_n 0, 1) := by decide +kernel
theorem dX8_sameOnTrial_23 : decode cX8_sameOnTrial 23 = .ok (.getfield 56, 3) := by decide +kernel
theorem dX8_sameOnTrial_26 : decode cX8_sameOnTrial 26 = .ok (.getfield 177, 3) := by decide +kernel
theorem dX8_sameOnTrial_29 : decode cX8_sameOnTrial 29 = .ok (.iload_n 1, 1) := by decide +kernel
theorem dX8_sameOnTrial_30 : decode cX8_sameOnTrial 30 = .ok (.invokevirtual 160, 3) := by decide +kernel
theorem dX8_sameOnTrial_33 : decode cX8_sameOnTrial 33 = .ok (.if_icmp .ne 47, 3) := by decide +kernel
theorem dX8_sameOnTrial_36 : decode cX8_sameOnTrial 36 = .ok (.aload_n 0, 1) := by decide +kernel
theorem dX8_sameOnTrial_37 : decode cX8_sameOnTrial 37 = .ok (.getfield 49, 3) := by decide +kernel
theorem dX8_sameOnTrial_40 : decode cX8_sameOnTrial 40 = .ok (.getfield 189, 3) := by decide +kernel
theorem dX8_sameOnTrial_43 : decode cX8_sameOnTrial 43 = .ok (.iload_n 1, 1) := by decide +kernel
theorem dX8_sameOnTrial_44 : decode cX8_sameOnTrial 44 = .ok (.invokevirtual 160, 3) := by decide +kernel
theorem dX8_sameOnTrial_47 : decode cX8_sameOnTrial 47 = .ok (.aload_n 0, 1) := by decide +kernel
theorem dX8_sameOnTrial_48 : decode cX8_sameOnTrial 48 = .ok (.getfield 56, 3) := by decide +kernel
theorem dX8_sameOnTrial_51 : decode cX8_sameOnTrial 51 = .ok (.getfield 189, 3) := by decide +kernel
theorem dX8_sameOnTrial_54 : decode cX8_sameOnTrial 54 = .ok (.iload_n 1, 1) := by decide +kernel
theorem dX8_sameOnTrial_55 : decode cX8_sameOnTrial 55 = .ok (.invokevirtual 160, 3) := by decide +kernel
theorem dX8_sameOnTrial_58 : decode cX8_sameOnTrial 58 = .ok (.if_icmp .ne 22, 3) := by decide +kernel
theorem dX8_sameOnTrial_61 : decode cX8_sameOnTrial 61 = .ok (.aload_n 0, 1) := by decide +kernel
theorem dX8_sameOnTrial_62 : decode cX8_sameOnTrial 62 = .ok (.getfield 42, 3) := by decide +kernel
theorem dX8_sameOnTrial_65 : decode cX8_sameOnTrial 65 = .ok (.aload_n 0, 1) := by decide +kernel
theorem dX8_sameOnTrial_66 : decode cX8_sameOnTrial 66 = .ok (.getfield 53, 3) := by decide +kernel
theorem dX8_sameOnTrial_69 : decode cX8_sameOnTrial 69 = .ok (.iload_n 1, 1) := by decide +kernel
theorem dX8_sameOnTrial_70 : decode cX8_sameOnTrial 70 = .ok (.invokevirtual 343, 3) := by decide +kernel
theorem dX8_sameOnTrial_73 : decode cX8_sameOnTrial 73 = .ok (.ifCond .eq 7, 3) := by decide +kernel
theorem dX8_sameOnTrial_76 : decode cX8_sameOnTrial 76 = .ok (.iconst 1, 1) := by decide +kernel
theorem dX8_sameOnTrial_77 : decode cX8_sameOnTrial 77 = .ok (.goto 4, 3) := by decide +kernel
theorem dX8_sameOnTrial_80 : decode cX8_sameOnTrial 80 = .ok (.iconst 0, 1) := by decide +kernel
theorem dX8_sameOnTrial_81 : decode cX8_sameOnTrial 81 = .ok (.ireturn, 1) := by decide +kernel
theorem dX8_takeInputWords_0 : decode cX8_takeInputWords 0 = .ok (.aload_n 0, 1) := by decide +kernel
theorem dX8_takeInputWords_1 : decode cX8_takeInputWords 1 = .ok (.getfield 53, 3) := by decide +kernel
theorem dX8_takeInputWords_4 : decode cX8_takeInputWords 4 = .ok (.iload_n 1, 1) := by decide +kernel
theorem dX8_takeInputWords_5 : decode cX8_takeInputWords 5 = .ok (.invokevirtual 347, 3) := by decide +kernel
theorem dX8_takeInputWords_8 : decode cX8_takeInputWords 8 = .ok (.iconst 0, 1) := by decide +kernel
theorem dX8_takeInputWords_9 : decode cX8_takeInputWords 9 = .ok (.istore_n 2, 1) := by decide +kernel
theorem dX8_takeInputWords_10 : decode cX8_takeInputWords 10 = .ok (.aload_n 0, 1) := by decide +kernel
theorem dX8_takeInputWords_11 : decode cX8_takeInputWords 11 = .ok (.getfield 26, 3) := by decide +kernel
theorem dX8_takeInputWords_14 : decode cX8_takeInputWords 14 = .ok (.invokevirtual 350, 3) := by decide +kernel
theorem dX8_takeInputWords_17 : decode cX8_takeInputWords 17 = .ok (.iconst 0, 1) := by decide +kernel
theorem dX8_takeInputWords_18 : decode cX8_takeInputWords 18 = .ok (.istore_n 3, 1) := by decide +kernel
theorem dX8_takeInputWords_19 : decode cX8_takeInputWords 19 = .ok (.iload_n 3, 1) := by decide +kernel
theorem dX8_takeInputWords_20 : decode cX8_takeInputWords 20 = .ok (.sipush 500, 3) := by decide +kernel
theorem dX8_takeInputWords_23 : decode cX8_takeInputWords 23 = .ok (.if_icmp .ge 86, 3) := by decide +kernel
theorem dX8_takeInputWords_26 : decode cX8_takeInputWords 26 = .ok (.aload_n 0, 1) := by decide +kernel
theorem dX8_takeInputWords_27 : decode cX8_takeInputWords 27 = .ok (.getfield 26, 3) := by decide +kernel
theorem dX8_takeInputWords_30 : decode cX8_takeInputWords 30 = .ok (.getfield 353, 3) := by decide +kernel
theorem dX8_takeInputWords_33 : decode cX8_takeInputWords 33 = .ok (.ifCond .eq 76, 3) := by decide +kernel
theorem dX8_takeInputWords_36 : decode cX8_takeInputWords 36 = .ok (.aload_n 0, 1) := by decide +kernel
theorem dX8_takeInputWords_37 : decode cX8_takeInputWords 37 = .ok (.getfield 26, 3) := by decide +kernel
theorem dX8_takeInputWords_40 : decode cX8_takeInputWords 40 = .ok (.invokevirtual 356, 3) := by decide +kernel
theorem dX8_takeInputWords_43 : decode cX8_takeInputWords 43 = .ok (.ifCond .eq 20, 3) := by decide +kernel
theorem dX8_takeInputWords_46 : decode cX8_takeInputWords 46 = .ok (.aload_n 0, 1) := by decide +kernel
theorem dX8_takeInputWords_47 : decode cX8_takeInputWords 47 = .ok (.getfield 26, 3) := by decide +kernel
theorem dX8_takeInputWords_50 : decode cX8_takeInputWords 50 = .ok (.getfield 359, 3) := by decide +kernel
theorem dX8_takeInputWords_53 : decode cX8_takeInputWords 53 = .ok (.aload_n 0, 1) := by decide +kernel
theorem dX8_takeInputWords_54 : decode cX8_takeInputWords 54 = .ok (.getfield 42, 3) := by decide +kernel
theorem dX8_takeInputWords_57 : decode cX8_takeInputWords 57 = .ok (.getfield 106, 3) := by decide +kernel
theorem dX8_takeInputWords_60 : decode cX8_takeInputWords 60 = .ok (.if_icmp .le 5, 3) := by decide +kernel
theorem dX8_takeInputWords_63 : decode cX8_takeInputWords 63 = .ok (.iconst 0, 1) := by decide +kernel
theorem dX8_takeInputWords_64 : decode cX8_takeInputWords 64 = .ok (.ireturn, 1) := by decide +kernel
theorem dX8_takeInputWords_65 : decode cX8_takeInputWords 65 = .ok (.aload_n 0, 1) := by decide +kernel
theorem dX8_takeInputWords_66 : decode cX8_takeInputWords 66 = .ok (.getfield 53, 3) := by decide +kernel
theorem dX8_takeInputWords_69 : decode cX8_takeInputWords 69 = .ok (.aload_n 0, 1) := by decide +kernel
theorem dX8_takeInputWords_70 : decode cX8_takeInputWords 70 = .ok (.getfield 14, 3) := by decide +kernel
theorem dX8_takeInputWords_73 : decode cX8_takeInputWords 73 = .ok (.getfield 312, 3) := by decide +kernel
theorem dX8_takeInputWords_76 : decode cX8_takeInputWords 76 = .ok (.aload_n 0, 1) := by decide +kernel
theorem dX8_takeInputWords_77 : decode cX8_takeInputWords 77 = .ok (.getfield 26, 3) := by decide +kernel
theorem dX8_takeInputWords_80 : decode cX8_takeInputWords 80 = .ok (.getfield 360, 3) := by decide +kernel
theorem dX8_takeInputWords_83 : decode cX8_takeInputWords 83 = .ok (.aload_n 0, 1) := by decide +kernel
theorem dX8_takeInputWords_84 : decode cX8_takeInputWords 84 = .ok (.getfield 26, 3) := by decide +kernel
theorem dX8_takeInputWords_87 : decode cX8_takeInputWords 87 = .ok (.getfield 359, 3) := by decide +kernel
theorem dX8_takeInputWords_90 : decode cX8_takeInputWords 90 = .ok (.invokevirtual 363, 3) := by decide +kernel
theorem dX8_takeInputWords_93 : decode cX8_takeInputWords 93 = .ok (.iinc 2 1, 3) := by decide +kernel
theorem dX8_takeInputWords_96 : decode cX8_takeInputWords 96 = .ok (.aload_n 0, 1) := by decide +kernel
theorem dX8_takeInputWords_97 : decode cX8_takeInputWords 97 = .ok (.getfield 26, 3) := by decide +kernel
theorem dX8_takeInputWords_100 : decode cX8_takeInputWords 100 = .ok (.invokevirtual 367, 3) := by decide +kernel
theorem dX8_takeInputWords_103 : decode cX8_takeInputWords 103 = .ok (.iinc 3 1, 3) := by decide +kernel
theorem dX8_takeInputWords_106 : decode cX8_takeInputWords 106 = .ok (.goto (-87), 3) := by decide +kernel
theorem dX8_takeInputWords_109 : decode cX8_takeInputWords 109 = .ok (.iload_n 2, 1) := by decide +kernel
theorem dX8_takeInputWords_110 : decode cX8_takeInputWords 110 = .ok (.ireturn, 1) := by decide +kernel
theorem dX8_strokesOfWord_0 : decode cX8_strokesOfWord 0 = .ok (.iload_n 1, 1) := by decide +kernel
theorem dX8_strokesOfWord_1 : decode cX8_strokesOfWord 1 = .ok (.aload_n 0, 1) := by decide +kernel
theorem dX8_strokesOfWord_2 : decode cX8_strokesOfWord 2 = .ok (.getfield 49, 3) := by decide +kernel
theorem dX8_strokesOfWord_5 : decode cX8_strokesOfWord 5 = .ok (.getfield 97, 3) := by decide +kernel
theorem dX8_strokesOfWord_8 : decode cX8_strokesOfWord 8 = .ok (.if_icmp .lt 5, 3) := by decide +kernel
theorem dX8_strokesOfWord_11 : decode cX8_strokesOfWord 11 = .ok (.iconst 0, 1) := by decide +kernel
theorem dX8_strokesOfWord_12 : decode cX8_strokesOfWord 12 = .ok (.ireturn, 1) := by decide +kernel
theorem dX8_strokesOfWord_13 : decode cX8_strokesOfWord 13 = .ok (.aload_n 0, 1) := by decide +kernel
theorem dX8_strokesOfWord_14 : decode cX8_strokesOfWord 14 = .ok (.getfield 42, 3) := by decide +kernel
theorem dX8_strokesOfWord_17 : decode cX8_strokesOfWord 17 = .ok (.iload_n 1, 1) := by decide +kernel
theorem dX8_strokesOfWord_18 : decode cX8_strokesOfWord 18 = .ok (.invokevirtual 370, 3) := by decide +kernel
theorem dX8_strokesOfWord_21 : decode cX8_strokesOfWord 21 = .ok (.istore_n 2, 1) := by decide +kernel
theorem dX8_strokesOfWord_22 : decode cX8_strokesOfWord 22 = .ok (.aload_n 0, 1) := by decide +kernel
theorem dX8_strokesOfWord_23 : decode cX8_strokesOfWord 23 = .ok (.getfield 49, 3) := by decide +kernel
theorem dX8_strokesOfWord_26 : decode cX8_strokesOfWord 26 = .ok (.iload_n 2, 1) := by decide +kernel
theorem dX8_strokesOfWord_27 : decode cX8_strokesOfWord 27 = .ok (.iload_n 2, 1) := by decide +kernel
theorem dX8_strokesOfWord_28 : decode cX8_strokesOfWord 28 = .ok (.aload_n 0, 1) := by decide +kernel
theorem dX8_strokesOfWord_29 : decode cX8_strokesOfWord 29 = .ok (.getfield 42, 3) := by decide +kernel
theorem dX8_strokesOfWord_32 : decode cX8_strokesOfWord 32 = .ok (.getfield 186, 3) := by decide +kernel
theorem dX8_strokesOfWord_35 : decode cX8_strokesOfWord 35 = .ok (.iload_n 1, 1) := by decide +kernel
theorem dX8_strokesOfWord_36 : decode cX8_strokesOfWord 36 = .ok (.invokevirtual 160, 3) := by decide +kernel
theorem dX8_strokesOfWord_39 : decode cX8_strokesOfWord 39 = .ok (.iadd, 1) := by decide +kernel
theorem dX8_strokesOfWord_40 : decode cX8_strokesOfWord 40 = .ok (.invokevirtual 219, 3) := by decide +kernel
theorem dX8_strokesOfWord_43 : decode cX8_strokesOfWord 43 = .ok (.ireturn, 1) := by decide +kernel
theorem dX8_carvedOfWord_0 : decode cX8_carvedOfWord 0 = .ok (.aload_n 0, 1) := by decide +kernel
theorem dX8_carvedOfWord_1 : decode cX8_carvedOfWord 1 = .ok (.getfield 42, 3) := by decide +kernel
theorem dX8_carvedOfWord_4 : decode cX8_carvedOfWord 4 = .ok (.getfield 128, 3) := by decide +kernel
theorem dX8_carvedOfWord_7 : decode cX8_carvedOfWord 7 = .ok (.aload_n 0, 1) := by decide +kernel
theorem dX8_carvedOfWord_8 : decode cX8_carvedOfWord 8 = .ok (.getfield 42, 3) := by decide +kernel
theorem dX8_carvedOfWord_11 : decode cX8_carvedOfWord 11 = .ok (.iload_n 1, 1) := by decide +kernel
theorem dX8_carvedOfWord_12 : decode cX8_carvedOfWord 12 = .ok (.invokevirtual 370, 3) := by decide +kernel
theorem dX8_carvedOfWord_15 : decode cX8_carvedOfWord 15 = .ok (.isub, 1) := by decide +kernel
theorem dX8_carvedOfWord_16 : decode cX8_carvedOfWord 16 = .ok (.istore_n 2, 1) := by decide +kernel
theorem dX8_carvedOfWord_17 : decode cX8_carvedOfWord 17 = .ok (.iconst 0, 1) := by decide +kernel
theorem dX8_carvedOfWord_18 : decode cX8_carvedOfWord 18 = .ok (.iload_n 2, 1) := by decide +kernel
theorem dX8_carvedOfWord_19 : decode cX8_carvedOfWord 19 = .ok (.aload_n 0, 1) := by decide +kernel
theorem dX8_carvedOfWord_20 : decode cX8_carvedOfWord 20 = .ok (.getfield 42, 3) := by decide +kernel
theorem dX8_carvedOfWord_23 : decode cX8_carvedOfWord 23 = .ok (.getfield 186, 3) := by decide +kernel
theorem dX8_carvedOfWord_26 : decode cX8_carvedOfWord 26 = .ok (.iload_n 1, 1) := by decide +kernel
theorem dX8_carvedOfWord_27 : decode cX8_carvedOfWord 27 = .ok (.invokevirtual 160, 3) := by decide +kernel
theorem dX8_carvedOfWord_30 : decode cX8_carvedOfWord 30 = .ok (.invokestatic 165, 3) := by decide +kernel
theorem dX8_carvedOfWord_33 : decode cX8_carvedOfWord 33 = .ok (.invokestatic 171, 3) := by decide +kernel
theorem dX8_carvedOfWord_36 : decode cX8_carvedOfWord 36 = .ok (.ireturn, 1) := by decide +kernel
theorem dJ5_init_d00df_0 : decode cJ5_init_d00df 0 = .ok (.aload_n 0, 1) := by decide +kernel
theorem dJ5_init_d00df_1 : decode cJ5_init_d00df 1 = .ok (.invokespecial 3, 3) := by decide +kernel
theorem dJ5_init_d00df_4 : decode cJ5_init_d00df 4 = .ok (.getstatic 18, 3) := by decide +kernel
theorem dJ5_init_d00df_7 : decode cJ5_init_d00df 7 = .ok (.ifCond .eq 18, 3) := by decide +kernel
theorem dJ5_init_d00df_10 : decode cJ5_init_d00df 10 = .ok (.aload_n 0, 1) := by decide +kernel
theorem dJ5_init_d00df_11 : decode cJ5_init_d00df 11 = .ok (.iload_n 1, 1) := by decide +kernel
theorem dJ5_init_d00df_12 : decode cJ5_init_d00df 12 = .ok (.newarray .byte, 2) := by decide +kernel
theorem dJ5_init_d00df_14 : decode cJ5_init_d00df 14 = .ok (.putfield 15, 3) := by decide +kernel
theorem dJ5_init_d00df_17 : decode cJ5_init_d00df 17 = .ok (.aload_n 0, 1) := by decide +kernel
theorem dJ5_init_d00df_18 : decode cJ5_init_d00df 18 = .ok (.iconst 0, 1) := by decide +kernel
theorem dJ5_init_d00df_19 : decode cJ5_init_d00df 19 = .ok (.putfield 22, 3) := by decide +kernel
theorem dJ5_init_d00df_22 : decode cJ5_init_d00df 22 = .ok (.goto 16, 3) := by decide +kernel
theorem dJ5_init_d00df_25 : decode cJ5_init_d00df 25 = .ok (.aload_n 0, 1) := by decide +kernel
theorem dJ5_init_d00df_26 : decode cJ5_init_d00df 26 = .ok (.iload_n 1, 1) := by decide +kernel
theorem dJ5_init_d00df_27 : decode cJ5_init_d00df 27 = .ok (.invokestatic 26, 3) := by decide +kernel
theorem dJ5_init_d00df_30 : decode cJ5_init_d00df 30 = .ok (.putfield 15, 3) := by decide +kernel
theorem dJ5_init_d00df_33 : decode cJ5_init_d00df 33 = .ok (.aload_n 0, 1) := by decide +kernel
theorem dJ5_init_d00df_34 : decode cJ5_init_d00df 34 = .ok (.iconst 1, 1) := by decide +kernel
theorem dJ5_init_d00df_35 : decode cJ5_init_d00df 35 = .ok (.putfield 22, 3) := by decide +kernel
theorem dJ5_init_d00df_38 : decode cJ5_init_d00df 38 = .ok (.return_, 1) := by decide +kernel
theorem dJ5_init_a7421_0 : decode cJ5_init_a7421 0 = .ok (.aload_n 0, 1) := by decide +kernel
theorem dJ5_init_a7421_1 : decode cJ5_init_a7421 1 = .ok (.invokespecial 3, 3) := by decide +kernel
theorem dJ5_init_a7421_4 : decode cJ5_init_a7421 4 = .ok (.aload_n 1, 1) := by decide +kernel
theorem dJ5_init_a7421_5 : decode cJ5_init_a7421 5 = .ok (.invokevirtual 32, 3) := by decide +kernel
theorem dJ5_init_a7421_8 : decode cJ5_init_a7421 8 = .ok (.istore_n 2, 1) := by decide +kernel
theorem dJ5_init_a7421_9 : decode cJ5_init_a7421 9 = .ok (.iload_n 2, 1) := by decide +kernel
theorem dJ5_init_a7421_10 : decode cJ5_init_a7421 10 = .ok (.ldc 38, 2) := by decide +kernel
theorem dJ5_init_a7421_12 : decode cJ5_init_a7421 12 = .ok (.if_icmp .ge 10, 3) := by decide +kernel
theorem dJ5_init_a7421_15 : decode cJ5_init_a7421 15 = .ok (.iload_n 2, 1) := by decide +kernel
theorem dJ5_init_a7421_16 : decode cJ5_init_a7421 16 = .ok (.bipush 16, 2) := by decide +kernel
theorem dJ5_init_a7421_18 : decode cJ5_init_a7421 18 = .ok (.iadd, 1) := by decide +kernel
theorem dJ5_init_a7421_19 : decode cJ5_init_a7421 19 = .ok (.goto 5, 3) := by decide +kernel
theorem dJ5_init_a7421_22 : decode cJ5_init_a7421 22 = .ok (.ldc 39, 2) := by decide +kernel
theorem dJ5_init_a7421_24 : decode cJ5_init_a7421 24 = .ok (.istore_n 3, 1) := by decide +kernel
theorem dJ5_init_a7421_25 : decode cJ5_init_a7421 25 = .ok (.aload_n 1, 1) := by decide +kernel
theorem dJ5_init_a7421_26 : decode cJ5_init_a7421 26 = .ok (.invokevirtual 40, 3) := by decide +kernel
theorem dJ5_init_a7421_29 : decode cJ5_init_a7421 29 = .ok (.istore 4, 2) := by decide +kernel
theorem dJ5_init_a7421_31 : decode cJ5_init_a7421 31 = .ok (.aload_n 0, 1) := by decide +kernel
theorem dJ5_init_a7421_32 : decode cJ5_init_a7421 32 = .ok (.iload 4, 2) := by decide +kernel
theorem dJ5_init_a7421_34 : decode cJ5_init_a7421 34 = .ok (.putfield 22, 3) := by decide +kernel
theorem dJ5_init_a7421_37 : decode cJ5_init_a7421 37 = .ok (.aload_n 0, 1) := by decide +kernel
theorem dJ5_init_a7421_38 : decode cJ5_init_a7421 38 = .ok (.iload 4, 2) := by decide +kernel
theorem dJ5_init_a7421_40 : decode cJ5_init_a7421 40 = .ok (.ifCond .ne 9, 3) := by decide +kernel
theorem dJ5_init_a7421_43 : decode cJ5_init_a7421 43 = .ok (.iload_n 3, 1) := by decide +kernel
theorem dJ5_init_a7421_44 : decode cJ5_init_a7421 44 = .ok (.newarray .byte, 2) := by decide +kernel
theorem dJ5_init_a7421_46 : decode cJ5_init_a7421 46 = .ok (.goto 7, 3) := by decide +kernel
theorem dJ5_init_a7421_49 : decode cJ5_init_a7421 49 = .ok (.iload_n 3, 1) := by decide +kernel
theorem dJ5_init_a7421_50 : decode cJ5_init_a7421 50 = .ok (.invokestatic 26, 3) := by decide +kernel
theorem dJ5_init_a7421_53 : decode cJ5_init_a7421 53 = .ok (.putfield 15, 3) := by decide +kernel
theorem dJ5_init_a7421_56 : decode cJ5_init_a7421 56 = .ok (.aload_n 0, 1) := by decide +kernel
theorem dJ5_init_a7421_57 : decode cJ5_init_a7421 57 = .ok (.aload_n 1, 1) := by decide +kernel
theorem dJ5_init_a7421_58 : decode cJ5_init_a7421 58 = .ok (.invokevirtual 43, 3) := by decide +kernel
theorem dJ5_init_a7421_61 : decode cJ5_init_a7421 61 = .ok (.pop, 1) := by decide +kernel
theorem dJ5_init_a7421_62 : decode cJ5_init_a7421 62 = .ok (.return_, 1) := by decide +kernel
theorem dJ5_length_8abf5_0 : decode cJ5_length_8abf5 0 = .ok (.aload_n 0, 1) := by decide +kernel
theorem dJ5_length_8abf5_1 : decode cJ5_length_8abf5 1 = .ok (.getfield 79, 3) := by decide +kernel
theorem dJ5_length_8abf5_4 : decode cJ5_length_8abf5 4 = .ok (.ireturn, 1) := by decide +kernel
theorem dJ5_ensureCapacityInternal_d00df_0 : decode cJ5_ensureCapacityInternal_d00df 0 = .ok (.aload_n 0, 1) := by decide +kernel
theorem dJ5_ensureCapacityInternal_d00df_1 : decode cJ5_ensureCapacityInternal_d00df 1 = .ok (.getfield 15, 3) := by decide +kernel
theorem dJ5_ensureCapacityInternal_d00df_4 : decode cJ5_ensureCapacityInternal_d00df 4 = .ok (.arraylength, 1) := by decide +kernel
theorem dJ5_ensureCapacityInternal_d00df_5 : decode cJ5_ensureCapacityInternal_d00df 5 = .ok (.aload_n 0, 1) := by decide +kernel
theorem dJ5_ensureCapacityInternal_d00df_6 : decode cJ5_ensureCapacityInternal_d00df 6 = .ok (.getfield 22, 3) := by decide +kernel
theorem dJ5_ensureCapacityInternal_d00df_9 : decode cJ5_ensureCapacityInternal_d00df 9 = .ok (.ishr, 1) := by decide +kernel
theorem dJ5_ensureCapacityInternal_d00df_10 : decode cJ5_ensureCapacityInternal_d00df 10 = .ok (.istore_n 2, 1) := by decide +kernel
theorem dJ5_ensureCapacityInternal_d00df_11 : decode cJ5_ensureCapacityInternal_d00df 11 = .ok (.iload_n 1, 1) := by decide +kernel
theorem dJ5_ensureCapacityInternal_d00df_12 : decode cJ5_ensureCapacityInternal_d00df 12 = .ok (.iload_n 2, 1) := by decide +kernel
theorem dJ5_ensureCapacityInternal_d00df_13 : decode cJ5_ensureCapacityInternal_d00df 13 = .ok (.isub, 1) := by decide +kernel
theorem dJ5_ensureCapacityInternal_d00df_14 : decode cJ5_ensureCapacityInternal_d00df 14 = .ok (.ifCond .le 24, 3) := by decide +kernel
theorem dJ5_ensureCapacityInternal_d00df_17 : decode cJ5_ensureCapacityInternal_d00df 17 = .ok (.aload_n 0, 1) := by decide +kernel
theorem dJ5_ensureCapacityInternal_d00df_18 : decode cJ5_ensureCapacityInternal_d00df 18 = .ok (.aload_n 0, 1) := by decide +kernel
theorem dJ5_ensureCapacityInternal_d00df_19 : decode cJ5_ensureCapacityInternal_d00df 19 = .ok (.getfield 15, 3) := by decide +kernel
theorem dJ5_ensureCapacityInternal_d00df_22 : decode cJ5_ensureCapacityInternal_d00df 22 = .ok (.aload_n 0, 1) := by decide +kernel
theorem dJ5_ensureCapacityInternal_d00df_23 : decode cJ5_ensureCapacityInternal_d00df 23 = .ok (.iload_n 1, 1) := by decide +kernel
theorem dJ5_ensureCapacityInternal_d00df_24 : decode cJ5_ensureCapacityInternal_d00df 24 = .ok (.invokevirtual 104, 3) := by decide +kernel
theorem dJ5_ensureCapacityInternal_d00df_27 : decode cJ5_ensureCapacityInternal_d00df 27 = .ok (.aload_n 0, 1) := by decide +kernel
theorem dJ5_ensureCapacityInternal_d00df_28 : decode cJ5_ensureCapacityInternal_d00df 28 = .ok (.getfield 22, 3) := by decide +kernel
theorem dJ5_ensureCapacityInternal_d00df_31 : decode cJ5_ensureCapacityInternal_d00df 31 = .ok (.ishl, 1) := by decide +kernel
theorem dJ5_ensureCapacityInternal_d00df_32 : decode cJ5_ensureCapacityInternal_d00df 32 = .ok (.invokestatic 108, 3) := by decide +kernel
theorem dJ5_ensureCapacityInternal_d00df_35 : decode cJ5_ensureCapacityInternal_d00df 35 = .ok (.putfield 15, 3) := by decide +kernel
theorem dJ5_ensureCapacityInternal_d00df_38 : decode cJ5_ensureCapacityInternal_d00df 38 = .ok (.return_, 1) := by decide +kernel
theorem dJ5_newCapacity_0f7a4_0 : decode cJ5_newCapacity_0f7a4 0 = .ok (.aload_n 0, 1) := by decide +kernel
theorem dJ5_newCapacity_0f7a4_1 : decode cJ5_newCapacity_0f7a4 1 = .ok (.getfield 15, 3) := by decide +kernel
theorem dJ5_newCapacity_0f7a4_4 : decode cJ5_newCapacity_0f7a4 4 = .ok (.arraylength, 1) := by decide +kernel
theorem dJ5_newCapacity_0f7a4_5 : decode cJ5_newCapacity_0f7a4 5 = .ok (.istore_n 2, 1) := by decide +kernel
theorem dJ5_newCapacity_0f7a4_6 : decode cJ5_newCapacity_0f7a4 6 = .ok (.iload_n 1, 1) := by decide +kernel
theorem dJ5_newCapacity_0f7a4_7 : decode cJ5_newCapacity_0f7a4 7 = .ok (.aload_n 0, 1) := by decide +kernel
theorem dJ5_newCapacity_0f7a4_8 : decode cJ5_newCapacity_0f7a4 8 = .ok (.getfield 22, 3) := by decide +kernel
theorem dJ5_newCapacity_0f7a4_11 : decode cJ5_newCapacity_0f7a4 11 = .ok (.ishl, 1) := by decide +kernel
theorem dJ5_newCapacity_0f7a4_12 : decode cJ5_newCapacity_0f7a4 12 = .ok (.istore_n 3, 1) := by decide +kernel
theorem dJ5_newCapacity_0f7a4_13 : decode cJ5_newCapacity_0f7a4 13 = .ok (.iload_n 3, 1) := by decide +kernel
theorem dJ5_newCapacity_0f7a4_14 : decode cJ5_newCapacity_0f7a4 14 = .ok (.iload_n 2, 1) := by decide +kernel
theorem dJ5_newCapacity_0f7a4_15 : decode cJ5_newCapacity_0f7a4 15 = .ok (.isub, 1) := by decide +kernel
theorem dJ5_newCapacity_0f7a4_16 : decode cJ5_newCapacity_0f7a4 16 = .ok (.istore 4, 2) := by decide +kernel
theorem dJ5_newCapacity_0f7a4_18 : decode cJ5_newCapacity_0f7a4 18 = .ok (.iload_n 2, 1) := by decide +kernel
theorem dJ5_newCapacity_0f7a4_19 : decode cJ5_newCapacity_0f7a4 19 = .ok (.iload 4, 2) := by decide +kernel
theorem dJ5_newCapacity_0f7a4_21 : decode cJ5_newCapacity_0f7a4 21 = .ok (.iload_n 2, 1) := by decide +kernel
theorem dJ5_newCapacity_0f7a4_22 : decode cJ5_newCapacity_0f7a4 22 = .ok (.iconst 2, 1) := by decide +kernel
theorem dJ5_newCapacity_0f7a4_23 : decode cJ5_newCapacity_0f7a4 23 = .ok (.aload_n 0, 1) := by decide +kernel
theorem dJ5_newCapacity_0f7a4_24 : decode cJ5_newCapacity_0f7a4 24 = .ok (.getfield 22, 3) := by decide +kernel
theorem dJ5_newCapacity_0f7a4_27 : decode cJ5_newCapacity_0f7a4 27 = .ok (.ishl, 1) := by decide +kernel
theorem dJ5_newCapacity_0f7a4_28 : decode cJ5_newCapacity_0f7a4 28 = .ok (.iadd, 1) := by decide +kernel
theorem dJ5_newCapacity_0f7a4_29 : decode cJ5_newCapacity_0f7a4 29 = .ok (.invokestatic 114, 3) := by decide +kernel
theorem dJ5_newCapacity_0f7a4_32 : decode cJ5_newCapacity_0f7a4 32 = .ok (.istore 5, 2) := by decide +kernel
theorem dJ5_newCapacity_0f7a4_34 : decode cJ5_newCapacity_0f7a4 34 = .ok (.iload 5, 2) := by decide +kernel
theorem dJ5_newCapacity_0f7a4_36 : decode cJ5_newCapacity_0f7a4 36 = .ok (.ldc 39, 2) := by decide +kernel
theorem dJ5_newCapacity_0f7a4_38 : decode cJ5_newCapacity_0f7a4 38 = .ok (.if_icmp .ne 13, 3) := by decide +kernel
theorem dJ5_newCapacity_0f7a4_41 : decode cJ5_newCapacity_0f7a4 41 = .ok (.new 120, 3) := by decide +kernel
theorem dJ5_newCapacity_0f7a4_44 : decode cJ5_newCapacity_0f7a4 44 = .ok (.dup, 1) := by decide +kernel
theorem dJ5_newCapacity_0f7a4_45 : decode cJ5_newCapacity_0f7a4 45 = .ok (.ldc 122, 2) := by decide +kernel
theorem dJ5_newCapacity_0f7a4_47 : decode cJ5_newCapacity_0f7a4 47 = .ok (.invokespecial 124, 3) := by decide +kernel
theorem dJ5_newCapacity_0f7a4_50 : decode cJ5_newCapacity_0f7a4 50 = .ok (.athrow, 1) := by decide +kernel
theorem dJ5_newCapacity_0f7a4_51 : decode cJ5_newCapacity_0f7a4 51 = .ok (.iload 5, 2) := by decide +kernel
theorem dJ5_newCapacity_0f7a4_53 : decode cJ5_newCapacity_0f7a4 53 = .ok (.aload_n 0, 1) := by decide +kernel
theorem dJ5_newCapacity_0f7a4_54 : decode cJ5_newCapacity_0f7a4 54 = .ok (.getfield 22, 3) := by decide +kernel
theorem dJ5_newCapacity_0f7a4_57 : decode cJ5_newCapacity_0f7a4 57 = .ok (.ishr, 1) := by decide +kernel
theorem dJ5_newCapacity_0f7a4_58 : decode cJ5_newCapacity_0f7a4 58 = .ok (.ireturn, 1) := by decide +kernel
theorem dJ5_inflate_da8c8_0 : decode cJ5_inflate_da8c8 0 = .ok (.aload_n 0, 1) := by decide +kernel
theorem dJ5_inflate_da8c8_1 : decode cJ5_inflate_da8c8 1 = .ok (.invokevirtual 83, 3) := by decide +kernel
theorem dJ5_inflate_da8c8_4 : decode cJ5_inflate_da8c8 4 = .ok (.ifCond .ne 4, 3) := by decide +kernel
theorem dJ5_inflate_da8c8_7 : decode cJ5_inflate_da8c8 7 = .ok (.return_, 1) := by decide +kernel
theorem dJ5_inflate_da8c8_8 : decode cJ5_inflate_da8c8 8 = .ok (.aload_n 0, 1) := by decide +kernel
theorem dJ5_inflate_da8c8_9 : decode cJ5_inflate_da8c8 9 = .ok (.getfield 15, 3) := by decide +kernel
theorem dJ5_inflate_da8c8_12 : decode cJ5_inflate_da8c8 12 = .ok (.arraylength, 1) := by decide +kernel
theorem dJ5_inflate_da8c8_13 : decode cJ5_inflate_da8c8 13 = .ok (.invokestatic 26, 3) := by decide +kernel
theorem dJ5_inflate_da8c8_16 : decode cJ5_inflate_da8c8 16 = .ok (.astore_n 1, 1) := by decide +kernel
theorem dJ5_inflate_da8c8_17 : decode cJ5_inflate_da8c8 17 = .ok (.aload_n 0, 1) := by decide +kernel
theorem dJ5_inflate_da8c8_18 : decode cJ5_inflate_da8c8 18 = .ok (.getfield 15, 3) := by decide +kernel
theorem dJ5_inflate_da8c8_21 : decode cJ5_inflate_da8c8 21 = .ok (.iconst 0, 1) := by decide +kernel
theorem dJ5_inflate_da8c8_22 : decode cJ5_inflate_da8c8 22 = .ok (.aload_n 1, 1) := by decide +kernel
theorem dJ5_inflate_da8c8_23 : decode cJ5_inflate_da8c8 23 = .ok (.iconst 0, 1) := by decide +kernel
theorem dJ5_inflate_da8c8_24 : decode cJ5_inflate_da8c8 24 = .ok (.aload_n 0, 1) := by decide +kernel
theorem dJ5_inflate_da8c8_25 : decode cJ5_inflate_da8c8 25 = .ok (.getfield 79, 3) := by decide +kernel
theorem dJ5_inflate_da8c8_28 : decode cJ5_inflate_da8c8 28 = .ok (.invokestatic 125, 3) := by decide +kernel
theorem dJ5_inflate_da8c8_31 : decode cJ5_inflate_da8c8 31 = .ok (.aload_n 0, 1) := by decide +kernel
theorem dJ5_inflate_da8c8_32 : decode cJ5_inflate_da8c8 32 = .ok (.aload_n 1, 1) := by decide +kernel
theorem dJ5_inflate_da8c8_33 : decode cJ5_inflate_da8c8 33 = .ok (.putfield 15, 3) := by decide +kernel
theorem dJ5_inflate_da8c8_36 : decode cJ5_inflate_da8c8 36 = .ok (.aload_n 0, 1) := by decide +kernel
theorem dJ5_inflate_da8c8_37 : decode cJ5_inflate_da8c8 37 = .ok (.iconst 1, 1) := by decide +kernel
theorem dJ5_inflate_da8c8_38 : decode cJ5_inflate_da8c8 38 = .ok (.putfield 22, 3) := by decide +kernel
theorem dJ5_inflate_da8c8_41 : decode cJ5_inflate_da8c8 41 = .ok (.return_, 1) := by decide +kernel
theorem dJ5_append_cf1ce_0 : decode cJ5_append_cf1ce 0 = .ok (.aload_n 1, 1) := by decide +kernel
theorem dJ5_append_cf1ce_1 : decode cJ5_append_cf1ce 1 = .ok (.ifnonnull 8, 3) := by decide +kernel
theorem dJ5_append_cf1ce_4 : decode cJ5_append_cf1ce 4 = .ok (.aload_n 0, 1) := by decide +kernel
theorem dJ5_append_cf1ce_5 : decode cJ5_append_cf1ce 5 = .ok (.invokevirtual 204, 3) := by decide +kernel
theorem dJ5_append_cf1ce_8 : decode cJ5_append_cf1ce 8 = .ok (.areturn, 1) := by decide +kernel
theorem dJ5_append_cf1ce_9 : decode cJ5_append_cf1ce 9 = .ok (.aload_n 1, 1) := by decide +kernel
theorem dJ5_append_cf1ce_10 : decode cJ5_append_cf1ce 10 = .ok (.invokevirtual 32, 3) := by decide +kernel
theorem dJ5_append_cf1ce_13 : decode cJ5_append_cf1ce 13 = .ok (.istore_n 2, 1) := by decide +kernel
theorem dJ5_append_cf1ce_14 : decode cJ5_append_cf1ce 14 = .ok (.aload_n 0, 1) := by decide +kernel
theorem dJ5_append_cf1ce_15 : decode cJ5_append_cf1ce 15 = .ok (.aload_n 0, 1) := by decide +kernel
theorem dJ5_append_cf1ce_16 : decode cJ5_append_cf1ce 16 = .ok (.getfield 79, 3) := by decide +kernel
theorem dJ5_append_cf1ce_19 : decode cJ5_append_cf1ce 19 = .ok (.iload_n 2, 1) := by decide +kernel
theorem dJ5_append_cf1ce_20 : decode cJ5_append_cf1ce 20 = .ok (.iadd, 1) := by decide +kernel
theorem dJ5_append_cf1ce_21 : decode cJ5_append_cf1ce 21 = .ok (.invokevirtual 100, 3) := by decide +kernel
theorem dJ5_append_cf1ce_24 : decode cJ5_append_cf1ce 24 = .ok (.aload_n 0, 1) := by decide +kernel
theorem dJ5_append_cf1ce_25 : decode cJ5_append_cf1ce 25 = .ok (.aload_n 0, 1) := by decide +kernel
theorem dJ5_append_cf1ce_26 : decode cJ5_append_cf1ce 26 = .ok (.getfield 79, 3) := by decide +kernel
theorem dJ5_append_cf1ce_29 : decode cJ5_append_cf1ce 29 = .ok (.aload_n 1, 1) := by decide +kernel
theorem dJ5_append_cf1ce_30 : decode cJ5_append_cf1ce 30 = .ok (.invokevirtual 208, 3) := by decide +kernel
theorem dJ5_append_cf1ce_33 : decode cJ5_append_cf1ce 33 = .ok (.aload_n 0, 1) := by decide +kernel
theorem dJ5_append_cf1ce_34 : decode cJ5_append_cf1ce 34 = .ok (.dup, 1) := by decide +kernel
theorem dJ5_append_cf1ce_35 : decode cJ5_append_cf1ce 35 = .ok (.getfield 79, 3) := by decide +kernel
theorem dJ5_append_cf1ce_38 : decode cJ5_append_cf1ce 38 = .ok (.iload_n 2, 1) := by decide +kernel
theorem dJ5_append_cf1ce_39 : decode cJ5_append_cf1ce 39 = .ok (.iadd, 1) := by decide +kernel
theorem dJ5_append_cf1ce_40 : decode cJ5_append_cf1ce 40 = .ok (.putfield 79, 3) := by decide +kernel
theorem dJ5_append_cf1ce_43 : decode cJ5_append_cf1ce 43 = .ok (.aload_n 0, 1) := by decide +kernel
theorem dJ5_append_cf1ce_44 : decode cJ5_append_cf1ce 44 = .ok (.areturn, 1) := by decide +kernel
theorem dJ5_appendNull_278bc_0 : decode cJ5_appendNull_278bc 0 = .ok (.aload_n 0, 1) := by decide +kernel
theorem dJ5_appendNull_278bc_1 : decode cJ5_appendNull_278bc 1 = .ok (.aload_n 0, 1) := by decide +kernel
theorem dJ5_appendNull_278bc_2 : decode cJ5_appendNull_278bc 2 = .ok (.getfield 79, 3) := by decide +kernel
theorem dJ5_appendNull_278bc_5 : decode cJ5_appendNull_278bc 5 = .ok (.iconst 4, 1) := by decide +kernel
theorem dJ5_appendNull_278bc_6 : decode cJ5_appendNull_278bc 6 = .ok (.iadd, 1) := by decide +kernel
theorem dJ5_appendNull_278bc_7 : decode cJ5_appendNull_278bc 7 = .ok (.invokevirtual 100, 3) := by decide +kernel
theorem dJ5_appendNull_278bc_10 : decode cJ5_appendNull_278bc 10 = .ok (.aload_n 0, 1) := by decide +kernel
theorem dJ5_appendNull_278bc_11 : decode cJ5_appendNull_278bc 11 = .ok (.getfield 79, 3) := by decide +kernel
theorem dJ5_appendNull_278bc_14 : decode cJ5_appendNull_278bc 14 = .ok (.istore_n 1, 1) := by decide +kernel
theorem dJ5_appendNull_278bc_15 : decode cJ5_appendNull_278bc 15 = .ok (.aload_n 0, 1) := by decide +kernel
theorem dJ5_appendNull_278bc_16 : decode cJ5_appendNull_278bc 16 = .ok (.getfield 15, 3) := by decide +kernel
theorem dJ5_appendNull_278bc_19 : decode cJ5_appendNull_278bc 19 = .ok (.astore_n 2, 1) := by decide +kernel
theorem dJ5_appendNull_278bc_20 : decode cJ5_appendNull_278bc 20 = .ok (.aload_n 0, 1) := by decide +kernel
theorem dJ5_appendNull_278bc_21 : decode cJ5_appendNull_278bc 21 = .ok (.invokevirtual 83, 3) := by decide +kernel
theorem dJ5_appendNull_278bc_24 : decode cJ5_appendNull_278bc 24 = .ok (.ifCond .eq 38, 3) := by decide +kernel
theorem dJ5_appendNull_278bc_27 : decode cJ5_appendNull_278bc 27 = .ok (.aload_n 2, 1) := by decide +kernel
theorem dJ5_appendNull_278bc_28 : decode cJ5_appendNull_278bc 28 = .ok (.iload_n 1, 1) := by decide +kernel
theorem dJ5_appendNull_278bc_29 : decode cJ5_appendNull_278bc 29 = .ok (.iinc 1 1, 3) := by decide +kernel
theorem dJ5_appendNull_278bc_32 : decode cJ5_appendNull_278bc 32 = .ok (.bipush 110, 2) := by decide +kernel
theorem dJ5_appendNull_278bc_34 : decode cJ5_appendNull_278bc 34 = .ok (.bastore, 1) := by decide +kernel
theorem dJ5_appendNull_278bc_35 : decode cJ5_appendNull_278bc 35 = .ok (.aload_n 2, 1) := by decide +kernel
theorem dJ5_appendNull_278bc_36 : decode cJ5_appendNull_278bc 36 = .ok (.iload_n 1, 1) := by decide +kernel
theorem dJ5_appendNull_278bc_37 : decode cJ5_appendNull_278bc 37 = .ok (.iinc 1 1, 3) := by decide +kernel
theorem dJ5_appendNull_278bc_40 : decode cJ5_appendNull_278bc 40 = .ok (.bipush 117, 2) := by decide +kernel
theorem dJ5_appendNull_278bc_42 : decode cJ5_appendNull_278bc 42 = .ok (.bastore, 1) := by decide +kernel
theorem dJ5_appendNull_278bc_43 : decode cJ5_appendNull_278bc 43 = .ok (.aload_n 2, 1) := by decide +kernel
theorem dJ5_appendNull_278bc_44 : decode cJ5_appendNull_278bc 44 = .ok (.iload_n 1, 1) := by decide +kernel
theorem dJ5_appendNull_278bc_45 : decode cJ5_appendNull_278bc 45 = .ok (.iinc 1 1, 3) := by decide +kernel
theorem dJ5_appendNull_278bc_48 : decode cJ5_appendNull_278bc 48 = .ok (.bipush 108, 2) := by decide +kernel
theorem dJ5_appendNull_278bc_50 : decode cJ5_appendNull_278bc 50 = .ok (.bastore, 1) := by decide +kernel
theorem dJ5_appendNull_278bc_51 : decode cJ5_appendNull_278bc 51 = .ok (.aload_n 2, 1) := by decide +kernel
theorem dJ5_appendNull_278bc_52 : decode cJ5_appendNull_278bc 52 = .ok (.iload_n 1, 1) := by decide +kernel
theorem dJ5_appendNull_278bc_53 : decode cJ5_appendNull_278bc 53 = .ok (.iinc 1 1, 3) := by decide +kernel
theorem dJ5_appendNull_278bc_56 : decode cJ5_appendNull_278bc 56 = .ok (.bipush 108, 2) := by decide +kernel
theorem dJ5_appendNull_278bc_58 : decode cJ5_appendNull_278bc 58 = .ok (.bastore, 1) := by decide +kernel
theorem dJ5_appendNull_278bc_59 : decode cJ5_appendNull_278bc 59 = .ok (.goto 17, 3) := by decide +kernel
theorem dJ5_appendNull_278bc_62 : decode cJ5_appendNull_278bc 62 = .ok (.aload_n 2, 1) := by decide +kernel
theorem dJ5_appendNull_278bc_63 : decode cJ5_appendNull_278bc 63 = .ok (.iload_n 1, 1) := by decide +kernel
theorem dJ5_appendNull_278bc_64 : decode cJ5_appendNull_278bc 64 = .ok (.bipush 110, 2) := by decide +kernel
theorem dJ5_appendNull_278bc_66 : decode cJ5_appendNull_278bc 66 = .ok (.bipush 117, 2) := by decide +kernel
theorem dJ5_appendNull_278bc_68 : decode cJ5_appendNull_278bc 68 = .ok (.bipush 108, 2) := by decide +kernel
theorem dJ5_appendNull_278bc_70 : decode cJ5_appendNull_278bc 70 = .ok (.bipush 108, 2) := by decide +kernel
theorem dJ5_appendNull_278bc_72 : decode cJ5_appendNull_278bc 72 = .ok (.invokestatic 226, 3) := by decide +kernel
theorem dJ5_appendNull_278bc_75 : decode cJ5_appendNull_278bc 75 = .ok (.istore_n 1, 1) := by decide +kernel
theorem dJ5_appendNull_278bc_76 : decode cJ5_appendNull_278bc 76 = .ok (.aload_n 0, 1) := by decide +kernel
theorem dJ5_appendNull_278bc_77 : decode cJ5_appendNull_278bc 77 = .ok (.iload_n 1, 1) := by decide +kernel
theorem dJ5_appendNull_278bc_78 : decode cJ5_appendNull_278bc 78 = .ok (.putfield 79, 3) := by decide +kernel
theorem dJ5_appendNull_278bc_81 : decode cJ5_appendNull_278bc 81 = .ok (.aload_n 0, 1) := by decide +kernel
theorem dJ5_appendNull_278bc_82 : decode cJ5_appendNull_278bc 82 = .ok (.areturn, 1) := by decide +kernel
theorem dJ5_append_3fe6f_0 : decode cJ5_append_3fe6f 0 = .ok (.aload_n 0, 1) := by decide +kernel
theorem dJ5_append_3fe6f_1 : decode cJ5_append_3fe6f 1 = .ok (.aload_n 0, 1) := by decide +kernel
theorem dJ5_append_3fe6f_2 : decode cJ5_append_3fe6f 2 = .ok (.getfield 79, 3) := by decide +kernel
theorem dJ5_append_3fe6f_5 : decode cJ5_append_3fe6f 5 = .ok (.iconst 1, 1) := by decide +kernel
theorem dJ5_append_3fe6f_6 : decode cJ5_append_3fe6f 6 = .ok (.iadd, 1) := by decide +kernel
theorem dJ5_append_3fe6f_7 : decode cJ5_append_3fe6f 7 = .ok (.invokevirtual 100, 3) := by decide +kernel
theorem dJ5_append_3fe6f_10 : decode cJ5_append_3fe6f 10 = .ok (.aload_n 0, 1) := by decide +kernel
theorem dJ5_append_3fe6f_11 : decode cJ5_append_3fe6f 11 = .ok (.invokevirtual 83, 3) := by decide +kernel
theorem dJ5_append_3fe6f_14 : decode cJ5_append_3fe6f 14 = .ok (.ifCond .eq 31, 3) := by decide +kernel
theorem dJ5_append_3fe6f_17 : decode cJ5_append_3fe6f 17 = .ok (.iload_n 1, 1) := by decide +kernel
theorem dJ5_append_3fe6f_18 : decode cJ5_append_3fe6f 18 = .ok (.invokestatic 191, 3) := by decide +kernel
theorem dJ5_append_3fe6f_21 : decode cJ5_append_3fe6f 21 = .ok (.ifCond .eq 24, 3) := by decide +kernel
theorem dJ5_append_3fe6f_24 : decode cJ5_append_3fe6f 24 = .ok (.aload_n 0, 1) := by decide +kernel
theorem dJ5_append_3fe6f_25 : decode cJ5_append_3fe6f 25 = .ok (.getfield 15, 3) := by decide +kernel
theorem dJ5_append_3fe6f_28 : decode cJ5_append_3fe6f 28 = .ok (.aload_n 0, 1) := by decide +kernel
theorem dJ5_append_3fe6f_29 : decode cJ5_append_3fe6f 29 = .ok (.dup, 1) := by decide +kernel
theorem dJ5_append_3fe6f_30 : decode cJ5_append_3fe6f 30 = .ok (.getfield 79, 3) := by decide +kernel
theorem dJ5_append_3fe6f_33 : decode cJ5_append_3fe6f 33 = .ok (.dup_x1, 1) := by decide +kernel
theorem dJ5_append_3fe6f_34 : decode cJ5_append_3fe6f 34 = .ok (.iconst 1, 1) := by decide +kernel
theorem dJ5_append_3fe6f_35 : decode cJ5_append_3fe6f 35 = .ok (.iadd, 1) := by decide +kernel
theorem dJ5_append_3fe6f_36 : decode cJ5_append_3fe6f 36 = .ok (.putfield 79, 3) := by decide +kernel
theorem dJ5_append_3fe6f_39 : decode cJ5_append_3fe6f 39 = .ok (.iload_n 1, 1) := by decide +kernel
theorem dJ5_append_3fe6f_40 : decode cJ5_append_3fe6f 40 = .ok (.i2b, 1) := by decide +kernel
theorem dJ5_append_3fe6f_41 : decode cJ5_append_3fe6f 41 = .ok (.bastore, 1) := by decide +kernel
theorem dJ5_append_3fe6f_42 : decode cJ5_append_3fe6f 42 = .ok (.goto 33, 3) := by decide +kernel
theorem dJ5_append_3fe6f_45 : decode cJ5_append_3fe6f 45 = .ok (.aload_n 0, 1) := by decide +kernel
theorem dJ5_append_3fe6f_46 : decode cJ5_append_3fe6f 46 = .ok (.invokevirtual 83, 3) := by decide +kernel
theorem dJ5_append_3fe6f_49 : decode cJ5_append_3fe6f 49 = .ok (.ifCond .eq 7, 3) := by decide +kernel
theorem dJ5_append_3fe6f_52 : decode cJ5_append_3fe6f 52 = .ok (.aload_n 0, 1) := by decide +kernel
theorem dJ5_append_3fe6f_53 : decode cJ5_append_3fe6f 53 = .ok (.invokevirtual 195, 3) := by decide +kernel
theorem dJ5_append_3fe6f_56 : decode cJ5_append_3fe6f 56 = .ok (.aload_n 0, 1) := by decide +kernel
theorem dJ5_append_3fe6f_57 : decode cJ5_append_3fe6f 57 = .ok (.getfield 15, 3) := by decide +kernel
theorem dJ5_append_3fe6f_60 : decode cJ5_append_3fe6f 60 = .ok (.aload_n 0, 1) := by decide +kernel
theorem dJ5_append_3fe6f_61 : decode cJ5_append_3fe6f 61 = .ok (.dup, 1) := by decide +kernel
theorem dJ5_append_3fe6f_62 : decode cJ5_append_3fe6f 62 = .ok (.getfield 79, 3) := by decide +kernel
theorem dJ5_append_3fe6f_65 : decode cJ5_append_3fe6f 65 = .ok (.dup_x1, 1) := by decide +kernel
theorem dJ5_append_3fe6f_66 : decode cJ5_append_3fe6f 66 = .ok (.iconst 1, 1) := by decide +kernel
theorem dJ5_append_3fe6f_67 : decode cJ5_append_3fe6f 67 = .ok (.iadd, 1) := by decide +kernel
theorem dJ5_append_3fe6f_68 : decode cJ5_append_3fe6f 68 = .ok (.putfield 79, 3) := by decide +kernel
theorem dJ5_append_3fe6f_71 : decode cJ5_append_3fe6f 71 = .ok (.iload_n 1, 1) := by decide +kernel
theorem dJ5_append_3fe6f_72 : decode cJ5_append_3fe6f 72 = .ok (.invokestatic 197, 3) := by decide +kernel
theorem dJ5_append_3fe6f_75 : decode cJ5_append_3fe6f 75 = .ok (.aload_n 0, 1) := by decide +kernel
theorem dJ5_append_3fe6f_76 : decode cJ5_append_3fe6f 76 = .ok (.areturn, 1) := by decide +kernel
theorem dJ5_append_c97b9_0 : decode cJ5_append_c97b9 0 = .ok (.aload_n 0, 1) := by decide +kernel
theorem dJ5_append_c97b9_1 : decode cJ5_append_c97b9 1 = .ok (.getfield 79, 3) := by decide +kernel
theorem dJ5_append_c97b9_4 : decode cJ5_append_c97b9 4 = .ok (.istore_n 2, 1) := by decide +kernel
theorem dJ5_append_c97b9_5 : decode cJ5_append_c97b9 5 = .ok (.iload_n 2, 1) := by decide +kernel
theorem dJ5_append_c97b9_6 : decode cJ5_append_c97b9 6 = .ok (.iload_n 1, 1) := by decide +kernel
theorem dJ5_append_c97b9_7 : decode cJ5_append_c97b9 7 = .ok (.invokestatic 245, 3) := by decide +kernel
theorem dJ5_append_c97b9_10 : decode cJ5_append_c97b9 10 = .ok (.iadd, 1) := by decide +kernel
theorem dJ5_append_c97b9_11 : decode cJ5_append_c97b9 11 = .ok (.istore_n 3, 1) := by decide +kernel
theorem dJ5_append_c97b9_12 : decode cJ5_append_c97b9 12 = .ok (.aload_n 0, 1) := by decide +kernel
theorem dJ5_append_c97b9_13 : decode cJ5_append_c97b9 13 = .ok (.iload_n 3, 1) := by decide +kernel
theorem dJ5_append_c97b9_14 : decode cJ5_append_c97b9 14 = .ok (.invokevirtual 100, 3) := by decide +kernel
theorem dJ5_append_c97b9_17 : decode cJ5_append_c97b9 17 = .ok (.aload_n 0, 1) := by decide +kernel
theorem dJ5_append_c97b9_18 : decode cJ5_append_c97b9 18 = .ok (.invokevirtual 83, 3) := by decide +kernel
theorem dJ5_append_c97b9_21 : decode cJ5_append_c97b9 21 = .ok (.ifCond .eq 16, 3) := by decide +kernel
theorem dJ5_append_c97b9_24 : decode cJ5_append_c97b9 24 = .ok (.iload_n 1, 1) := by decide +kernel
theorem dJ5_append_c97b9_25 : decode cJ5_append_c97b9 25 = .ok (.iload_n 3, 1) := by decide +kernel
theorem dJ5_append_c97b9_26 : decode cJ5_append_c97b9 26 = .ok (.aload_n 0, 1) := by decide +kernel
theorem dJ5_append_c97b9_27 : decode cJ5_append_c97b9 27 = .ok (.getfield 15, 3) := by decide +kernel
theorem dJ5_append_c97b9_30 : decode cJ5_append_c97b9 30 = .ok (.invokestatic 248, 3) := by decide +kernel
theorem dJ5_append_c97b9_33 : decode cJ5_append_c97b9 33 = .ok (.pop, 1) := by decide +kernel
theorem dJ5_append_c97b9_34 : decode cJ5_append_c97b9 34 = .ok (.goto 14, 3) := by decide +kernel
theorem dJ5_append_c97b9_37 : decode cJ5_append_c97b9 37 = .ok (.iload_n 1, 1) := by decide +kernel
theorem dJ5_append_c97b9_38 : decode cJ5_append_c97b9 38 = .ok (.iload_n 2, 1) := by decide +kernel
theorem dJ5_append_c97b9_39 : decode cJ5_append_c97b9 39 = .ok (.iload_n 3, 1) := by decide +kernel
theorem dJ5_append_c97b9_40 : decode cJ5_append_c97b9 40 = .ok (.aload_n 0, 1) := by decide +kernel
theorem dJ5_append_c97b9_41 : decode cJ5_append_c97b9 41 = .ok (.getfield 15, 3) := by decide +kernel
theorem dJ5_append_c97b9_44 : decode cJ5_append_c97b9 44 = .ok (.invokestatic 251, 3) := by decide +kernel
theorem dJ5_append_c97b9_47 : decode cJ5_append_c97b9 47 = .ok (.pop, 1) := by decide +kernel
theorem dJ5_append_c97b9_48 : decode cJ5_append_c97b9 48 = .ok (.aload_n 0, 1) := by decide +kernel
theorem dJ5_append_c97b9_49 : decode cJ5_append_c97b9 49 = .ok (.iload_n 3, 1) := by decide +kernel
theorem dJ5_append_c97b9_50 : decode cJ5_append_c97b9 50 = .ok (.putfield 79, 3) := by decide +kernel
theorem dJ5_append_c97b9_53 : decode cJ5_append_c97b9 53 = .ok (.aload_n 0, 1) := by decide +kernel
theorem dJ5_append_c97b9_54 : decode cJ5_append_c97b9 54 = .ok (.areturn, 1) := by decide +kernel
theorem dJ5_getValue_6d5f1_0 : decode cJ5_getValue_6d5f1 0 = .ok (.aload_n 0, 1) := by decide +kernel
theorem dJ5_getValue_6d5f1_1 : decode cJ5_getValue_6d5f1 1 = .ok (.getfield 15, 3) := by decide +kernel
theorem dJ5_getValue_6d5f1_4 : decode cJ5_getValue_6d5f1 4 = .ok (.areturn, 1) := by decide +kernel
theorem dJ5_isLatin1_aae02_0 : decode cJ5_isLatin1_aae02 0 = .ok (.getstatic 18, 3) := by decide +kernel
theorem dJ5_isLatin1_aae02_3 : decode cJ5_isLatin1_aae02 3 = .ok (.ifCond .eq 14, 3) := by decide +kernel
theorem dJ5_isLatin1_aae02_6 : decode cJ5_isLatin1_aae02 6 = .ok (.aload_n 0, 1) := by decide +kernel
theorem dJ5_isLatin1_aae02_7 : decode cJ5_isLatin1_aae02 7 = .ok (.getfield 22, 3) := by decide +kernel
theorem dJ5_isLatin1_aae02_10 : decode cJ5_isLatin1_aae02 10 = .ok (.ifCond .ne 7, 3) := by decide +kernel
theorem dJ5_isLatin1_aae02_13 : decode cJ5_isLatin1_aae02 13 = .ok (.iconst 1, 1) := by decide +kernel
theorem dJ5_isLatin1_aae02_14 : decode cJ5_isLatin1_aae02 14 = .ok (.goto 4, 3) := by decide +kernel
theorem dJ5_isLatin1_aae02_17 : decode cJ5_isLatin1_aae02 17 = .ok (.iconst 0, 1) := by decide +kernel
theorem dJ5_isLatin1_aae02_18 : decode cJ5_isLatin1_aae02 18 = .ok (.ireturn, 1) := by decide +kernel
theorem dJ5_inflateIfNeededFor_a7421_0 : decode cJ5_inflateIfNeededFor_a7421 0 = .ok (.getstatic 18, 3) := by decide +kernel
theorem dJ5_inflateIfNeededFor_a7421_3 : decode cJ5_inflateIfNeededFor_a7421 3 = .ok (.ifCond .eq 18, 3) := by decide +kernel
theorem dJ5_inflateIfNeededFor_a7421_6 : decode cJ5_inflateIfNeededFor_a7421 6 = .ok (.aload_n 0, 1) := by decide +kernel
theorem dJ5_inflateIfNeededFor_a7421_7 : decode cJ5_inflateIfNeededFor_a7421 7 = .ok (.getfield 22, 3) := by decide +kernel
theorem dJ5_inflateIfNeededFor_a7421_10 : decode cJ5_inflateIfNeededFor_a7421 10 = .ok (.aload_n 1, 1) := by decide +kernel
theorem dJ5_inflateIfNeededFor_a7421_11 : decode cJ5_inflateIfNeededFor_a7421 11 = .ok (.invokevirtual 40, 3) := by decide +kernel
theorem dJ5_inflateIfNeededFor_a7421_14 : decode cJ5_inflateIfNeededFor_a7421 14 = .ok (.if_icmp .eq 7, 3) := by decide +kernel
theorem dJ5_inflateIfNeededFor_a7421_17 : decode cJ5_inflateIfNeededFor_a7421 17 = .ok (.aload_n 0, 1) := by decide +kernel
theorem dJ5_inflateIfNeededFor_a7421_18 : decode cJ5_inflateIfNeededFor_a7421 18 = .ok (.invokevirtual 195, 3) := by decide +kernel
theorem dJ5_inflateIfNeededFor_a7421_21 : decode cJ5_inflateIfNeededFor_a7421 21 = .ok (.return_, 1) := by decide +kernel
theorem dJ5_putStringAt_47b60_0 : decode cJ5_putStringAt_47b60 0 = .ok (.aload_n 0, 1) := by decide +kernel
theorem dJ5_putStringAt_47b60_1 : decode cJ5_putStringAt_47b60 1 = .ok (.aload_n 2, 1) := by decide +kernel
theorem dJ5_putStringAt_47b60_2 : decode cJ5_putStringAt_47b60 2 = .ok (.invokevirtual 397, 3) := by decide +kernel
theorem dJ5_putStringAt_47b60_5 : decode cJ5_putStringAt_47b60 5 = .ok (.aload_n 2, 1) := by decide +kernel
theorem dJ5_putStringAt_47b60_6 : decode cJ5_putStringAt_47b60 6 = .ok (.aload_n 0, 1) := by decide +kernel
theorem dJ5_putStringAt_47b60_7 : decode cJ5_putStringAt_47b60 7 = .ok (.getfield 15, 3) := by decide +kernel
theorem dJ5_putStringAt_47b60_10 : decode cJ5_putStringAt_47b60 10 = .ok (.iload_n 1, 1) := by decide +kernel
theorem dJ5_putStringAt_47b60_11 : decode cJ5_putStringAt_47b60 11 = .ok (.aload_n 0, 1) := by decide +kernel
theorem dJ5_putStringAt_47b60_12 : decode cJ5_putStringAt_47b60 12 = .ok (.getfield 22, 3) := by decide +kernel
theorem dJ5_putStringAt_47b60_15 : decode cJ5_putStringAt_47b60 15 = .ok (.invokevirtual 399, 3) := by decide +kernel
theorem dJ5_putStringAt_47b60_18 : decode cJ5_putStringAt_47b60 18 = .ok (.return_, 1) := by decide +kernel
theorem dJ6_getChars_ba4f3_0 : decode cJ6_getChars_ba4f3 0 = .ok (.iload_n 1, 1) := by decide +kernel
theorem dJ6_getChars_ba4f3_1 : decode cJ6_getChars_ba4f3 1 = .ok (.istore 5, 2) := by decide +kernel
theorem dJ6_getChars_ba4f3_3 : decode cJ6_getChars_ba4f3 3 = .ok (.iload_n 0, 1) := by decide +kernel
theorem dJ6_getChars_ba4f3_4 : decode cJ6_getChars_ba4f3 4 = .ok (.ifCond .ge 7, 3) := by decide +kernel
theorem dJ6_getChars_ba4f3_7 : decode cJ6_getChars_ba4f3 7 = .ok (.iconst 1, 1) := by decide +kernel
theorem dJ6_getChars_ba4f3_8 : decode cJ6_getChars_ba4f3 8 = .ok (.goto 4, 3) := by decide +kernel
theorem dJ6_getChars_ba4f3_11 : decode cJ6_getChars_ba4f3 11 = .ok (.iconst 0, 1) := by decide +kernel
theorem dJ6_getChars_ba4f3_12 : decode cJ6_getChars_ba4f3 12 = .ok (.istore 6, 2) := by decide +kernel
theorem dJ6_getChars_ba4f3_14 : decode cJ6_getChars_ba4f3 14 = .ok (.iload 6, 2) := by decide +kernel
theorem dJ6_getChars_ba4f3_16 : decode cJ6_getChars_ba4f3 16 = .ok (.ifCond .ne 6, 3) := by decide +kernel
theorem dJ6_getChars_ba4f3_19 : decode cJ6_getChars_ba4f3 19 = .ok (.iload_n 0, 1) := by decide +kernel
theorem dJ6_getChars_ba4f3_20 : decode cJ6_getChars_ba4f3 20 = .ok (.ineg, 1) := by decide +kernel
theorem dJ6_getChars_ba4f3_21 : decode cJ6_getChars_ba4f3 21 = .ok (.istore_n 0, 1) := by decide +kernel
theorem dJ6_getChars_ba4f3_22 : decode cJ6_getChars_ba4f3 22 = .ok (.iload_n 0, 1) := by decide +kernel
theorem dJ6_getChars_ba4f3_23 : decode cJ6_getChars_ba4f3 23 = .ok (.bipush (-100), 2) := by decide +kernel
theorem dJ6_getChars_ba4f3_25 : decode cJ6_getChars_ba4f3 25 = .ok (.if_icmp .gt 47, 3) := by decide +kernel
theorem dJ6_getChars_ba4f3_28 : decode cJ6_getChars_ba4f3 28 = .ok (.iload_n 0, 1) := by decide +kernel
theorem dJ6_getChars_ba4f3_29 : decode cJ6_getChars_ba4f3 29 = .ok (.bipush 100, 2) := by decide +kernel
theorem dJ6_getChars_ba4f3_31 : decode cJ6_getChars_ba4f3 31 = .ok (.idiv, 1) := by decide +kernel
theorem dJ6_getChars_ba4f3_32 : decode cJ6_getChars_ba4f3 32 = .ok (.istore_n 3, 1) := by decide +kernel
theorem dJ6_getChars_ba4f3_33 : decode cJ6_getChars_ba4f3 33 = .ok (.iload_n 3, 1) := by decide +kernel
theorem dJ6_getChars_ba4f3_34 : decode cJ6_getChars_ba4f3 34 = .ok (.bipush 100, 2) := by decide +kernel
theorem dJ6_getChars_ba4f3_36 : decode cJ6_getChars_ba4f3 36 = .ok (.imul, 1) := by decide +kernel
theorem dJ6_getChars_ba4f3_37 : decode cJ6_getChars_ba4f3 37 = .ok (.iload_n 0, 1) := by decide +kernel
theorem dJ6_getChars_ba4f3_38 : decode cJ6_getChars_ba4f3 38 = .ok (.isub, 1) := by decide +kernel
theorem dJ6_getChars_ba4f3_39 : decode cJ6_getChars_ba4f3 39 = .ok (.istore 4, 2) := by decide +kernel
theorem dJ6_getChars_ba4f3_41 : decode cJ6_getChars_ba4f3 41 = .ok (.iload_n 3, 1) := by decide +kernel
theorem dJ6_getChars_ba4f3_42 : decode cJ6_getChars_ba4f3 42 = .ok (.istore_n 0, 1) := by decide +kernel
theorem dJ6_getChars_ba4f3_43 : decode cJ6_getChars_ba4f3 43 = .ok (.aload_n 2, 1) := by decide +kernel
theorem dJ6_getChars_ba4f3_44 : decode cJ6_getChars_ba4f3 44 = .ok (.iinc 5 (-1), 3) := by decide +kernel
theorem dJ6_getChars_ba4f3_47 : decode cJ6_getChars_ba4f3 47 = .ok (.iload 5, 2) := by decide +kernel
theorem dJ6_getChars_ba4f3_49 : decode cJ6_getChars_ba4f3 49 = .ok (.getstatic 83, 3) := by decide +kernel
theorem dJ6_getChars_ba4f3_52 : decode cJ6_getChars_ba4f3 52 = .ok (.iload 4, 2) := by decide +kernel
theorem dJ6_getChars_ba4f3_54 : decode cJ6_getChars_ba4f3 54 = .ok (.baload, 1) := by decide +kernel
theorem dJ6_getChars_ba4f3_55 : decode cJ6_getChars_ba4f3 55 = .ok (.bastore, 1) := by decide +kernel
theorem dJ6_getChars_ba4f3_56 : decode cJ6_getChars_ba4f3 56 = .ok (.aload_n 2, 1) := by decide +kernel
theorem dJ6_getChars_ba4f3_57 : decode cJ6_getChars_ba4f3 57 = .ok (.iinc 5 (-1), 3) := by decide +kernel
theorem dJ6_getChars_ba4f3_60 : decode cJ6_getChars_ba4f3 60 = .ok (.iload 5, 2) := by decide +kernel
theorem dJ6_getChars_ba4f3_62 : decode cJ6_getChars_ba4f3 62 = .ok (.getstatic 87, 3) := by decide +kernel
theorem dJ6_getChars_ba4f3_65 : decode cJ6_getChars_ba4f3 65 = .ok (.iload 4, 2) := by decide +kernel
theorem dJ6_getChars_ba4f3_67 : decode cJ6_getChars_ba4f3 67 = .ok (.baload, 1) := by decide +kernel
theorem dJ6_getChars_ba4f3_68 : decode cJ6_getChars_ba4f3 68 = .ok (.bastore, 1) := by decide +kernel
theorem dJ6_getChars_ba4f3_69 : decode cJ6_getChars_ba4f3 69 = .ok (.goto (-47), 3) := by decide +kernel
theorem dJ6_getChars_ba4f3_72 : decode cJ6_getChars_ba4f3 72 = .ok (.aload_n 2, 1) := by decide +kernel
theorem dJ6_getChars_ba4f3_73 : decode cJ6_getChars_ba4f3 73 = .ok (.iinc 5 (-1), 3) := by decide +kernel
theorem dJ6_getChars_ba4f3_76 : decode cJ6_getChars_ba4f3 76 = .ok (.iload 5, 2) := by decide +kernel
theorem dJ6_getChars_ba4f3_78 : decode cJ6_getChars_ba4f3 78 = .ok (.getstatic 83, 3) := by decide +kernel
theorem dJ6_getChars_ba4f3_81 : decode cJ6_getChars_ba4f3 81 = .ok (.iload_n 0, 1) := by decide +kernel
theorem dJ6_getChars_ba4f3_82 : decode cJ6_getChars_ba4f3 82 = .ok (.ineg, 1) := by decide +kernel
theorem dJ6_getChars_ba4f3_83 : decode cJ6_getChars_ba4f3 83 = .ok (.baload, 1) := by decide +kernel
theorem dJ6_getChars_ba4f3_84 : decode cJ6_getChars_ba4f3 84 = .ok (.bastore, 1) := by decide +kernel
theorem dJ6_getChars_ba4f3_85 : decode cJ6_getChars_ba4f3 85 = .ok (.iload_n 0, 1) := by decide +kernel
theorem dJ6_getChars_ba4f3_86 : decode cJ6_getChars_ba4f3 86 = .ok (.bipush (-9), 2) := by decide +kernel
theorem dJ6_getChars_ba4f3_88 : decode cJ6_getChars_ba4f3 88 = .ok (.if_icmp .ge 16, 3) := by decide +kernel
theorem dJ6_getChars_ba4f3_91 : decode cJ6_getChars_ba4f3 91 = .ok (.aload_n 2, 1) := by decide +kernel
theorem dJ6_getChars_ba4f3_92 : decode cJ6_getChars_ba4f3 92 = .ok (.iinc 5 (-1), 3) := by decide +kernel
theorem dJ6_getChars_ba4f3_95 : decode cJ6_getChars_ba4f3 95 = .ok (.iload 5, 2) := by decide +kernel
theorem dJ6_getChars_ba4f3_97 : decode cJ6_getChars_ba4f3 97 = .ok (.getstatic 87, 3) := by decide +kernel
theorem dJ6_getChars_ba4f3_100 : decode cJ6_getChars_ba4f3 100 = .ok (.iload_n 0, 1) := by decide +kernel
theorem dJ6_getChars_ba4f3_101 : decode cJ6_getChars_ba4f3 101 = .ok (.ineg, 1) := by decide +kernel
theorem dJ6_getChars_ba4f3_102 : decode cJ6_getChars_ba4f3 102 = .ok (.baload, 1) := by decide +kernel
theorem dJ6_getChars_ba4f3_103 : decode cJ6_getChars_ba4f3 103 = .ok (.bastore, 1) := by decide +kernel
theorem dJ6_getChars_ba4f3_104 : decode cJ6_getChars_ba4f3 104 = .ok (.iload 6, 2) := by decide +kernel
theorem dJ6_getChars_ba4f3_106 : decode cJ6_getChars_ba4f3 106 = .ok (.ifCond .eq 12, 3) := by decide +kernel
theorem dJ6_getChars_ba4f3_109 : decode cJ6_getChars_ba4f3 109 = .ok (.aload_n 2, 1) := by decide +kernel
theorem dJ6_getChars_ba4f3_110 : decode cJ6_getChars_ba4f3 110 = .ok (.iinc 5 (-1), 3) := by decide +kernel
theorem dJ6_getChars_ba4f3_113 : decode cJ6_getChars_ba4f3 113 = .ok (.iload 5, 2) := by decide +kernel
theorem dJ6_getChars_ba4f3_115 : decode cJ6_getChars_ba4f3 115 = .ok (.bipush 45, 2) := by decide +kernel
theorem dJ6_getChars_ba4f3_117 : decode cJ6_getChars_ba4f3 117 = .ok (.bastore, 1) := by decide +kernel
theorem dJ6_getChars_ba4f3_118 : decode cJ6_getChars_ba4f3 118 = .ok (.iload 5, 2) := by decide +kernel
theorem dJ6_getChars_ba4f3_120 : decode cJ6_getChars_ba4f3 120 = .ok (.ireturn, 1) := by decide +kernel
theorem dJ6_stringSize_0f7a4_0 : decode cJ6_stringSize_0f7a4 0 = .ok (.iconst 1, 1) := by decide +kernel
theorem dJ6_stringSize_0f7a4_1 : decode cJ6_stringSize_0f7a4 1 = .ok (.istore_n 1, 1) := by decide +kernel
theorem dJ6_stringSize_0f7a4_2 : decode cJ6_stringSize_0f7a4 2 = .ok (.iload_n 0, 1) := by decide +kernel
theorem dJ6_stringSize_0f7a4_3 : decode cJ6_stringSize_0f7a4 3 = .ok (.ifCond .lt 8, 3) := by decide +kernel
theorem dJ6_stringSize_0f7a4_6 : decode cJ6_stringSize_0f7a4 6 = .ok (.iconst 0, 1) := by decide +kernel
theorem dJ6_stringSize_0f7a4_7 : decode cJ6_stringSize_0f7a4 7 = .ok (.istore_n 1, 1) := by decide +kernel
theorem dJ6_stringSize_0f7a4_8 : decode cJ6_stringSize_0f7a4 8 = .ok (.iload_n 0, 1) := by decide +kernel
theorem dJ6_stringSize_0f7a4_9 : decode cJ6_stringSize_0f7a4 9 = .ok (.ineg, 1) := by decide +kernel
theorem dJ6_stringSize_0f7a4_10 : decode cJ6_stringSize_0f7a4 10 = .ok (.istore_n 0, 1) := by decide +kernel
theorem dJ6_stringSize_0f7a4_11 : decode cJ6_stringSize_0f7a4 11 = .ok (.bipush (-10), 2) := by decide +kernel
theorem dJ6_stringSize_0f7a4_13 : decode cJ6_stringSize_0f7a4 13 = .ok (.istore_n 2, 1) := by decide +kernel
theorem dJ6_stringSize_0f7a4_14 : decode cJ6_stringSize_0f7a4 14 = .ok (.iconst 1, 1) := by decide +kernel
theorem dJ6_stringSize_0f7a4_15 : decode cJ6_stringSize_0f7a4 15 = .ok (.istore_n 3, 1) := by decide +kernel
theorem dJ6_stringSize_0f7a4_16 : decode cJ6_stringSize_0f7a4 16 = .ok (.iload_n 3, 1) := by decide +kernel
theorem dJ6_stringSize_0f7a4_17 : decode cJ6_stringSize_0f7a4 17 = .ok (.bipush 10, 2) := by decide +kernel
theorem dJ6_stringSize_0f7a4_19 : decode cJ6_stringSize_0f7a4 19 = .ok (.if_icmp .ge 23, 3) := by decide +kernel
theorem dJ6_stringSize_0f7a4_22 : decode cJ6_stringSize_0f7a4 22 = .ok (.iload_n 0, 1) := by decide +kernel
theorem dJ6_stringSize_0f7a4_23 : decode cJ6_stringSize_0f7a4 23 = .ok (.iload_n 2, 1) := by decide +kernel
theorem dJ6_stringSize_0f7a4_24 : decode cJ6_stringSize_0f7a4 24 = .ok (.if_icmp .le 7, 3) := by decide +kernel
theorem dJ6_stringSize_0f7a4_27 : decode cJ6_stringSize_0f7a4 27 = .ok (.iload_n 3, 1) := by decide +kernel
theorem dJ6_stringSize_0f7a4_28 : decode cJ6_stringSize_0f7a4 28 = .ok (.iload_n 1, 1) := by decide +kernel
theorem dJ6_stringSize_0f7a4_29 : decode cJ6_stringSize_0f7a4 29 = .ok (.iadd, 1) := by decide +kernel
theorem dJ6_stringSize_0f7a4_30 : decode cJ6_stringSize_0f7a4 30 = .ok (.ireturn, 1) := by decide +kernel
theorem dJ6_stringSize_0f7a4_31 : decode cJ6_stringSize_0f7a4 31 = .ok (.bipush 10, 2) := by decide +kernel
theorem dJ6_stringSize_0f7a4_33 : decode cJ6_stringSize_0f7a4 33 = .ok (.iload_n 2, 1) := by decide +kernel
theorem dJ6_stringSize_0f7a4_34 : decode cJ6_stringSize_0f7a4 34 = .ok (.imul, 1) := by decide +kernel
theorem dJ6_stringSize_0f7a4_35 : decode cJ6_stringSize_0f7a4 35 = .ok (.istore_n 2, 1) := by decide +kernel
theorem dJ6_stringSize_0f7a4_36 : decode cJ6_stringSize_0f7a4 36 = .ok (.iinc 3 1, 3) := by decide +kernel
theorem dJ6_stringSize_0f7a4_39 : decode cJ6_stringSize_0f7a4 39 = .ok (.goto (-23), 3) := by decide +kernel
theorem dJ6_stringSize_0f7a4_42 : decode cJ6_stringSize_0f7a4 42 = .ok (.bipush 10, 2) := by decide +kernel
theorem dJ6_stringSize_0f7a4_44 : decode cJ6_stringSize_0f7a4 44 = .ok (.iload_n 1, 1) := by decide +kernel
theorem dJ6_stringSize_0f7a4_45 : decode cJ6_stringSize_0f7a4 45 = .ok (.iadd, 1) := by decide +kernel
theorem dJ6_stringSize_0f7a4_46 : decode cJ6_stringSize_0f7a4 46 = .ok (.ireturn, 1) := by decide +kernel
theorem dJ6_bitCount_0f7a4_0 : decode cJ6_bitCount_0f7a4 0 = .ok (.iload_n 0, 1) := by decide +kernel
theorem dJ6_bitCount_0f7a4_1 : decode cJ6_bitCount_0f7a4 1 = .ok (.iload_n 0, 1) := by decide +kernel
theorem dJ6_bitCount_0f7a4_2 : decode cJ6_bitCount_0f7a4 2 = .ok (.iconst 1, 1) := by decide +kernel
theorem dJ6_bitCount_0f7a4_3 : decode cJ6_bitCount_0f7a4 3 = .ok (.iushr, 1) := by decide +kernel
theorem dJ6_bitCount_0f7a4_4 : decode cJ6_bitCount_0f7a4 4 = .ok (.ldc_w 265, 3) := by decide +kernel
theorem dJ6_bitCount_0f7a4_7 : decode cJ6_bitCount_0f7a4 7 = .ok (.iand, 1) := by decide +kernel
theorem dJ6_bitCount_0f7a4_8 : decode cJ6_bitCount_0f7a4 8 = .ok (.isub, 1) := by decide +kernel
theorem dJ6_bitCount_0f7a4_9 : decode cJ6_bitCount_0f7a4 9 = .ok (.istore_n 0, 1) := by decide +kernel
theorem dJ6_bitCount_0f7a4_10 : decode cJ6_bitCount_0f7a4 10 = .ok (.iload_n 0, 1) := by decide +kernel
theorem dJ6_bitCount_0f7a4_11 : decode cJ6_bitCount_0f7a4 11 = .ok (.ldc_w 266, 3) := by decide +kernel
theorem dJ6_bitCount_0f7a4_14 : decode cJ6_bitCount_0f7a4 14 = .ok (.iand, 1) := by decide +kernel
theorem dJ6_bitCount_0f7a4_15 : decode cJ6_bitCount_0f7a4 15 = .ok (.iload_n 0, 1) := by decide +kernel
theorem dJ6_bitCount_0f7a4_16 : decode cJ6_bitCount_0f7a4 16 = .ok (.iconst 2, 1) := by decide +kernel
theorem dJ6_bitCount_0f7a4_17 : decode cJ6_bitCount_0f7a4 17 = .ok (.iushr, 1) := by decide +kernel
theorem dJ6_bitCount_0f7a4_18 : decode cJ6_bitCount_0f7a4 18 = .ok (.ldc_w 266, 3) := by decide +kernel
theorem dJ6_bitCount_0f7a4_21 : decode cJ6_bitCount_0f7a4 21 = .ok (.iand, 1) := by decide +kernel
theorem dJ6_bitCount_0f7a4_22 : decode cJ6_bitCount_0f7a4 22 = .ok (.iadd, 1) := by decide +kernel
theorem dJ6_bitCount_0f7a4_23 : decode cJ6_bitCount_0f7a4 23 = .ok (.istore_n 0, 1) := by decide +kernel
theorem dJ6_bitCount_0f7a4_24 : decode cJ6_bitCount_0f7a4 24 = .ok (.iload_n 0, 1) := by decide +kernel
theorem dJ6_bitCount_0f7a4_25 : decode cJ6_bitCount_0f7a4 25 = .ok (.iload_n 0, 1) := by decide +kernel
theorem dJ6_bitCount_0f7a4_26 : decode cJ6_bitCount_0f7a4 26 = .ok (.iconst 4, 1) := by decide +kernel
theorem dJ6_bitCount_0f7a4_27 : decode cJ6_bitCount_0f7a4 27 = .ok (.iushr, 1) := by decide +kernel
theorem dJ6_bitCount_0f7a4_28 : decode cJ6_bitCount_0f7a4 28 = .ok (.iadd, 1) := by decide +kernel
theorem dJ6_bitCount_0f7a4_29 : decode cJ6_bitCount_0f7a4 29 = .ok (.ldc_w 267, 3) := by decide +kernel
theorem dJ6_bitCount_0f7a4_32 : decode cJ6_bitCount_0f7a4 32 = .ok (.iand, 1) := by decide +kernel
theorem dJ6_bitCount_0f7a4_33 : decode cJ6_bitCount_0f7a4 33 = .ok (.istore_n 0, 1) := by decide +kernel
theorem dJ6_bitCount_0f7a4_34 : decode cJ6_bitCount_0f7a4 34 = .ok (.iload_n 0, 1) := by decide +kernel
theorem dJ6_bitCount_0f7a4_35 : decode cJ6_bitCount_0f7a4 35 = .ok (.iload_n 0, 1) := by decide +kernel
theorem dJ6_bitCount_0f7a4_36 : decode cJ6_bitCount_0f7a4 36 = .ok (.bipush 8, 2) := by decide +kernel
theorem dJ6_bitCount_0f7a4_38 : decode cJ6_bitCount_0f7a4 38 = .ok (.iushr, 1) := by decide +kernel
theorem dJ6_bitCount_0f7a4_39 : decode cJ6_bitCount_0f7a4 39 = .ok (.iadd, 1) := by decide +kernel
theorem dJ6_bitCount_0f7a4_40 : decode cJ6_bitCount_0f7a4 40 = .ok (.istore_n 0, 1) := by decide +kernel
theorem dJ6_bitCount_0f7a4_41 : decode cJ6_bitCount_0f7a4 41 = .ok (.iload_n 0, 1) := by decide +kernel
theorem dJ6_bitCount_0f7a4_42 : decode cJ6_bitCount_0f7a4 42 = .ok (.iload_n 0, 1) := by decide +kernel
theorem dJ6_bitCount_0f7a4_43 : decode cJ6_bitCount_0f7a4 43 = .ok (.bipush 16, 2) := by decide +kernel
theorem dJ6_bitCount_0f7a4_45 : decode cJ6_bitCount_0f7a4 45 = .ok (.iushr, 1) := by decide +kernel
theorem dJ6_bitCount_0f7a4_46 : decode cJ6_bitCount_0f7a4 46 = .ok (.iadd, 1) := by decide +kernel
theorem dJ6_bitCount_0f7a4_47 : decode cJ6_bitCount_0f7a4 47 = .ok (.istore_n 0, 1) := by decide +kernel
theorem dJ6_bitCount_0f7a4_48 : decode cJ6_bitCount_0f7a4 48 = .ok (.iload_n 0, 1) := by decide +kernel
theorem dJ6_bitCount_0f7a4_49 : decode cJ6_bitCount_0f7a4 49 = .ok (.bipush 63, 2) := by decide +kernel
theorem dJ6_bitCount_0f7a4_51 : decode cJ6_bitCount_0f7a4 51 = .ok (.iand, 1) := by decide +kernel
theorem dJ6_bitCount_0f7a4_52 : decode cJ6_bitCount_0f7a4 52 = .ok (.ireturn, 1) := by decide +kernel
theorem dJ9_max_7cf53_0 : decode cJ9_max_7cf53 0 = .ok (.iload_n 0, 1) := by decide +kernel
theorem dJ9_max_7cf53_1 : decode cJ9_max_7cf53 1 = .ok (.iload_n 1, 1) := by decide +kernel
theorem dJ9_max_7cf53_2 : decode cJ9_max_7cf53 2 = .ok (.if_icmp .lt 7, 3) := by decide +kernel
theorem dJ9_max_7cf53_5 : decode cJ9_max_7cf53 5 = .ok (.iload_n 0, 1) := by decide +kernel
theorem dJ9_max_7cf53_6 : decode cJ9_max_7cf53 6 = .ok (.goto 4, 3) := by decide +kernel
theorem dJ9_max_7cf53_9 : decode cJ9_max_7cf53 9 = .ok (.iload_n 1, 1) := by decide +kernel
theorem dJ9_max_7cf53_10 : decode cJ9_max_7cf53 10 = .ok (.ireturn, 1) := by decide +kernel
theorem dJ9_min_7cf53_0 : decode cJ9_min_7cf53 0 = .ok (.iload_n 0, 1) := by decide +kernel
theorem dJ9_min_7cf53_1 : decode cJ9_min_7cf53 1 = .ok (.iload_n 1, 1) := by decide +kernel
theorem dJ9_min_7cf53_2 : decode cJ9_min_7cf53 2 = .ok (.if_icmp .gt 7, 3) := by decide +kernel
theorem dJ9_min_7cf53_5 : decode cJ9_min_7cf53 5 = .ok (.iload_n 0, 1) := by decide +kernel
theorem dJ9_min_7cf53_6 : decode cJ9_min_7cf53 6 = .ok (.goto 4, 3) := by decide +kernel
theorem dJ9_min_7cf53_9 : decode cJ9_min_7cf53 9 = .ok (.iload_n 1, 1) := by decide +kernel
theorem dJ9_min_7cf53_10 : decode cJ9_min_7cf53 10 = .ok (.ireturn, 1) := by decide +kernel
theorem dJ0_init_81219_0 : decode cJ0_init_81219 0 = .ok (.aload_n 0, 1) := by decide +kernel
theorem dJ0_init_81219_1 : decode cJ0_init_81219 1 = .ok (.aload_n 1, 1) := by decide +kernel
theorem dJ0_init_81219_2 : decode cJ0_init_81219 2 = .ok (.aconst_null, 1) := by decide +kernel
theorem dJ0_init_81219_3 : decode cJ0_init_81219 3 = .ok (.invokespecial 489, 3) := by decide +kernel
theorem dJ0_init_81219_6 : decode cJ0_init_81219 6 = .ok (.return_, 1) := by decide +kernel
theorem dJ0_length_8abf5_0 : decode cJ0_length_8abf5 0 = .ok (.aload_n 0, 1) := by decide +kernel
theorem dJ0_length_8abf5_1 : decode cJ0_length_8abf5 1 = .ok (.getfield 9, 3) := by decide +kernel
theorem dJ0_length_8abf5_4 : decode cJ0_length_8abf5 4 = .ok (.arraylength, 1) := by decide +kernel
theorem dJ0_length_8abf5_5 : decode cJ0_length_8abf5 5 = .ok (.aload_n 0, 1) := by decide +kernel
theorem dJ0_length_8abf5_6 : decode cJ0_length_8abf5 6 = .ok (.invokevirtual 335, 3) := by decide +kernel
theorem dJ0_length_8abf5_9 : decode cJ0_length_8abf5 9 = .ok (.ishr, 1) := by decide +kernel
theorem dJ0_length_8abf5_10 : decode cJ0_length_8abf5 10 = .ok (.ireturn, 1) := by decide +kernel
theorem dJ0_charAt_5068e_0 : decode cJ0_charAt_5068e 0 = .ok (.aload_n 0, 1) := by decide +kernel
theorem dJ0_charAt_5068e_1 : decode cJ0_charAt_5068e 1 = .ok (.invokevirtual 492, 3) := by decide +kernel
theorem dJ0_charAt_5068e_4 : decode cJ0_charAt_5068e 4 = .ok (.ifCond .eq 12, 3) := by decide +kernel
theorem dJ0_charAt_5068e_7 : decode cJ0_charAt_5068e 7 = .ok (.aload_n 0, 1) := by decide +kernel
theorem dJ0_charAt_5068e_8 : decode cJ0_charAt_5068e 8 = .ok (.getfield 9, 3) := by decide +kernel
theorem dJ0_charAt_5068e_11 : decode cJ0_charAt_5068e 11 = .ok (.iload_n 1, 1) := by decide +kernel
theorem dJ0_charAt_5068e_12 : decode cJ0_charAt_5068e 12 = .ok (.invokestatic 495, 3) := by decide +kernel
theorem dJ0_charAt_5068e_15 : decode cJ0_charAt_5068e 15 = .ok (.ireturn, 1) := by decide +kernel
theorem dJ0_charAt_5068e_16 : decode cJ0_charAt_5068e 16 = .ok (.aload_n 0, 1) := by decide +kernel
theorem dJ0_charAt_5068e_17 : decode cJ0_charAt_5068e 17 = .ok (.getfield 9, 3) := by decide +kernel
theorem dJ0_charAt_5068e_20 : decode cJ0_charAt_5068e 20 = .ok (.iload_n 1, 1) := by decide +kernel
theorem dJ0_charAt_5068e_21 : decode cJ0_charAt_5068e 21 = .ok (.invokestatic 498, 3) := by decide +kernel
theorem dJ0_charAt_5068e_24 : decode cJ0_charAt_5068e 24 = .ok (.ireturn, 1) := by decide +kernel
theorem dJ0_getBytes_840e7_0 : decode cJ0_getBytes_840e7 0 = .ok (.aload_n 0, 1) := by decide +kernel
theorem dJ0_getBytes_840e7_1 : decode cJ0_getBytes_840e7 1 = .ok (.invokevirtual 335, 3) := by decide +kernel
theorem dJ0_getBytes_840e7_4 : decode cJ0_getBytes_840e7 4 = .ok (.iload_n 3, 1) := by decide +kernel
theorem dJ0_getBytes_840e7_5 : decode cJ0_getBytes_840e7 5 = .ok (.if_icmp .ne 23, 3) := by decide +kernel
theorem dJ0_getBytes_840e7_8 : decode cJ0_getBytes_840e7 8 = .ok (.aload_n 0, 1) := by decide +kernel
theorem dJ0_getBytes_840e7_9 : decode cJ0_getBytes_840e7 9 = .ok (.getfield 9, 3) := by decide +kernel
theorem dJ0_getBytes_840e7_12 : decode cJ0_getBytes_840e7 12 = .ok (.iconst 0, 1) := by decide +kernel
theorem dJ0_getBytes_840e7_13 : decode cJ0_getBytes_840e7 13 = .ok (.aload_n 1, 1) := by decide +kernel
theorem dJ0_getBytes_840e7_14 : decode cJ0_getBytes_840e7 14 = .ok (.iload_n 2, 1) := by decide +kernel
theorem dJ0_getBytes_840e7_15 : decode cJ0_getBytes_840e7 15 = .ok (.iload_n 3, 1) := by decide +kernel
theorem dJ0_getBytes_840e7_16 : decode cJ0_getBytes_840e7 16 = .ok (.ishl, 1) := by decide +kernel
theorem dJ0_getBytes_840e7_17 : decode cJ0_getBytes_840e7 17 = .ok (.aload_n 0, 1) := by decide +kernel
theorem dJ0_getBytes_840e7_18 : decode cJ0_getBytes_840e7 18 = .ok (.getfield 9, 3) := by decide +kernel
theorem dJ0_getBytes_840e7_21 : decode cJ0_getBytes_840e7 21 = .ok (.arraylength, 1) := by decide +kernel
theorem dJ0_getBytes_840e7_22 : decode cJ0_getBytes_840e7 22 = .ok (.invokestatic 212, 3) := by decide +kernel
theorem dJ0_getBytes_840e7_25 : decode cJ0_getBytes_840e7 25 = .ok (.goto 18, 3) := by decide +kernel
theorem dJ0_getBytes_840e7_28 : decode cJ0_getBytes_840e7 28 = .ok (.aload_n 0, 1) := by decide +kernel
theorem dJ0_getBytes_840e7_29 : decode cJ0_getBytes_840e7 29 = .ok (.getfield 9, 3) := by decide +kernel
theorem dJ0_getBytes_840e7_32 : decode cJ0_getBytes_840e7 32 = .ok (.iconst 0, 1) := by decide +kernel
theorem dJ0_getBytes_840e7_33 : decode cJ0_getBytes_840e7 33 = .ok (.aload_n 1, 1) := by decide +kernel
theorem dJ0_getBytes_840e7_34 : decode cJ0_getBytes_840e7 34 = .ok (.iload_n 2, 1) := by decide +kernel
theorem dJ0_getBytes_840e7_35 : decode cJ0_getBytes_840e7 35 = .ok (.aload_n 0, 1) := by decide +kernel
theorem dJ0_getBytes_840e7_36 : decode cJ0_getBytes_840e7 36 = .ok (.getfield 9, 3) := by decide +kernel
theorem dJ0_getBytes_840e7_39 : decode cJ0_getBytes_840e7 39 = .ok (.arraylength, 1) := by decide +kernel
theorem dJ0_getBytes_840e7_40 : decode cJ0_getBytes_840e7 40 = .ok (.invokestatic 106, 3) := by decide +kernel
theorem dJ0_getBytes_840e7_43 : decode cJ0_getBytes_840e7 43 = .ok (.return_, 1) := by decide +kernel
theorem dJ0_init_db425_0 : decode cJ0_init_db425 0 = .ok (.aload_n 0, 1) := by decide +kernel
theorem dJ0_init_db425_1 : decode cJ0_init_db425 1 = .ok (.invokespecial 1, 3) := by decide +kernel
theorem dJ0_init_db425_4 : decode cJ0_init_db425 4 = .ok (.aload_n 1, 1) := by decide +kernel
theorem dJ0_init_db425_5 : decode cJ0_init_db425 5 = .ok (.invokevirtual 552, 3) := by decide +kernel
theorem dJ0_init_db425_8 : decode cJ0_init_db425 8 = .ok (.astore_n 3, 1) := by decide +kernel
theorem dJ0_init_db425_9 : decode cJ0_init_db425 9 = .ok (.aload_n 1, 1) := by decide +kernel
theorem dJ0_init_db425_10 : decode cJ0_init_db425 10 = .ok (.invokevirtual 549, 3) := by decide +kernel
theorem dJ0_init_db425_13 : decode cJ0_init_db425 13 = .ok (.istore 4, 2) := by decide +kernel
theorem dJ0_init_db425_15 : decode cJ0_init_db425 15 = .ok (.aload_n 1, 1) := by decide +kernel
theorem dJ0_init_db425_16 : decode cJ0_init_db425 16 = .ok (.invokevirtual 1047, 3) := by decide +kernel
theorem dJ0_init_db425_19 : decode cJ0_init_db425 19 = .ok (.ifCond .eq 22, 3) := by decide +kernel
theorem dJ0_init_db425_22 : decode cJ0_init_db425 22 = .ok (.aload_n 0, 1) := by decide +kernel
theorem dJ0_init_db425_23 : decode cJ0_init_db425 23 = .ok (.iconst 0, 1) := by decide +kernel
theorem dJ0_init_db425_24 : decode cJ0_init_db425 24 = .ok (.putfield 15, 3) := by decide +kernel
theorem dJ0_init_db425_27 : decode cJ0_init_db425 27 = .ok (.aload_n 0, 1) := by decide +kernel
theorem dJ0_init_db425_28 : decode cJ0_init_db425 28 = .ok (.aload_n 3, 1) := by decide +kernel
theorem dJ0_init_db425_29 : decode cJ0_init_db425 29 = .ok (.iconst 0, 1) := by decide +kernel
theorem dJ0_init_db425_30 : decode cJ0_init_db425 30 = .ok (.iload 4, 2) := by decide +kernel
theorem dJ0_init_db425_32 : decode cJ0_init_db425 32 = .ok (.invokestatic 54, 3) := by decide +kernel
theorem dJ0_init_db425_35 : decode cJ0_init_db425 35 = .ok (.putfield 9, 3) := by decide +kernel
theorem dJ0_init_db425_38 : decode cJ0_init_db425 38 = .ok (.goto 59, 3) := by decide +kernel
theorem dJ0_init_db425_41 : decode cJ0_init_db425 41 = .ok (.getstatic 38, 3) := by decide +kernel
theorem dJ0_init_db425_44 : decode cJ0_init_db425 44 = .ok (.ifCond .eq 35, 3) := by decide +kernel
theorem dJ0_init_db425_47 : decode cJ0_init_db425 47 = .ok (.aload_n 1, 1) := by decide +kernel
theorem dJ0_init_db425_48 : decode cJ0_init_db425 48 = .ok (.getfield 1048, 3) := by decide +kernel
theorem dJ0_init_db425_51 : decode cJ0_init_db425 51 = .ok (.ifCond .eq 28, 3) := by decide +kernel
theorem dJ0_init_db425_54 : decode cJ0_init_db425 54 = .ok (.aload_n 0, 1) := by decide +kernel
theorem dJ0_init_db425_55 : decode cJ0_init_db425 55 = .ok (.aload_n 3, 1) := by decide +kernel
theorem dJ0_init_db425_56 : decode cJ0_init_db425 56 = .ok (.iconst 0, 1) := by decide +kernel
theorem dJ0_init_db425_57 : decode cJ0_init_db425 57 = .ok (.iload 4, 2) := by decide +kernel
theorem dJ0_init_db425_59 : decode cJ0_init_db425 59 = .ok (.invokestatic 1051, 3) := by decide +kernel
theorem dJ0_init_db425_62 : decode cJ0_init_db425 62 = .ok (.putfield 9, 3) := by decide +kernel
theorem dJ0_init_db425_65 : decode cJ0_init_db425 65 = .ok (.aload_n 0, 1) := by decide +kernel
theorem dJ0_init_db425_66 : decode cJ0_init_db425 66 = .ok (.aload_n 0, 1) := by decide +kernel
theorem dJ0_init_db425_67 : decode cJ0_init_db425 67 = .ok (.getfield 9, 3) := by decide +kernel
theorem dJ0_init_db425_70 : decode cJ0_init_db425 70 = .ok (.iload 4, 2) := by decide +kernel
theorem dJ0_init_db425_72 : decode cJ0_init_db425 72 = .ok (.invokestatic 47, 3) := by decide +kernel
theorem dJ0_init_db425_75 : decode cJ0_init_db425 75 = .ok (.putfield 15, 3) := by decide +kernel
theorem dJ0_init_db425_78 : decode cJ0_init_db425 78 = .ok (.return_, 1) := by decide +kernel
theorem dJ0_init_db425_79 : decode cJ0_init_db425 79 = .ok (.aload_n 0, 1) := by decide +kernel
theorem dJ0_init_db425_80 : decode cJ0_init_db425 80 = .ok (.iconst 1, 1) := by decide +kernel
theorem dJ0_init_db425_81 : decode cJ0_init_db425 81 = .ok (.putfield 15, 3) := by decide +kernel
theorem dJ0_init_db425_84 : decode cJ0_init_db425 84 = .ok (.aload_n 0, 1) := by decide +kernel
theorem dJ0_init_db425_85 : decode cJ0_init_db425 85 = .ok (.aload_n 3, 1) := by decide +kernel
theorem dJ0_init_db425_86 : decode cJ0_init_db425 86 = .ok (.iconst 0, 1) := by decide +kernel
theorem dJ0_init_db425_87 : decode cJ0_init_db425 87 = .ok (.iload 4, 2) := by decide +kernel
theorem dJ0_init_db425_89 : decode cJ0_init_db425 89 = .ok (.iconst 1, 1) := by decide +kernel
theorem dJ0_init_db425_90 : decode cJ0_init_db425 90 = .ok (.ishl, 1) := by decide +kernel
theorem dJ0_init_db425_91 : decode cJ0_init_db425 91 = .ok (.invokestatic 54, 3) := by decide +kernel
theorem dJ0_init_db425_94 : decode cJ0_init_db425 94 = .ok (.putfield 9, 3) := by decide +kernel
theorem dJ0_init_db425_97 : decode cJ0_init_db425 97 = .ok (.return_, 1) := by decide +kernel
theorem dJ0_coder_7d493_0 : decode cJ0_coder_7d493 0 = .ok (.getstatic 38, 3) := by decide +kernel
theorem dJ0_coder_7d493_3 : decode cJ0_coder_7d493 3 = .ok (.ifCond .eq 10, 3) := by decide +kernel
theorem dJ0_coder_7d493_6 : decode cJ0_coder_7d493 6 = .ok (.aload_n 0, 1) := by decide +kernel
theorem dJ0_coder_7d493_7 : decode cJ0_coder_7d493 7 = .ok (.getfield 15, 3) := by decide +kernel
theorem dJ0_coder_7d493_10 : decode cJ0_coder_7d493 10 = .ok (.goto 4, 3) := by decide +kernel
theorem dJ0_coder_7d493_13 : decode cJ0_coder_7d493 13 = .ok (.iconst 1, 1) := by decide +kernel
theorem dJ0_coder_7d493_14 : decode cJ0_coder_7d493 14 = .ok (.ireturn, 1) := by decide +kernel
theorem dJ0_isLatin1_aae02_0 : decode cJ0_isLatin1_aae02 0 = .ok (.getstatic 38, 3) := by decide +kernel
theorem dJ0_isLatin1_aae02_3 : decode cJ0_isLatin1_aae02 3 = .ok (.ifCond .eq 14, 3) := by decide +kernel
theorem dJ0_isLatin1_aae02_6 : decode cJ0_isLatin1_aae02 6 = .ok (.aload_n 0, 1) := by decide +kernel
theorem dJ0_isLatin1_aae02_7 : decode cJ0_isLatin1_aae02 7 = .ok (.getfield 15, 3) := by decide +kernel
theorem dJ0_isLatin1_aae02_10 : decode cJ0_isLatin1_aae02 10 = .ok (.ifCond .ne 7, 3) := by decide +kernel
theorem dJ0_isLatin1_aae02_13 : decode cJ0_isLatin1_aae02 13 = .ok (.iconst 1, 1) := by decide +kernel
theorem dJ0_isLatin1_aae02_14 : decode cJ0_isLatin1_aae02 14 = .ok (.goto 4, 3) := by decide +kernel
theorem dJ0_isLatin1_aae02_17 : decode cJ0_isLatin1_aae02 17 = .ok (.iconst 0, 1) := by decide +kernel
theorem dJ0_isLatin1_aae02_18 : decode cJ0_isLatin1_aae02 18 = .ok (.ireturn, 1) := by decide +kernel
theorem dJ0_checkIndex_df160_0 : decode cJ0_checkIndex_df160 0 = .ok (.iload_n 0, 1) := by decide +kernel
theorem dJ0_checkIndex_df160_1 : decode cJ0_checkIndex_df160 1 = .ok (.iload_n 1, 1) := by decide +kernel
theorem dJ0_checkIndex_df160_2 : decode cJ0_checkIndex_df160 2 = .ok (.getstatic 1053, 3) := by decide +kernel
theorem dJ0_checkIndex_df160_5 : decode cJ0_checkIndex_df160 5 = .ok (.invokestatic 1059, 3) := by decide +kernel
theorem dJ0_checkIndex_df160_8 : decode cJ0_checkIndex_df160 8 = .ok (.pop, 1) := by decide +kernel
theorem dJ0_checkIndex_df160_9 : decode cJ0_checkIndex_df160 9 = .ok (.return_, 1) := by decide +kernel
theorem dJ0_checkBoundsOffCount_cabcc_0 : decode cJ0_checkBoundsOffCount_cabcc 0 = .ok (.iload_n 0, 1) := by decide +kernel
theorem dJ0_checkBoundsOffCount_cabcc_1 : decode cJ0_checkBoundsOffCount_cabcc 1 = .ok (.iload_n 1, 1) := by decide +kernel
theorem dJ0_checkBoundsOffCount_cabcc_2 : decode cJ0_checkBoundsOffCount_cabcc 2 = .ok (.iload_n 2, 1) := by decide +kernel
theorem dJ0_checkBoundsOffCount_cabcc_3 : decode cJ0_checkBoundsOffCount_cabcc 3 = .ok (.getstatic 1053, 3) := by decide +kernel
theorem dJ0_checkBoundsOffCount_cabcc_6 : decode cJ0_checkBoundsOffCount_cabcc 6 = .ok (.invokestatic 1065, 3) := by decide +kernel
theorem dJ0_checkBoundsOffCount_cabcc_9 : decode cJ0_checkBoundsOffCount_cabcc 9 = .ok (.ireturn, 1) := by decide +kernel
theorem dJ0_checkBoundsBeginEnd_23922_0 : decode cJ0_checkBoundsBeginEnd_23922 0 = .ok (.iload_n 0, 1) := by decide +kernel
theorem dJ0_checkBoundsBeginEnd_23922_1 : decode cJ0_checkBoundsBeginEnd_23922 1 = .ok (.iload_n 1, 1) := by decide +kernel
theorem dJ0_checkBoundsBeginEnd_23922_2 : decode cJ0_checkBoundsBeginEnd_23922 2 = .ok (.iload_n 2, 1) := by decide +kernel
theorem dJ0_checkBoundsBeginEnd_23922_3 : decode cJ0_checkBoundsBeginEnd_23922 3 = .ok (.getstatic 1053, 3) := by decide +kernel
theorem dJ0_checkBoundsBeginEnd_23922_6 : decode cJ0_checkBoundsBeginEnd_23922 6 = .ok (.invokestatic 1062, 3) := by decide +kernel
theorem dJ0_checkBoundsBeginEnd_23922_9 : decode cJ0_checkBoundsBeginEnd_23922 9 = .ok (.pop, 1) := by decide +kernel
theorem dJ0_checkBoundsBeginEnd_23922_10 : decode cJ0_checkBoundsBeginEnd_23922 10 = .ok (.return_, 1) := by decide +kernel
theorem dJ4_init_da8c8_0 : decode cJ4_init_da8c8 0 = .ok (.aload_n 0, 1) := by decide +kernel
theorem dJ4_init_da8c8_1 : decode cJ4_init_da8c8 1 = .ok (.bipush 16, 2) := by decide +kernel
theorem dJ4_init_da8c8_3 : decode cJ4_init_da8c8 3 = .ok (.invokespecial 1, 3) := by decide +kernel
theorem dJ4_init_da8c8_6 : decode cJ4_init_da8c8 6 = .ok (.return_, 1) := by decide +kernel
theorem dJ4_init_a7421_0 : decode cJ4_init_a7421 0 = .ok (.aload_n 0, 1) := by decide +kernel
theorem dJ4_init_a7421_1 : decode cJ4_init_a7421 1 = .ok (.aload_n 1, 1) := by decide +kernel
theorem dJ4_init_a7421_2 : decode cJ4_init_a7421 2 = .ok (.invokespecial 7, 3) := by decide +kernel
theorem dJ4_init_a7421_5 : decode cJ4_init_a7421 5 = .ok (.return_, 1) := by decide +kernel
theorem dJ4_append_15ec4_0 : decode cJ4_append_15ec4 0 = .ok (.aload_n 0, 1) := by decide +kernel
theorem dJ4_append_15ec4_1 : decode cJ4_append_15ec4 1 = .ok (.aload_n 1, 1) := by decide +kernel
theorem dJ4_append_15ec4_2 : decode cJ4_append_15ec4 2 = .ok (.invokespecial 29, 3) := by decide +kernel
theorem dJ4_append_15ec4_5 : decode cJ4_append_15ec4 5 = .ok (.pop, 1) := by decide +kernel
theorem dJ4_append_15ec4_6 : decode cJ4_append_15ec4 6 = .ok (.aload_n 0, 1) := by decide +kernel
theorem dJ4_append_15ec4_7 : decode cJ4_append_15ec4 7 = .ok (.areturn, 1) := by decide +kernel
theorem dJ4_append_cf468_0 : decode cJ4_append_cf468 0 = .ok (.aload_n 0, 1) := by decide +kernel
theorem dJ4_append_cf468_1 : decode cJ4_append_cf468 1 = .ok (.iload_n 1, 1) := by decide +kernel
theorem dJ4_append_cf468_2 : decode cJ4_append_cf468 2 = .ok (.invokespecial 50, 3) := by decide +kernel
theorem dJ4_append_cf468_5 : decode cJ4_append_cf468 5 = .ok (.pop, 1) := by decide +kernel
theorem dJ4_append_cf468_6 : decode cJ4_append_cf468 6 = .ok (.aload_n 0, 1) := by decide +kernel
theorem dJ4_append_cf468_7 : decode cJ4_append_cf468 7 = .ok (.areturn, 1) := by decide +kernel
theorem dJ4_append_bf812_0 : decode cJ4_append_bf812 0 = .ok (.aload_n 0, 1) := by decide +kernel
theorem dJ4_append_bf812_1 : decode cJ4_append_bf812 1 = .ok (.iload_n 1, 1) := by decide +kernel
theorem dJ4_append_bf812_2 : decode cJ4_append_bf812 2 = .ok (.invokespecial 53, 3) := by decide +kernel
theorem dJ4_append_bf812_5 : decode cJ4_append_bf812 5 = .ok (.pop, 1) := by decide +kernel
theorem dJ4_append_bf812_6 : decode cJ4_append_bf812 6 = .ok (.aload_n 0, 1) := by decide +kernel
theorem dJ4_append_bf812_7 : decode cJ4_append_bf812 7 = .ok (.areturn, 1) := by decide +kernel
theorem dJ4_toString_0e30d_0 : decode cJ4_toString_0e30d 0 = .ok (.new 18, 3) := by decide +kernel
theorem dJ4_toString_0e30d_3 : decode cJ4_toString_0e30d 3 = .ok (.dup, 1) := by decide +kernel
theorem dJ4_toString_0e30d_4 : decode cJ4_toString_0e30d 4 = .ok (.aload_n 0, 1) := by decide +kernel
theorem dJ4_toString_0e30d_5 : decode cJ4_toString_0e30d 5 = .ok (.invokespecial 137, 3) := by decide +kernel
theorem dJ4_toString_0e30d_8 : decode cJ4_toString_0e30d 8 = .ok (.areturn, 1) := by decide +kernel
theorem dJ4_append_cf1ce_0 : decode cJ4_append_cf1ce 0 = .ok (.aload_n 0, 1) := by decide +kernel
theorem dJ4_append_cf1ce_1 : decode cJ4_append_cf1ce 1 = .ok (.aload_n 1, 1) := by decide +kernel
theorem dJ4_append_cf1ce_2 : decode cJ4_append_cf1ce 2 = .ok (.invokevirtual 23, 3) := by decide +kernel
theorem dJ4_append_cf1ce_5 : decode cJ4_append_cf1ce 5 = .ok (.areturn, 1) := by decide +kernel
theorem dJ4_length_8abf5_0 : decode cJ4_length_8abf5 0 = .ok (.aload_n 0, 1) := by decide +kernel
theorem dJ4_length_8abf5_1 : decode cJ4_length_8abf5 1 = .ok (.invokespecial 343, 3) := by decide +kernel
theorem dJ4_length_8abf5_4 : decode cJ4_length_8abf5 4 = .ok (.ireturn, 1) := by decide +kernel
theorem dJ1_charAt_3b067_0 : decode cJ1_charAt_3b067 0 = .ok (.iload_n 1, 1) := by decide +kernel
theorem dJ1_charAt_3b067_1 : decode cJ1_charAt_3b067 1 = .ok (.aload_n 0, 1) := by decide +kernel
theorem dJ1_charAt_3b067_2 : decode cJ1_charAt_3b067 2 = .ok (.arraylength, 1) := by decide +kernel
theorem dJ1_charAt_3b067_3 : decode cJ1_charAt_3b067 3 = .ok (.invokestatic 9, 3) := by decide +kernel
theorem dJ1_charAt_3b067_6 : decode cJ1_charAt_3b067 6 = .ok (.aload_n 0, 1) := by decide +kernel
theorem dJ1_charAt_3b067_7 : decode cJ1_charAt_3b067 7 = .ok (.iload_n 1, 1) := by decide +kernel
theorem dJ1_charAt_3b067_8 : decode cJ1_charAt_3b067 8 = .ok (.baload, 1) := by decide +kernel
theorem dJ1_charAt_3b067_9 : decode cJ1_charAt_3b067 9 = .ok (.sipush 255, 3) := by decide +kernel
theorem dJ1_charAt_3b067_12 : decode cJ1_charAt_3b067 12 = .ok (.iand, 1) := by decide +kernel
theorem dJ1_charAt_3b067_13 : decode cJ1_charAt_3b067 13 = .ok (.i2c, 1) := by decide +kernel
theorem dJ1_charAt_3b067_14 : decode cJ1_charAt_3b067 14 = .ok (.ireturn, 1) := by decide +kernel
theorem dJ1_canEncode_fc78d_0 : decode cJ1_canEncode_fc78d 0 = .ok (.iload_n 0, 1) := by decide +kernel
theorem dJ1_canEncode_fc78d_1 : decode cJ1_canEncode_fc78d 1 = .ok (.sipush 255, 3) := by decide +kernel
theorem dJ1_canEncode_fc78d_4 : decode cJ1_canEncode_fc78d 4 = .ok (.if_icmp .gt 7, 3) := by decide +kernel
theorem dJ1_canEncode_fc78d_7 : decode cJ1_canEncode_fc78d 7 = .ok (.iconst 1, 1) := by decide +kernel
theorem dJ1_canEncode_fc78d_8 : decode cJ1_canEncode_fc78d 8 = .ok (.goto 4, 3) := by decide +kernel
theorem dJ1_canEncode_fc78d_11 : decode cJ1_canEncode_fc78d 11 = .ok (.iconst 0, 1) := by decide +kernel
theorem dJ1_canEncode_fc78d_12 : decode cJ1_canEncode_fc78d 12 = .ok (.ireturn, 1) := by decide +kernel
theorem dJ1_inflate_0e8fd_0 : decode cJ1_inflate_0e8fd 0 = .ok (.aload_n 0, 1) := by decide +kernel
theorem dJ1_inflate_0e8fd_1 : decode cJ1_inflate_0e8fd 1 = .ok (.iload_n 1, 1) := by decide +kernel
theorem dJ1_inflate_0e8fd_2 : decode cJ1_inflate_0e8fd 2 = .ok (.aload_n 2, 1) := by decide +kernel
theorem dJ1_inflate_0e8fd_3 : decode cJ1_inflate_0e8fd 3 = .ok (.iload_n 3, 1) := by decide +kernel
theorem dJ1_inflate_0e8fd_4 : decode cJ1_inflate_0e8fd 4 = .ok (.iload 4, 2) := by decide +kernel
theorem dJ1_inflate_0e8fd_6 : decode cJ1_inflate_0e8fd 6 = .ok (.invokestatic 240, 3) := by decide +kernel
theorem dJ1_inflate_0e8fd_9 : decode cJ1_inflate_0e8fd 9 = .ok (.return_, 1) := by decide +kernel
theorem dJ2_newBytesFor_77867_0 : decode cJ2_newBytesFor_77867 0 = .ok (.iload_n 0, 1) := by decide +kernel
theorem dJ2_newBytesFor_77867_1 : decode cJ2_newBytesFor_77867 1 = .ok (.invokestatic 11, 3) := by decide +kernel
theorem dJ2_newBytesFor_77867_4 : decode cJ2_newBytesFor_77867 4 = .ok (.newarray .byte, 2) := by decide +kernel
theorem dJ2_newBytesFor_77867_6 : decode cJ2_newBytesFor_77867 6 = .ok (.areturn, 1) := by decide +kernel
theorem dJ2_newBytesLength_0f7a4_0 : decode cJ2_newBytesLength_0f7a4 0 = .ok (.iload_n 0, 1) := by decide +kernel
theorem dJ2_newBytesLength_0f7a4_1 : decode cJ2_newBytesLength_0f7a4 1 = .ok (.ifCond .ge 11, 3) := by decide +kernel
theorem dJ2_newBytesLength_0f7a4_4 : decode cJ2_newBytesLength_0f7a4 4 = .ok (.new 17, 3) := by decide +kernel
theorem dJ2_newBytesLength_0f7a4_7 : decode cJ2_newBytesLength_0f7a4 7 = .ok (.dup, 1) := by decide +kernel
theorem dJ2_newBytesLength_0f7a4_8 : decode cJ2_newBytesLength_0f7a4 8 = .ok (.invokespecial 19, 3) := by decide +kernel
theorem dJ2_newBytesLength_0f7a4_11 : decode cJ2_newBytesLength_0f7a4 11 = .ok (.athrow, 1) := by decide +kernel
theorem dJ2_newBytesLength_0f7a4_12 : decode cJ2_newBytesLength_0f7a4 12 = .ok (.iload_n 0, 1) := by decide +kernel
theorem dJ2_newBytesLength_0f7a4_13 : decode cJ2_newBytesLength_0f7a4 13 = .ok (.ldc 20, 2) := by decide +kernel
theorem dJ2_newBytesLength_0f7a4_15 : decode cJ2_newBytesLength_0f7a4 15 = .ok (.if_icmp .lt 40, 3) := by decide +kernel
theorem dJ2_newBytesLength_0f7a4_18 : decode cJ2_newBytesLength_0f7a4 18 = .ok (.new 21, 3) := by decide +kernel
theorem dJ2_newBytesLength_0f7a4_21 : decode cJ2_newBytesLength_0f7a4 21 = .ok (.dup, 1) := by decide +kernel
theorem dJ2_newBytesLength_0f7a4_22 : decode cJ2_newBytesLength_0f7a4 22 = .ok (.new 23, 3) := by decide +kernel
theorem dJ2_newBytesLength_0f7a4_25 : decode cJ2_newBytesLength_0f7a4 25 = .ok (.dup, 1) := by decide +kernel
theorem dJ2_newBytesLength_0f7a4_26 : decode cJ2_newBytesLength_0f7a4 26 = .ok (.invokespecial 25, 3) := by decide +kernel
theorem dJ2_newBytesLength_0f7a4_29 : decode cJ2_newBytesLength_0f7a4 29 = .ok (.ldc 26, 2) := by decide +kernel
theorem dJ2_newBytesLength_0f7a4_31 : decode cJ2_newBytesLength_0f7a4 31 = .ok (.invokevirtual 28, 3) := by decide +kernel
theorem dJ2_newBytesLength_0f7a4_34 : decode cJ2_newBytesLength_0f7a4 34 = .ok (.iload_n 0, 1) := by decide +kernel
theorem dJ2_newBytesLength_0f7a4_35 : decode cJ2_newBytesLength_0f7a4 35 = .ok (.invokevirtual 32, 3) := by decide +kernel
theorem dJ2_newBytesLength_0f7a4_38 : decode cJ2_newBytesLength_0f7a4 38 = .ok (.ldc 35, 2) := by decide +kernel
theorem dJ2_newBytesLength_0f7a4_40 : decode cJ2_newBytesLength_0f7a4 40 = .ok (.invokevirtual 28, 3) := by decide +kernel
theorem dJ2_newBytesLength_0f7a4_43 : decode cJ2_newBytesLength_0f7a4 43 = .ok (.ldc 20, 2) := by decide +kernel
theorem dJ2_newBytesLength_0f7a4_45 : decode cJ2_newBytesLength_0f7a4 45 = .ok (.invokevirtual 32, 3) := by decide +kernel
theorem dJ2_newBytesLength_0f7a4_48 : decode cJ2_newBytesLength_0f7a4 48 = .ok (.invokevirtual 37, 3) := by decide +kernel
theorem dJ2_newBytesLength_0f7a4_51 : decode cJ2_newBytesLength_0f7a4 51 = .ok (.invokespecial 41, 3) := by decide +kernel
theorem dJ2_newBytesLength_0f7a4_54 : decode cJ2_newBytesLength_0f7a4 54 = .ok (.athrow, 1) := by decide +kernel
theorem dJ2_newBytesLength_0f7a4_55 : decode cJ2_newBytesLength_0f7a4 55 = .ok (.iload_n 0, 1) := by decide +kernel
theorem dJ2_newBytesLength_0f7a4_56 : decode cJ2_newBytesLength_0f7a4 56 = .ok (.iconst 1, 1) := by decide +kernel
theorem dJ2_newBytesLength_0f7a4_57 : decode cJ2_newBytesLength_0f7a4 57 = .ok (.ishl, 1) := by decide +kernel
theorem dJ2_newBytesLength_0f7a4_58 : decode cJ2_newBytesLength_0f7a4 58 = .ok (.ireturn, 1) := by decide +kernel
theorem dJ2_putChar_b72d1_0 : decode cJ2_putChar_b72d1 0 = .ok (.getstatic 44, 3) := by decide +kernel
theorem dJ2_putChar_b72d1_3 : decode cJ2_putChar_b72d1 3 = .ok (.ifCond .ne 25, 3) := by decide +kernel
theorem dJ2_putChar_b72d1_6 : decode cJ2_putChar_b72d1 6 = .ok (.iload_n 1, 1) := by decide +kernel
theorem dJ2_putChar_b72d1_7 : decode cJ2_putChar_b72d1 7 = .ok (.ifCond .lt 11, 3) := by decide +kernel
theorem dJ2_putChar_b72d1_10 : decode cJ2_putChar_b72d1 10 = .ok (.iload_n 1, 1) := by decide +kernel
theorem dJ2_putChar_b72d1_11 : decode cJ2_putChar_b72d1 11 = .ok (.aload_n 0, 1) := by decide +kernel
theorem dJ2_putChar_b72d1_12 : decode cJ2_putChar_b72d1 12 = .ok (.invokestatic 48, 3) := by decide +kernel
theorem dJ2_putChar_b72d1_15 : decode cJ2_putChar_b72d1 15 = .ok (.if_icmp .lt 13, 3) := by decide +kernel
theorem dJ2_putChar_b72d1_18 : decode cJ2_putChar_b72d1 18 = .ok (.new 52, 3) := by decide +kernel
theorem dJ2_putChar_b72d1_21 : decode cJ2_putChar_b72d1 21 = .ok (.dup, 1) := by decide +kernel
theorem dJ2_putChar_b72d1_22 : decode cJ2_putChar_b72d1 22 = .ok (.ldc 54, 2) := by decide +kernel
theorem dJ2_putChar_b72d1_24 : decode cJ2_putChar_b72d1 24 = .ok (.invokespecial 56, 3) := by decide +kernel
theorem dJ2_putChar_b72d1_27 : decode cJ2_putChar_b72d1 27 = .ok (.athrow, 1) := by decide +kernel
theorem dJ2_putChar_b72d1_28 : decode cJ2_putChar_b72d1 28 = .ok (.iload_n 1, 1) := by decide +kernel
theorem dJ2_putChar_b72d1_29 : decode cJ2_putChar_b72d1 29 = .ok (.iconst 1, 1) := by decide +kernel
theorem dJ2_putChar_b72d1_30 : decode cJ2_putChar_b72d1 30 = .ok (.ishl, 1) := by decide +kernel
theorem dJ2_putChar_b72d1_31 : decode cJ2_putChar_b72d1 31 = .ok (.istore_n 1, 1) := by decide +kernel
theorem dJ2_putChar_b72d1_32 : decode cJ2_putChar_b72d1 32 = .ok (.aload_n 0, 1) := by decide +kernel
theorem dJ2_putChar_b72d1_33 : decode cJ2_putChar_b72d1 33 = .ok (.iload_n 1, 1) := by decide +kernel
theorem dJ2_putChar_b72d1_34 : decode cJ2_putChar_b72d1 34 = .ok (.iinc 1 1, 3) := by decide +kernel
theorem dJ2_putChar_b72d1_37 : decode cJ2_putChar_b72d1 37 = .ok (.iload_n 2, 1) := by decide +kernel
theorem dJ2_putChar_b72d1_38 : decode cJ2_putChar_b72d1 38 = .ok (.getstatic 59, 3) := by decide +kernel
theorem dJ2_putChar_b72d1_41 : decode cJ2_putChar_b72d1 41 = .ok (.ishr, 1) := by decide +kernel
theorem dJ2_putChar_b72d1_42 : decode cJ2_putChar_b72d1 42 = .ok (.i2b, 1) := by decide +kernel
theorem dJ2_putChar_b72d1_43 : decode cJ2_putChar_b72d1 43 = .ok (.bastore, 1) := by decide +kernel
theorem dJ2_putChar_b72d1_44 : decode cJ2_putChar_b72d1 44 = .ok (.aload_n 0, 1) := by decide +kernel
theorem dJ2_putChar_b72d1_45 : decode cJ2_putChar_b72d1 45 = .ok (.iload_n 1, 1) := by decide +kernel
theorem dJ2_putChar_b72d1_46 : decode cJ2_putChar_b72d1 46 = .ok (.iload_n 2, 1) := by decide +kernel
theorem dJ2_putChar_b72d1_47 : decode cJ2_putChar_b72d1 47 = .ok (.getstatic 63, 3) := by decide +kernel
theorem dJ2_putChar_b72d1_50 : decode cJ2_putChar_b72d1 50 = .ok (.ishr, 1) := by decide +kernel
theorem dJ2_putChar_b72d1_51 : decode cJ2_putChar_b72d1 51 = .ok (.i2b, 1) := by decide +kernel
theorem dJ2_putChar_b72d1_52 : decode cJ2_putChar_b72d1 52 = .ok (.bastore, 1) := by decide +kernel
theorem dJ2_putChar_b72d1_53 : decode cJ2_putChar_b72d1 53 = .ok (.return_, 1) := by decide +kernel
theorem dJ2_getChar_3b067_0 : decode cJ2_getChar_3b067 0 = .ok (.getstatic 44, 3) := by decide +kernel
theorem dJ2_getChar_3b067_3 : decode cJ2_getChar_3b067 3 = .ok (.ifCond .ne 25, 3) := by decide +kernel
theorem dJ2_getChar_3b067_6 : decode cJ2_getChar_3b067 6 = .ok (.iload_n 1, 1) := by decide +kernel
theorem dJ2_getChar_3b067_7 : decode cJ2_getChar_3b067 7 = .ok (.ifCond .lt 11, 3) := by decide +kernel
theorem dJ2_getChar_3b067_10 : decode cJ2_getChar_3b067 10 = .ok (.iload_n 1, 1) := by decide +kernel
theorem dJ2_getChar_3b067_11 : decode cJ2_getChar_3b067 11 = .ok (.aload_n 0, 1) := by decide +kernel
theorem dJ2_getChar_3b067_12 : decode cJ2_getChar_3b067 12 = .ok (.invokestatic 48, 3) := by decide +kernel
theorem dJ2_getChar_3b067_15 : decode cJ2_getChar_3b067 15 = .ok (.if_icmp .lt 13, 3) := by decide +kernel
theorem dJ2_getChar_3b067_18 : decode cJ2_getChar_3b067 18 = .ok (.new 52, 3) := by decide +kernel
theorem dJ2_getChar_3b067_21 : decode cJ2_getChar_3b067 21 = .ok (.dup, 1) := by decide +kernel
theorem dJ2_getChar_3b067_22 : decode cJ2_getChar_3b067 22 = .ok (.ldc 54, 2) := by decide +kernel
theorem dJ2_getChar_3b067_24 : decode cJ2_getChar_3b067 24 = .ok (.invokespecial 56, 3) := by decide +kernel
theorem dJ2_getChar_3b067_27 : decode cJ2_getChar_3b067 27 = .ok (.athrow, 1) := by decide +kernel
theorem dJ2_getChar_3b067_28 : decode cJ2_getChar_3b067 28 = .ok (.iload_n 1, 1) := by decide +kernel
theorem dJ2_getChar_3b067_29 : decode cJ2_getChar_3b067 29 = .ok (.iconst 1, 1) := by decide +kernel
theorem dJ2_getChar_3b067_30 : decode cJ2_getChar_3b067 30 = .ok (.ishl, 1) := by decide +kernel
theorem dJ2_getChar_3b067_31 : decode cJ2_getChar_3b067 31 = .ok (.istore_n 1, 1) := by decide +kernel
theorem dJ2_getChar_3b067_32 : decode cJ2_getChar_3b067 32 = .ok (.aload_n 0, 1) := by decide +kernel
theorem dJ2_getChar_3b067_33 : decode cJ2_getChar_3b067 33 = .ok (.iload_n 1, 1) := by decide +kernel
theorem dJ2_getChar_3b067_34 : decode cJ2_getChar_3b067 34 = .ok (.iinc 1 1, 3) := by decide +kernel
theorem dJ2_getChar_3b067_37 : decode cJ2_getChar_3b067 37 = .ok (.baload, 1) := by decide +kernel
theorem dJ2_getChar_3b067_38 : decode cJ2_getChar_3b067 38 = .ok (.sipush 255, 3) := by decide +kernel
theorem dJ2_getChar_3b067_41 : decode cJ2_getChar_3b067 41 = .ok (.iand, 1) := by decide +kernel
theorem dJ2_getChar_3b067_42 : decode cJ2_getChar_3b067 42 = .ok (.getstatic 59, 3) := by decide +kernel
theorem dJ2_getChar_3b067_45 : decode cJ2_getChar_3b067 45 = .ok (.ishl, 1) := by decide +kernel
theorem dJ2_getChar_3b067_46 : decode cJ2_getChar_3b067 46 = .ok (.aload_n 0, 1) := by decide +kernel
theorem dJ2_getChar_3b067_47 : decode cJ2_getChar_3b067 47 = .ok (.iload_n 1, 1) := by decide +kernel
theorem dJ2_getChar_3b067_48 : decode cJ2_getChar_3b067 48 = .ok (.baload, 1) := by decide +kernel
theorem dJ2_getChar_3b067_49 : decode cJ2_getChar_3b067 49 = .ok (.sipush 255, 3) := by decide +kernel
theorem dJ2_getChar_3b067_52 : decode cJ2_getChar_3b067 52 = .ok (.iand, 1) := by decide +kernel
theorem dJ2_getChar_3b067_53 : decode cJ2_getChar_3b067 53 = .ok (.getstatic 63, 3) := by decide +kernel
theorem dJ2_getChar_3b067_56 : decode cJ2_getChar_3b067 56 = .ok (.ishl, 1) := by decide +kernel
theorem dJ2_getChar_3b067_57 : decode cJ2_getChar_3b067 57 = .ok (.ior, 1) := by decide +kernel
theorem dJ2_getChar_3b067_58 : decode cJ2_getChar_3b067 58 = .ok (.i2c, 1) := by decide +kernel
theorem dJ2_getChar_3b067_59 : decode cJ2_getChar_3b067 59 = .ok (.ireturn, 1) := by decide +kernel
theorem dJ2_length_9d52b_0 : decode cJ2_length_9d52b 0 = .ok (.aload_n 0, 1) := by decide +kernel
theorem dJ2_length_9d52b_1 : decode cJ2_length_9d52b 1 = .ok (.arraylength, 1) := by decide +kernel
theorem dJ2_length_9d52b_2 : decode cJ2_length_9d52b 2 = .ok (.iconst 1, 1) := by decide +kernel
theorem dJ2_length_9d52b_3 : decode cJ2_length_9d52b 3 = .ok (.ishr, 1) := by decide +kernel
theorem dJ2_length_9d52b_4 : decode cJ2_length_9d52b 4 = .ok (.ireturn, 1) := by decide +kernel
theorem dJ2_coderFromArrayLen_85cad_0 : decode cJ2_coderFromArrayLen_85cad 0 = .ok (.iload_n 1, 1) := by decide +kernel
theorem dJ2_coderFromArrayLen_85cad_1 : decode cJ2_coderFromArrayLen_85cad 1 = .ok (.aload_n 0, 1) := by decide +kernel
theorem dJ2_coderFromArrayLen_85cad_2 : decode cJ2_coderFromArrayLen_85cad 2 = .ok (.arraylength, 1) := by decide +kernel
theorem dJ2_coderFromArrayLen_85cad_3 : decode cJ2_coderFromArrayLen_85cad 3 = .ok (.isub, 1) := by decide +kernel
theorem dJ2_coderFromArrayLen_85cad_4 : decode cJ2_coderFromArrayLen_85cad 4 = .ok (.bipush 31, 2) := by decide +kernel
theorem dJ2_coderFromArrayLen_85cad_6 : decode cJ2_coderFromArrayLen_85cad 6 = .ok (.iushr, 1) := by decide +kernel
theorem dJ2_coderFromArrayLen_85cad_7 : decode cJ2_coderFromArrayLen_85cad 7 = .ok (.i2b, 1) := by decide +kernel
theorem dJ2_coderFromArrayLen_85cad_8 : decode cJ2_coderFromArrayLen_85cad 8 = .ok (.ireturn, 1) := by decide +kernel
theorem dJ2_compress_39247_0 : decode cJ2_compress_39247 0 = .ok (.iload_n 2, 1) := by decide +kernel
theorem dJ2_compress_39247_1 : decode cJ2_compress_39247 1 = .ok (.newarray .byte, 2) := by decide +kernel
theorem dJ2_compress_39247_3 : decode cJ2_compress_39247 3 = .ok (.astore_n 3, 1) := by decide +kernel
theorem dJ2_compress_39247_4 : decode cJ2_compress_39247 4 = .ok (.aload_n 0, 1) := by decide +kernel
theorem dJ2_compress_39247_5 : decode cJ2_compress_39247 5 = .ok (.iload_n 1, 1) := by decide +kernel
theorem dJ2_compress_39247_6 : decode cJ2_compress_39247 6 = .ok (.aload_n 3, 1) := by decide +kernel
theorem dJ2_compress_39247_7 : decode cJ2_compress_39247 7 = .ok (.iconst 0, 1) := by decide +kernel
theorem dJ2_compress_39247_8 : decode cJ2_compress_39247 8 = .ok (.iload_n 2, 1) := by decide +kernel
theorem dJ2_compress_39247_9 : decode cJ2_compress_39247 9 = .ok (.invokestatic 123, 3) := by decide +kernel
theorem dJ2_compress_39247_12 : decode cJ2_compress_39247 12 = .ok (.istore 4, 2) := by decide +kernel
theorem dJ2_compress_39247_14 : decode cJ2_compress_39247 14 = .ok (.iload 4, 2) := by decide +kernel
theorem dJ2_compress_39247_16 : decode cJ2_compress_39247 16 = .ok (.iload_n 2, 1) := by decide +kernel
theorem dJ2_compress_39247_17 : decode cJ2_compress_39247 17 = .ok (.if_icmp .eq 47, 3) := by decide +kernel
theorem dJ2_compress_39247_20 : decode cJ2_compress_39247 20 = .ok (.aload_n 0, 1) := by decide +kernel
theorem dJ2_compress_39247_21 : decode cJ2_compress_39247 21 = .ok (.iload_n 1, 1) := by decide +kernel
theorem dJ2_compress_39247_22 : decode cJ2_compress_39247 22 = .ok (.iconst 1, 1) := by decide +kernel
theorem dJ2_compress_39247_23 : decode cJ2_compress_39247 23 = .ok (.ishl, 1) := by decide +kernel
theorem dJ2_compress_39247_24 : decode cJ2_compress_39247 24 = .ok (.iload_n 1, 1) := by decide +kernel
theorem dJ2_compress_39247_25 : decode cJ2_compress_39247 25 = .ok (.iload_n 2, 1) := by decide +kernel
theorem dJ2_compress_39247_26 : decode cJ2_compress_39247 26 = .ok (.iadd, 1) := by decide +kernel
theorem dJ2_compress_39247_27 : decode cJ2_compress_39247 27 = .ok (.invokestatic 11, 3) := by decide +kernel
theorem dJ2_compress_39247_30 : decode cJ2_compress_39247 30 = .ok (.invokestatic 126, 3) := by decide +kernel
theorem dJ2_compress_39247_33 : decode cJ2_compress_39247 33 = .ok (.astore 5, 2) := by decide +kernel
theorem dJ2_compress_39247_35 : decode cJ2_compress_39247 35 = .ok (.aload 5, 2) := by decide +kernel
theorem dJ2_compress_39247_37 : decode cJ2_compress_39247 37 = .ok (.iload 4, 2) := by decide +kernel
theorem dJ2_compress_39247_39 : decode cJ2_compress_39247 39 = .ok (.invokestatic 71, 3) := by decide +kernel
theorem dJ2_compress_39247_42 : decode cJ2_compress_39247 42 = .ok (.sipush 255, 3) := by decide +kernel
theorem dJ2_compress_39247_45 : decode cJ2_compress_39247 45 = .ok (.if_icmp .gt 16, 3) := by decide +kernel
theorem dJ2_compress_39247_48 : decode cJ2_compress_39247 48 = .ok (.aload 5, 2) := by decide +kernel
theorem dJ2_compress_39247_50 : decode cJ2_compress_39247 50 = .ok (.iconst 0, 1) := by decide +kernel
theorem dJ2_compress_39247_51 : decode cJ2_compress_39247 51 = .ok (.aload_n 3, 1) := by decide +kernel
theorem dJ2_compress_39247_52 : decode cJ2_compress_39247 52 = .ok (.iconst 0, 1) := by decide +kernel
theorem dJ2_compress_39247_53 : decode cJ2_compress_39247 53 = .ok (.iload_n 2, 1) := by decide +kernel
theorem dJ2_compress_39247_54 : decode cJ2_compress_39247 54 = .ok (.invokestatic 123, 3) := by decide +kernel
theorem dJ2_compress_39247_57 : decode cJ2_compress_39247 57 = .ok (.iload_n 2, 1) := by decide +kernel
theorem dJ2_compress_39247_58 : decode cJ2_compress_39247 58 = .ok (.if_icmp .eq 6, 3) := by decide +kernel
theorem dJ2_compress_39247_61 : decode cJ2_compress_39247 61 = .ok (.aload 5, 2) := by decide +kernel
theorem dJ2_compress_39247_63 : decode cJ2_compress_39247 63 = .ok (.areturn, 1) := by decide +kernel
theorem dJ2_compress_39247_64 : decode cJ2_compress_39247 64 = .ok (.aload_n 3, 1) := by decide +kernel
theorem dJ2_compress_39247_65 : decode cJ2_compress_39247 65 = .ok (.areturn, 1) := by decide +kernel
theorem dJ2_compress_5af95_0 : decode cJ2_compress_5af95 0 = .ok (.iload_n 1, 1) := by decide +kernel
theorem dJ2_compress_5af95_1 : decode cJ2_compress_5af95 1 = .ok (.iload 4, 2) := by decide +kernel
theorem dJ2_compress_5af95_3 : decode cJ2_compress_5af95 3 = .ok (.aload_n 0, 1) := by decide +kernel
theorem dJ2_compress_5af95_4 : decode cJ2_compress_5af95 4 = .ok (.invokestatic 173, 3) := by decide +kernel
theorem dJ2_compress_5af95_7 : decode cJ2_compress_5af95 7 = .ok (.iconst 0, 1) := by decide +kernel
theorem dJ2_compress_5af95_8 : decode cJ2_compress_5af95 8 = .ok (.istore 5, 2) := by decide +kernel
theorem dJ2_compress_5af95_10 : decode cJ2_compress_5af95 10 = .ok (.iload 5, 2) := by decide +kernel
theorem dJ2_compress_5af95_12 : decode cJ2_compress_5af95 12 = .ok (.iload 4, 2) := by decide +kernel
theorem dJ2_compress_5af95_14 : decode cJ2_compress_5af95 14 = .ok (.if_icmp .ge 39, 3) := by decide +kernel
theorem dJ2_compress_5af95_17 : decode cJ2_compress_5af95 17 = .ok (.aload_n 0, 1) := by decide +kernel
theorem dJ2_compress_5af95_18 : decode cJ2_compress_5af95 18 = .ok (.iload_n 1, 1) := by decide +kernel
theorem dJ2_compress_5af95_19 : decode cJ2_compress_5af95 19 = .ok (.invokestatic 71, 3) := by decide +kernel
theorem dJ2_compress_5af95_22 : decode cJ2_compress_5af95 22 = .ok (.istore 6, 2) := by decide +kernel
theorem dJ2_compress_5af95_24 : decode cJ2_compress_5af95 24 = .ok (.iload 6, 2) := by decide +kernel
theorem dJ2_compress_5af95_26 : decode cJ2_compress_5af95 26 = .ok (.sipush 255, 3) := by decide +kernel
theorem dJ2_compress_5af95_29 : decode cJ2_compress_5af95 29 = .ok (.if_icmp .le 6, 3) := by decide +kernel
theorem dJ2_compress_5af95_32 : decode cJ2_compress_5af95 32 = .ok (.iload 5, 2) := by decide +kernel
theorem dJ2_compress_5af95_34 : decode cJ2_compress_5af95 34 = .ok (.ireturn, 1) := by decide +kernel
theorem dJ2_compress_5af95_35 : decode cJ2_compress_5af95 35 = .ok (.aload_n 2, 1) := by decide +kernel
theorem dJ2_compress_5af95_36 : decode cJ2_compress_5af95 36 = .ok (.iload_n 3, 1) := by decide +kernel
theorem dJ2_compress_5af95_37 : decode cJ2_compress_5af95 37 = .ok (.iload 6, 2) := by decide +kernel
theorem dJ2_compress_5af95_39 : decode cJ2_compress_5af95 39 = .ok (.i2b, 1) := by decide +kernel
theorem dJ2_compress_5af95_40 : decode cJ2_compress_5af95 40 = .ok (.bastore, 1) := by decide +kernel
theorem dJ2_compress_5af95_41 : decode cJ2_compress_5af95 41 = .ok (.iinc 1 1, 3) := by decide +kernel
theorem dJ2_compress_5af95_44 : decode cJ2_compress_5af95 44 = .ok (.iinc 3 1, 3) := by decide +kernel
theorem dJ2_compress_5af95_47 : decode cJ2_compress_5af95 47 = .ok (.iinc 5 1, 3) := by decide +kernel
theorem dJ2_compress_5af95_50 : decode cJ2_compress_5af95 50 = .ok (.goto (-40), 3) := by decide +kernel
theorem dJ2_compress_5af95_53 : decode cJ2_compress_5af95 53 = .ok (.iload 4, 2) := by decide +kernel
theorem dJ2_compress_5af95_55 : decode cJ2_compress_5af95 55 = .ok (.ireturn, 1) := by decide +kernel
theorem dJ2_putCharSB_b72d1_0 : decode cJ2_putCharSB_b72d1 0 = .ok (.iload_n 1, 1) := by decide +kernel
theorem dJ2_putCharSB_b72d1_1 : decode cJ2_putCharSB_b72d1 1 = .ok (.aload_n 0, 1) := by decide +kernel
theorem dJ2_putCharSB_b72d1_2 : decode cJ2_putCharSB_b72d1 2 = .ok (.invokestatic 67, 3) := by decide +kernel
theorem dJ2_putCharSB_b72d1_5 : decode cJ2_putCharSB_b72d1 5 = .ok (.aload_n 0, 1) := by decide +kernel
theorem dJ2_putCharSB_b72d1_6 : decode cJ2_putCharSB_b72d1 6 = .ok (.iload_n 1, 1) := by decide +kernel
theorem dJ2_putCharSB_b72d1_7 : decode cJ2_putCharSB_b72d1 7 = .ok (.iload_n 2, 1) := by decide +kernel
theorem dJ2_putCharSB_b72d1_8 : decode cJ2_putCharSB_b72d1 8 = .ok (.invokestatic 111, 3) := by decide +kernel
theorem dJ2_putCharSB_b72d1_11 : decode cJ2_putCharSB_b72d1 11 = .ok (.return_, 1) := by decide +kernel
theorem dJ2_getChars_46870_0 : decode cJ2_getChars_46870 0 = .ok (.iload_n 1, 1) := by decide +kernel
theorem dJ2_getChars_46870_1 : decode cJ2_getChars_46870 1 = .ok (.iload_n 2, 1) := by decide +kernel
theorem dJ2_getChars_46870_2 : decode cJ2_getChars_46870 2 = .ok (.aload_n 3, 1) := by decide +kernel
theorem dJ2_getChars_46870_3 : decode cJ2_getChars_46870 3 = .ok (.invokestatic 96, 3) := by decide +kernel
theorem dJ2_getChars_46870_6 : decode cJ2_getChars_46870 6 = .ok (.iload_n 0, 1) := by decide +kernel
theorem dJ2_getChars_46870_7 : decode cJ2_getChars_46870 7 = .ok (.iload_n 2, 1) := by decide +kernel
theorem dJ2_getChars_46870_8 : decode cJ2_getChars_46870 8 = .ok (.aload_n 3, 1) := by decide +kernel
theorem dJ2_getChars_46870_9 : decode cJ2_getChars_46870 9 = .ok (.invokestatic 393, 3) := by decide +kernel
theorem dJ2_getChars_46870_12 : decode cJ2_getChars_46870 12 = .ok (.istore 4, 2) := by decide +kernel
theorem dJ2_getChars_46870_14 : decode cJ2_getChars_46870 14 = .ok (.getstatic 44, 3) := by decide +kernel
theorem dJ2_getChars_46870_17 : decode cJ2_getChars_46870 17 = .ok (.ifCond .ne 17, 3) := by decide +kernel
theorem dJ2_getChars_46870_20 : decode cJ2_getChars_46870 20 = .ok (.iload_n 1, 1) := by decide +kernel
theorem dJ2_getChars_46870_21 : decode cJ2_getChars_46870 21 = .ok (.iload 4, 2) := by decide +kernel
theorem dJ2_getChars_46870_23 : decode cJ2_getChars_46870 23 = .ok (.if_icmp .eq 11, 3) := by decide +kernel
theorem dJ2_getChars_46870_26 : decode cJ2_getChars_46870 26 = .ok (.new 52, 3) := by decide +kernel
theorem dJ2_getChars_46870_29 : decode cJ2_getChars_46870 29 = .ok (.dup, 1) := by decide +kernel
theorem dJ2_getChars_46870_30 : decode cJ2_getChars_46870 30 = .ok (.invokespecial 66, 3) := by decide +kernel
theorem dJ2_getChars_46870_33 : decode cJ2_getChars_46870 33 = .ok (.athrow, 1) := by decide +kernel
theorem dJ2_getChars_46870_34 : decode cJ2_getChars_46870 34 = .ok (.iload 4, 2) := by decide +kernel
theorem dJ2_getChars_46870_36 : decode cJ2_getChars_46870 36 = .ok (.ireturn, 1) := by decide +kernel
theorem dJ2_putCharsAt_cd4e5_0 : decode cJ2_putCharsAt_cd4e5 0 = .ok (.iload_n 1, 1) := by decide +kernel
theorem dJ2_putCharsAt_cd4e5_1 : decode cJ2_putCharsAt_cd4e5 1 = .ok (.iconst 4, 1) := by decide +kernel
theorem dJ2_putCharsAt_cd4e5_2 : decode cJ2_putCharsAt_cd4e5 2 = .ok (.iadd, 1) := by decide +kernel
theorem dJ2_putCharsAt_cd4e5_3 : decode cJ2_putCharsAt_cd4e5 3 = .ok (.istore 6, 2) := by decide +kernel
theorem dJ2_putCharsAt_cd4e5_5 : decode cJ2_putCharsAt_cd4e5 5 = .ok (.iload_n 1, 1) := by decide +kernel
theorem dJ2_putCharsAt_cd4e5_6 : decode cJ2_putCharsAt_cd4e5 6 = .ok (.iload 6, 2) := by decide +kernel
theorem dJ2_putCharsAt_cd4e5_8 : decode cJ2_putCharsAt_cd4e5 8 = .ok (.aload_n 0, 1) := by decide +kernel
theorem dJ2_putCharsAt_cd4e5_9 : decode cJ2_putCharsAt_cd4e5 9 = .ok (.invokestatic 96, 3) := by decide +kernel
theorem dJ2_putCharsAt_cd4e5_12 : decode cJ2_putCharsAt_cd4e5 12 = .ok (.aload_n 0, 1) := by decide +kernel
theorem dJ2_putCharsAt_cd4e5_13 : decode cJ2_putCharsAt_cd4e5 13 = .ok (.iload_n 1, 1) := by decide +kernel
theorem dJ2_putCharsAt_cd4e5_14 : decode cJ2_putCharsAt_cd4e5 14 = .ok (.iinc 1 1, 3) := by decide +kernel
theorem dJ2_putCharsAt_cd4e5_17 : decode cJ2_putCharsAt_cd4e5 17 = .ok (.iload_n 2, 1) := by decide +kernel
theorem dJ2_putCharsAt_cd4e5_18 : decode cJ2_putCharsAt_cd4e5 18 = .ok (.invokestatic 111, 3) := by decide +kernel
theorem dJ2_putCharsAt_cd4e5_21 : decode cJ2_putCharsAt_cd4e5 21 = .ok (.aload_n 0, 1) := by decide +kernel
theorem dJ2_putCharsAt_cd4e5_22 : decode cJ2_putCharsAt_cd4e5 22 = .ok (.iload_n 1, 1) := by decide +kernel
theorem dJ2_putCharsAt_cd4e5_23 : decode cJ2_putCharsAt_cd4e5 23 = .ok (.iinc 1 1, 3) := by decide +kernel
theorem dJ2_putCharsAt_cd4e5_26 : decode cJ2_putCharsAt_cd4e5 26 = .ok (.iload_n 3, 1) := by decide +kernel
theorem dJ2_putCharsAt_cd4e5_27 : decode cJ2_putCharsAt_cd4e5 27 = .ok (.invokestatic 111, 3) := by decide +kernel
theorem dJ2_putCharsAt_cd4e5_30 : decode cJ2_putCharsAt_cd4e5 30 = .ok (.aload_n 0, 1) := by decide +kernel
theorem dJ2_putCharsAt_cd4e5_31 : decode cJ2_putCharsAt_cd4e5 31 = .ok (.iload_n 1, 1) := by decide +kernel
theorem dJ2_putCharsAt_cd4e5_32 : decode cJ2_putCharsAt_cd4e5 32 = .ok (.iinc 1 1, 3) := by decide +kernel
theorem dJ2_putCharsAt_cd4e5_35 : decode cJ2_putCharsAt_cd4e5 35 = .ok (.iload 4, 2) := by decide +kernel
theorem dJ2_putCharsAt_cd4e5_37 : decode cJ2_putCharsAt_cd4e5 37 = .ok (.invokestatic 111, 3) := by decide +kernel
theorem dJ2_putCharsAt_cd4e5_40 : decode cJ2_putCharsAt_cd4e5 40 = .ok (.aload_n 0, 1) := by decide +kernel
theorem dJ2_putCharsAt_cd4e5_41 : decode cJ2_putCharsAt_cd4e5 41 = .ok (.iload_n 1, 1) := by decide +kernel
theorem dJ2_putCharsAt_cd4e5_42 : decode cJ2_putCharsAt_cd4e5 42 = .ok (.iinc 1 1, 3) := by decide +kernel
theorem dJ2_putCharsAt_cd4e5_45 : decode cJ2_putCharsAt_cd4e5 45 = .ok (.iload 5, 2) := by decide +kernel
theorem dJ2_putCharsAt_cd4e5_47 : decode cJ2_putCharsAt_cd4e5 47 = .ok (.invokestatic 111, 3) := by decide +kernel
theorem dJ2_putCharsAt_cd4e5_50 : decode cJ2_putCharsAt_cd4e5 50 = .ok (.getstatic 44, 3) := by decide +kernel
theorem dJ2_putCharsAt_cd4e5_53 : decode cJ2_putCharsAt_cd4e5 53 = .ok (.ifCond .ne 17, 3) := by decide +kernel
theorem dJ2_putCharsAt_cd4e5_56 : decode cJ2_putCharsAt_cd4e5 56 = .ok (.iload_n 1, 1) := by decide +kernel
theorem dJ2_putCharsAt_cd4e5_57 : decode cJ2_putCharsAt_cd4e5 57 = .ok (.iload 6, 2) := by decide +kernel
theorem dJ2_putCharsAt_cd4e5_59 : decode cJ2_putCharsAt_cd4e5 59 = .ok (.if_icmp .eq 11, 3) := by decide +kernel
theorem dJ2_putCharsAt_cd4e5_62 : decode cJ2_putCharsAt_cd4e5 62 = .ok (.new 52, 3) := by decide +kernel
theorem dJ2_putCharsAt_cd4e5_65 : decode cJ2_putCharsAt_cd4e5 65 = .ok (.dup, 1) := by decide +kernel
theorem dJ2_putCharsAt_cd4e5_66 : decode cJ2_putCharsAt_cd4e5 66 = .ok (.invokespecial 66, 3) := by decide +kernel
theorem dJ2_putCharsAt_cd4e5_69 : decode cJ2_putCharsAt_cd4e5 69 = .ok (.athrow, 1) := by decide +kernel
theorem dJ2_putCharsAt_cd4e5_70 : decode cJ2_putCharsAt_cd4e5 70 = .ok (.iload 6, 2) := by decide +kernel
theorem dJ2_putCharsAt_cd4e5_72 : decode cJ2_putCharsAt_cd4e5 72 = .ok (.ireturn, 1) := by decide +kernel
theorem dJ2_charAt_3b067_0 : decode cJ2_charAt_3b067 0 = .ok (.iload_n 1, 1) := by decide +kernel
theorem dJ2_charAt_3b067_1 : decode cJ2_charAt_3b067 1 = .ok (.aload_n 0, 1) := by decide +kernel
theorem dJ2_charAt_3b067_2 : decode cJ2_charAt_3b067 2 = .ok (.invokestatic 67, 3) := by decide +kernel
theorem dJ2_charAt_3b067_5 : decode cJ2_charAt_3b067 5 = .ok (.aload_n 0, 1) := by decide +kernel
theorem dJ2_charAt_3b067_6 : decode cJ2_charAt_3b067 6 = .ok (.iload_n 1, 1) := by decide +kernel
theorem dJ2_charAt_3b067_7 : decode cJ2_charAt_3b067 7 = .ok (.invokestatic 71, 3) := by decide +kernel
theorem dJ2_charAt_3b067_10 : decode cJ2_charAt_3b067 10 = .ok (.ireturn, 1) := by decide +kernel
theorem dJ2_inflate_0e8fd_0 : decode cJ2_inflate_0e8fd 0 = .ok (.iload_n 3, 1) := by decide +kernel
theorem dJ2_inflate_0e8fd_1 : decode cJ2_inflate_0e8fd 1 = .ok (.iload 4, 2) := by decide +kernel
theorem dJ2_inflate_0e8fd_3 : decode cJ2_inflate_0e8fd 3 = .ok (.aload_n 2, 1) := by decide +kernel
theorem dJ2_inflate_0e8fd_4 : decode cJ2_inflate_0e8fd 4 = .ok (.invokestatic 173, 3) := by decide +kernel
theorem dJ2_inflate_0e8fd_7 : decode cJ2_inflate_0e8fd 7 = .ok (.iconst 0, 1) := by decide +kernel
theorem dJ2_inflate_0e8fd_8 : decode cJ2_inflate_0e8fd 8 = .ok (.istore 5, 2) := by decide +kernel
theorem dJ2_inflate_0e8fd_10 : decode cJ2_inflate_0e8fd 10 = .ok (.iload 5, 2) := by decide +kernel
theorem dJ2_inflate_0e8fd_12 : decode cJ2_inflate_0e8fd 12 = .ok (.iload 4, 2) := by decide +kernel
theorem dJ2_inflate_0e8fd_14 : decode cJ2_inflate_0e8fd 14 = .ok (.if_icmp .ge 27, 3) := by decide +kernel
theorem dJ2_inflate_0e8fd_17 : decode cJ2_inflate_0e8fd 17 = .ok (.aload_n 2, 1) := by decide +kernel
theorem dJ2_inflate_0e8fd_18 : decode cJ2_inflate_0e8fd 18 = .ok (.iload_n 3, 1) := by decide +kernel
theorem dJ2_inflate_0e8fd_19 : decode cJ2_inflate_0e8fd 19 = .ok (.iinc 3 1, 3) := by decide +kernel
theorem dJ2_inflate_0e8fd_22 : decode cJ2_inflate_0e8fd 22 = .ok (.aload_n 0, 1) := by decide +kernel
theorem dJ2_inflate_0e8fd_23 : decode cJ2_inflate_0e8fd 23 = .ok (.iload_n 1, 1) := by decide +kernel
theorem dJ2_inflate_0e8fd_24 : decode cJ2_inflate_0e8fd 24 = .ok (.iinc 1 1, 3) := by decide +kernel
theorem dJ2_inflate_0e8fd_27 : decode cJ2_inflate_0e8fd 27 = .ok (.baload, 1) := by decide +kernel
theorem dJ2_inflate_0e8fd_28 : decode cJ2_inflate_0e8fd 28 = .ok (.sipush 255, 3) := by decide +kernel
theorem dJ2_inflate_0e8fd_31 : decode cJ2_inflate_0e8fd 31 = .ok (.iand, 1) := by decide +kernel
theorem dJ2_inflate_0e8fd_32 : decode cJ2_inflate_0e8fd 32 = .ok (.invokestatic 111, 3) := by decide +kernel
theorem dJ2_inflate_0e8fd_35 : decode cJ2_inflate_0e8fd 35 = .ok (.iinc 5 1, 3) := by decide +kernel
theorem dJ2_inflate_0e8fd_38 : decode cJ2_inflate_0e8fd 38 = .ok (.goto (-28), 3) := by decide +kernel
theorem dJ2_inflate_0e8fd_41 : decode cJ2_inflate_0e8fd 41 = .ok (.return_, 1) := by decide +kernel
theorem dJ2_getChars_ba4f3_0 : decode cJ2_getChars_ba4f3 0 = .ok (.iload_n 1, 1) := by decide +kernel
theorem dJ2_getChars_ba4f3_1 : decode cJ2_getChars_ba4f3 1 = .ok (.istore 5, 2) := by decide +kernel
theorem dJ2_getChars_ba4f3_3 : decode cJ2_getChars_ba4f3 3 = .ok (.iload_n 0, 1) := by decide +kernel
theorem dJ2_getChars_ba4f3_4 : decode cJ2_getChars_ba4f3 4 = .ok (.ifCond .ge 7, 3) := by decide +kernel
theorem dJ2_getChars_ba4f3_7 : decode cJ2_getChars_ba4f3 7 = .ok (.iconst 1, 1) := by decide +kernel
theorem dJ2_getChars_ba4f3_8 : decode cJ2_getChars_ba4f3 8 = .ok (.goto 4, 3) := by decide +kernel
theorem dJ2_getChars_ba4f3_11 : decode cJ2_getChars_ba4f3 11 = .ok (.iconst 0, 1) := by decide +kernel
theorem dJ2_getChars_ba4f3_12 : decode cJ2_getChars_ba4f3 12 = .ok (.istore 6, 2) := by decide +kernel
theorem dJ2_getChars_ba4f3_14 : decode cJ2_getChars_ba4f3 14 = .ok (.iload 6, 2) := by decide +kernel
theorem dJ2_getChars_ba4f3_16 : decode cJ2_getChars_ba4f3 16 = .ok (.ifCond .ne 6, 3) := by decide +kernel
theorem dJ2_getChars_ba4f3_19 : decode cJ2_getChars_ba4f3 19 = .ok (.iload_n 0, 1) := by decide +kernel
theorem dJ2_getChars_ba4f3_20 : decode cJ2_getChars_ba4f3 20 = .ok (.ineg, 1) := by decide +kernel
theorem dJ2_getChars_ba4f3_21 : decode cJ2_getChars_ba4f3 21 = .ok (.istore_n 0, 1) := by decide +kernel
theorem dJ2_getChars_ba4f3_22 : decode cJ2_getChars_ba4f3 22 = .ok (.iload_n 0, 1) := by decide +kernel
theorem dJ2_getChars_ba4f3_23 : decode cJ2_getChars_ba4f3 23 = .ok (.bipush (-100), 2) := by decide +kernel
theorem dJ2_getChars_ba4f3_25 : decode cJ2_getChars_ba4f3 25 = .ok (.if_icmp .gt 51, 3) := by decide +kernel
theorem dJ2_getChars_ba4f3_28 : decode cJ2_getChars_ba4f3 28 = .ok (.iload_n 0, 1) := by decide +kernel
theorem dJ2_getChars_ba4f3_29 : decode cJ2_getChars_ba4f3 29 = .ok (.bipush 100, 2) := by decide +kernel
theorem dJ2_getChars_ba4f3_31 : decode cJ2_getChars_ba4f3 31 = .ok (.idiv, 1) := by decide +kernel
theorem dJ2_getChars_ba4f3_32 : decode cJ2_getChars_ba4f3 32 = .ok (.istore_n 3, 1) := by decide +kernel
theorem dJ2_getChars_ba4f3_33 : decode cJ2_getChars_ba4f3 33 = .ok (.iload_n 3, 1) := by decide +kernel
theorem dJ2_getChars_ba4f3_34 : decode cJ2_getChars_ba4f3 34 = .ok (.bipush 100, 2) := by decide +kernel
theorem dJ2_getChars_ba4f3_36 : decode cJ2_getChars_ba4f3 36 = .ok (.imul, 1) := by decide +kernel
theorem dJ2_getChars_ba4f3_37 : decode cJ2_getChars_ba4f3 37 = .ok (.iload_n 0, 1) := by decide +kernel
theorem dJ2_getChars_ba4f3_38 : decode cJ2_getChars_ba4f3 38 = .ok (.isub, 1) := by decide +kernel
theorem dJ2_getChars_ba4f3_39 : decode cJ2_getChars_ba4f3 39 = .ok (.istore 4, 2) := by decide +kernel
theorem dJ2_getChars_ba4f3_41 : decode cJ2_getChars_ba4f3 41 = .ok (.iload_n 3, 1) := by decide +kernel
theorem dJ2_getChars_ba4f3_42 : decode cJ2_getChars_ba4f3 42 = .ok (.istore_n 0, 1) := by decide +kernel
theorem dJ2_getChars_ba4f3_43 : decode cJ2_getChars_ba4f3 43 = .ok (.aload_n 2, 1) := by decide +kernel
theorem dJ2_getChars_ba4f3_44 : decode cJ2_getChars_ba4f3 44 = .ok (.iinc 5 (-1), 3) := by decide +kernel
theorem dJ2_getChars_ba4f3_47 : decode cJ2_getChars_ba4f3 47 = .ok (.iload 5, 2) := by decide +kernel
theorem dJ2_getChars_ba4f3_49 : decode cJ2_getChars_ba4f3 49 = .ok (.getstatic 403, 3) := by decide +kernel
theorem dJ2_getChars_ba4f3_52 : decode cJ2_getChars_ba4f3 52 = .ok (.iload 4, 2) := by decide +kernel
theorem dJ2_getChars_ba4f3_54 : decode cJ2_getChars_ba4f3 54 = .ok (.baload, 1) := by decide +kernel
theorem dJ2_getChars_ba4f3_55 : decode cJ2_getChars_ba4f3 55 = .ok (.invokestatic 111, 3) := by decide +kernel
theorem dJ2_getChars_ba4f3_58 : decode cJ2_getChars_ba4f3 58 = .ok (.aload_n 2, 1) := by decide +kernel
theorem dJ2_getChars_ba4f3_59 : decode cJ2_getChars_ba4f3 59 = .ok (.iinc 5 (-1), 3) := by decide +kernel
theorem dJ2_getChars_ba4f3_62 : decode cJ2_getChars_ba4f3 62 = .ok (.iload 5, 2) := by decide +kernel
theorem dJ2_getChars_ba4f3_64 : decode cJ2_getChars_ba4f3 64 = .ok (.getstatic 407, 3) := by decide +kernel
theorem dJ2_getChars_ba4f3_67 : decode cJ2_getChars_ba4f3 67 = .ok (.iload 4, 2) := by decide +kernel
theorem dJ2_getChars_ba4f3_69 : decode cJ2_getChars_ba4f3 69 = .ok (.baload, 1) := by decide +kernel
theorem dJ2_getChars_ba4f3_70 : decode cJ2_getChars_ba4f3 70 = .ok (.invokestatic 111, 3) := by decide +kernel
theorem dJ2_getChars_ba4f3_73 : decode cJ2_getChars_ba4f3 73 = .ok (.goto (-51), 3) := by decide +kernel
theorem dJ2_getChars_ba4f3_76 : decode cJ2_getChars_ba4f3 76 = .ok (.aload_n 2, 1) := by decide +kernel
theorem dJ2_getChars_ba4f3_77 : decode cJ2_getChars_ba4f3 77 = .ok (.iinc 5 (-1), 3) := by decide +kernel
theorem dJ2_getChars_ba4f3_80 : decode cJ2_getChars_ba4f3 80 = .ok (.iload 5, 2) := by decide +kernel
theorem dJ2_getChars_ba4f3_82 : decode cJ2_getChars_ba4f3 82 = .ok (.getstatic 403, 3) := by decide +kernel
theorem dJ2_getChars_ba4f3_85 : decode cJ2_getChars_ba4f3 85 = .ok (.iload_n 0, 1) := by decide +kernel
theorem dJ2_getChars_ba4f3_86 : decode cJ2_getChars_ba4f3 86 = .ok (.ineg, 1) := by decide +kernel
theorem dJ2_getChars_ba4f3_87 : decode cJ2_getChars_ba4f3 87 = .ok (.baload, 1) := by decide +kernel
theorem dJ2_getChars_ba4f3_88 : decode cJ2_getChars_ba4f3 88 = .ok (.invokestatic 111, 3) := by decide +kernel
theorem dJ2_getChars_ba4f3_91 : decode cJ2_getChars_ba4f3 91 = .ok (.iload_n 0, 1) := by decide +kernel
theorem dJ2_getChars_ba4f3_92 : decode cJ2_getChars_ba4f3 92 = .ok (.bipush (-9), 2) := by decide +kernel
theorem dJ2_getChars_ba4f3_94 : decode cJ2_getChars_ba4f3 94 = .ok (.if_icmp .ge 18, 3) := by decide +kernel
theorem dJ2_getChars_ba4f3_97 : decode cJ2_getChars_ba4f3 97 = .ok (.aload_n 2, 1) := by decide +kernel
theorem dJ2_getChars_ba4f3_98 : decode cJ2_getChars_ba4f3 98 = .ok (.iinc 5 (-1), 3) := by decide +kernel
theorem dJ2_getChars_ba4f3_101 : decode cJ2_getChars_ba4f3 101 = .ok (.iload 5, 2) := by decide +kernel
theorem dJ2_getChars_ba4f3_103 : decode cJ2_getChars_ba4f3 103 = .ok (.getstatic 407, 3) := by decide +kernel
theorem dJ2_getChars_ba4f3_106 : decode cJ2_getChars_ba4f3 106 = .ok (.iload_n 0, 1) := by decide +kernel
theorem dJ2_getChars_ba4f3_107 : decode cJ2_getChars_ba4f3 107 = .ok (.ineg, 1) := by decide +kernel
theorem dJ2_getChars_ba4f3_108 : decode cJ2_getChars_ba4f3 108 = .ok (.baload, 1) := by decide +kernel
theorem dJ2_getChars_ba4f3_109 : decode cJ2_getChars_ba4f3 109 = .ok (.invokestatic 111, 3) := by decide +kernel
theorem dJ2_getChars_ba4f3_112 : decode cJ2_getChars_ba4f3 112 = .ok (.iload 6, 2) := by decide +kernel
theorem dJ2_getChars_ba4f3_114 : decode cJ2_getChars_ba4f3 114 = .ok (.ifCond .eq 14, 3) := by decide +kernel
theorem dJ2_getChars_ba4f3_117 : decode cJ2_getChars_ba4f3 117 = .ok (.aload_n 2, 1) := by decide +kernel
theorem dJ2_getChars_ba4f3_118 : decode cJ2_getChars_ba4f3 118 = .ok (.iinc 5 (-1), 3) := by decide +kernel
theorem dJ2_getChars_ba4f3_121 : decode cJ2_getChars_ba4f3 121 = .ok (.iload 5, 2) := by decide +kernel
theorem dJ2_getChars_ba4f3_123 : decode cJ2_getChars_ba4f3 123 = .ok (.bipush 45, 2) := by decide +kernel
theorem dJ2_getChars_ba4f3_125 : decode cJ2_getChars_ba4f3 125 = .ok (.invokestatic 111, 3) := by decide +kernel
theorem dJ2_getChars_ba4f3_128 : decode cJ2_getChars_ba4f3 128 = .ok (.iload 5, 2) := by decide +kernel
theorem dJ2_getChars_ba4f3_130 : decode cJ2_getChars_ba4f3 130 = .ok (.ireturn, 1) := by decide +kernel
theorem dJ2_checkIndex_2214a_0 : decode cJ2_checkIndex_2214a 0 = .ok (.iload_n 0, 1) := by decide +kernel
theorem dJ2_checkIndex_2214a_1 : decode cJ2_checkIndex_2214a 1 = .ok (.aload_n 1, 1) := by decide +kernel
theorem dJ2_checkIndex_2214a_2 : decode cJ2_checkIndex_2214a 2 = .ok (.invokestatic 48, 3) := by decide +kernel
theorem dJ2_checkIndex_2214a_5 : decode cJ2_checkIndex_2214a 5 = .ok (.invokestatic 414, 3) := by decide +kernel
theorem dJ2_checkIndex_2214a_8 : decode cJ2_checkIndex_2214a 8 = .ok (.return_, 1) := by decide +kernel
theorem dJ2_checkBoundsBeginEnd_d044e_0 : decode cJ2_checkBoundsBeginEnd_d044e 0 = .ok (.iload_n 0, 1) := by decide +kernel
theorem dJ2_checkBoundsBeginEnd_d044e_1 : decode cJ2_checkBoundsBeginEnd_d044e 1 = .ok (.iload_n 1, 1) := by decide +kernel
theorem dJ2_checkBoundsBeginEnd_d044e_2 : decode cJ2_checkBoundsBeginEnd_d044e 2 = .ok (.aload_n 2, 1) := by decide +kernel
theorem dJ2_checkBoundsBeginEnd_d044e_3 : decode cJ2_checkBoundsBeginEnd_d044e 3 = .ok (.invokestatic 48, 3) := by decide +kernel
theorem dJ2_checkBoundsBeginEnd_d044e_6 : decode cJ2_checkBoundsBeginEnd_d044e 6 = .ok (.invokestatic 241, 3) := by decide +kernel
theorem dJ2_checkBoundsBeginEnd_d044e_9 : decode cJ2_checkBoundsBeginEnd_d044e 9 = .ok (.return_, 1) := by decide +kernel
theorem dJ2_checkBoundsOffCount_d044e_0 : decode cJ2_checkBoundsOffCount_d044e 0 = .ok (.iload_n 0, 1) := by decide +kernel
theorem dJ2_checkBoundsOffCount_d044e_1 : decode cJ2_checkBoundsOffCount_d044e 1 = .ok (.iload_n 1, 1) := by decide +kernel
theorem dJ2_checkBoundsOffCount_d044e_2 : decode cJ2_checkBoundsOffCount_d044e 2 = .ok (.aload_n 2, 1) := by decide +kernel
theorem dJ2_checkBoundsOffCount_d044e_3 : decode cJ2_checkBoundsOffCount_d044e 3 = .ok (.invokestatic 48, 3) := by decide +kernel
theorem dJ2_checkBoundsOffCount_d044e_6 : decode cJ2_checkBoundsOffCount_d044e 6 = .ok (.invokestatic 419, 3) := by decide +kernel
theorem dJ2_checkBoundsOffCount_d044e_9 : decode cJ2_checkBoundsOffCount_d044e 9 = .ok (.pop, 1) := by decide +kernel
theorem dJ2_checkBoundsOffCount_d044e_10 : decode cJ2_checkBoundsOffCount_d044e 10 = .ok (.return_, 1) := by decide +kernel
theorem dJ7_copyOf_9075b_0 : decode cJ7_copyOf_9075b 0 = .ok (.iload_n 1, 1) := by decide +kernel
theorem dJ7_copyOf_9075b_1 : decode cJ7_copyOf_9075b 1 = .ok (.aload_n 0, 1) := by decide +kernel
theorem dJ7_copyOf_9075b_2 : decode cJ7_copyOf_9075b 2 = .ok (.arraylength, 1) := by decide +kernel
theorem dJ7_copyOf_9075b_3 : decode cJ7_copyOf_9075b 3 = .ok (.if_icmp .ne 11, 3) := by decide +kernel
theorem dJ7_copyOf_9075b_6 : decode cJ7_copyOf_9075b 6 = .ok (.aload_n 0, 1) := by decide +kernel
theorem dJ7_copyOf_9075b_7 : decode cJ7_copyOf_9075b 7 = .ok (.invokevirtual 310, 3) := by decide +kernel
theorem dJ7_copyOf_9075b_10 : decode cJ7_copyOf_9075b 10 = .ok (.checkcast 311, 3) := by decide +kernel
theorem dJ7_copyOf_9075b_13 : decode cJ7_copyOf_9075b 13 = .ok (.areturn, 1) := by decide +kernel
theorem dJ7_copyOf_9075b_14 : decode cJ7_copyOf_9075b 14 = .ok (.iload_n 1, 1) := by decide +kernel
theorem dJ7_copyOf_9075b_15 : decode cJ7_copyOf_9075b 15 = .ok (.newarray .byte, 2) := by decide +kernel
theorem dJ7_copyOf_9075b_17 : decode cJ7_copyOf_9075b 17 = .ok (.astore_n 2, 1) := by decide +kernel
theorem dJ7_copyOf_9075b_18 : decode cJ7_copyOf_9075b 18 = .ok (.aload_n 0, 1) := by decide +kernel
theorem dJ7_copyOf_9075b_19 : decode cJ7_copyOf_9075b 19 = .ok (.iconst 0, 1) := by decide +kernel
theorem dJ7_copyOf_9075b_20 : decode cJ7_copyOf_9075b 20 = .ok (.aload_n 2, 1) := by decide +kernel
theorem dJ7_copyOf_9075b_21 : decode cJ7_copyOf_9075b 21 = .ok (.iconst 0, 1) := by decide +kernel
theorem dJ7_copyOf_9075b_22 : decode cJ7_copyOf_9075b 22 = .ok (.aload_n 0, 1) := by decide +kernel
theorem dJ7_copyOf_9075b_23 : decode cJ7_copyOf_9075b 23 = .ok (.arraylength, 1) := by decide +kernel
theorem dJ7_copyOf_9075b_24 : decode cJ7_copyOf_9075b 24 = .ok (.iload_n 1, 1) := by decide +kernel
theorem dJ7_copyOf_9075b_25 : decode cJ7_copyOf_9075b 25 = .ok (.invokestatic 304, 3) := by decide +kernel
theorem dJ7_copyOf_9075b_28 : decode cJ7_copyOf_9075b 28 = .ok (.invokestatic 150, 3) := by decide +kernel
theorem dJ7_copyOf_9075b_31 : decode cJ7_copyOf_9075b 31 = .ok (.aload_n 2, 1) := by decide +kernel
theorem dJ7_copyOf_9075b_32 : decode cJ7_copyOf_9075b 32 = .ok (.areturn, 1) := by decide +kernel
theorem dJ7_checkLength_df160_0 : decode cJ7_checkLength_df160 0 = .ok (.iload_n 1, 1) := by decide +kernel
theorem dJ7_checkLength_df160_1 : decode cJ7_checkLength_df160 1 = .ok (.iload_n 0, 1) := by decide +kernel
theorem dJ7_checkLength_df160_2 : decode cJ7_checkLength_df160 2 = .ok (.if_icmp .ge 35, 3) := by decide +kernel
theorem dJ7_checkLength_df160_5 : decode cJ7_checkLength_df160 5 = .ok (.new 43, 3) := by decide +kernel
theorem dJ7_checkLength_df160_8 : decode cJ7_checkLength_df160 8 = .ok (.dup, 1) := by decide +kernel
theorem dJ7_checkLength_df160_9 : decode cJ7_checkLength_df160 9 = .ok (.new 45, 3) := by decide +kernel
theorem dJ7_checkLength_df160_12 : decode cJ7_checkLength_df160 12 = .ok (.dup, 1) := by decide +kernel
theorem dJ7_checkLength_df160_13 : decode cJ7_checkLength_df160 13 = .ok (.invokespecial 47, 3) := by decide +kernel
theorem dJ7_checkLength_df160_16 : decode cJ7_checkLength_df160 16 = .ok (.iload_n 0, 1) := by decide +kernel
theorem dJ7_checkLength_df160_17 : decode cJ7_checkLength_df160 17 = .ok (.invokevirtual 54, 3) := by decide +kernel
theorem dJ7_checkLength_df160_20 : decode cJ7_checkLength_df160 20 = .ok (.ldc_w 337, 3) := by decide +kernel
theorem dJ7_checkLength_df160_23 : decode cJ7_checkLength_df160 23 = .ok (.invokevirtual 50, 3) := by decide +kernel
theorem dJ7_checkLength_df160_26 : decode cJ7_checkLength_df160 26 = .ok (.iload_n 1, 1) := by decide +kernel
theorem dJ7_checkLength_df160_27 : decode cJ7_checkLength_df160 27 = .ok (.invokevirtual 54, 3) := by decide +kernel
theorem dJ7_checkLength_df160_30 : decode cJ7_checkLength_df160 30 = .ok (.invokevirtual 61, 3) := by decide +kernel
theorem dJ7_checkLength_df160_33 : decode cJ7_checkLength_df160 33 = .ok (.invokespecial 65, 3) := by decide +kernel
theorem dJ7_checkLength_df160_36 : decode cJ7_checkLength_df160 36 = .ok (.athrow, 1) := by decide +kernel
theorem dJ7_checkLength_df160_37 : decode cJ7_checkLength_df160 37 = .ok (.return_, 1) := by decide +kernel
theorem dJ7_copyOfRange_39247_0 : decode cJ7_copyOfRange_39247 0 = .ok (.iload_n 1, 1) := by decide +kernel
theorem dJ7_copyOfRange_39247_1 : decode cJ7_copyOfRange_39247 1 = .ok (.ifCond .ne 9, 3) := by decide +kernel
theorem dJ7_copyOfRange_39247_4 : decode cJ7_copyOfRange_39247 4 = .ok (.iload_n 2, 1) := by decide +kernel
theorem dJ7_copyOfRange_39247_5 : decode cJ7_copyOfRange_39247 5 = .ok (.aload_n 0, 1) := by decide +kernel
theorem dJ7_copyOfRange_39247_6 : decode cJ7_copyOfRange_39247 6 = .ok (.arraylength, 1) := by decide +kernel
theorem dJ7_copyOfRange_39247_7 : decode cJ7_copyOfRange_39247 7 = .ok (.if_icmp .eq 10, 3) := by decide +kernel
theorem dJ7_copyOfRange_39247_10 : decode cJ7_copyOfRange_39247 10 = .ok (.aload_n 0, 1) := by decide +kernel
theorem dJ7_copyOfRange_39247_11 : decode cJ7_copyOfRange_39247 11 = .ok (.iload_n 1, 1) := by decide +kernel
theorem dJ7_copyOfRange_39247_12 : decode cJ7_copyOfRange_39247 12 = .ok (.iload_n 2, 1) := by decide +kernel
theorem dJ7_copyOfRange_39247_13 : decode cJ7_copyOfRange_39247 13 = .ok (.invokestatic 339, 3) := by decide +kernel
theorem dJ7_copyOfRange_39247_16 : decode cJ7_copyOfRange_39247 16 = .ok (.areturn, 1) := by decide +kernel
theorem dJ7_copyOfRange_39247_17 : decode cJ7_copyOfRange_39247 17 = .ok (.aload_n 0, 1) := by decide +kernel
theorem dJ7_copyOfRange_39247_18 : decode cJ7_copyOfRange_39247 18 = .ok (.invokevirtual 310, 3) := by decide +kernel
theorem dJ7_copyOfRange_39247_21 : decode cJ7_copyOfRange_39247 21 = .ok (.checkcast 311, 3) := by decide +kernel
theorem dJ7_copyOfRange_39247_24 : decode cJ7_copyOfRange_39247 24 = .ok (.areturn, 1) := by decide +kernel
theorem dJ7_copyOfRangeByte_39247_0 : decode cJ7_copyOfRangeByte_39247 0 = .ok (.iload_n 1, 1) := by decide +kernel
theorem dJ7_copyOfRangeByte_39247_1 : decode cJ7_copyOfRangeByte_39247 1 = .ok (.iload_n 2, 1) := by decide +kernel
theorem dJ7_copyOfRangeByte_39247_2 : decode cJ7_copyOfRangeByte_39247 2 = .ok (.invokestatic 343, 3) := by decide +kernel
theorem dJ7_copyOfRangeByte_39247_5 : decode cJ7_copyOfRangeByte_39247 5 = .ok (.iload_n 2, 1) := by decide +kernel
theorem dJ7_copyOfRangeByte_39247_6 : decode cJ7_copyOfRangeByte_39247 6 = .ok (.iload_n 1, 1) := by decide +kernel
theorem dJ7_copyOfRangeByte_39247_7 : decode cJ7_copyOfRangeByte_39247 7 = .ok (.isub, 1) := by decide +kernel
theorem dJ7_copyOfRangeByte_39247_8 : decode cJ7_copyOfRangeByte_39247 8 = .ok (.istore_n 3, 1) := by decide +kernel
theorem dJ7_copyOfRangeByte_39247_9 : decode cJ7_copyOfRangeByte_39247 9 = .ok (.iload_n 3, 1) := by decide +kernel
theorem dJ7_copyOfRangeByte_39247_10 : decode cJ7_copyOfRangeByte_39247 10 = .ok (.newarray .byte, 2) := by decide +kernel
theorem dJ7_copyOfRangeByte_39247_12 : decode cJ7_copyOfRangeByte_39247 12 = .ok (.astore 4, 2) := by decide +kernel
theorem dJ7_copyOfRangeByte_39247_14 : decode cJ7_copyOfRangeByte_39247 14 = .ok (.aload_n 0, 1) := by decide +kernel
theorem dJ7_copyOfRangeByte_39247_15 : decode cJ7_copyOfRangeByte_39247 15 = .ok (.iload_n 1, 1) := by decide +kernel
theorem dJ7_copyOfRangeByte_39247_16 : decode cJ7_copyOfRangeByte_39247 16 = .ok (.aload 4, 2) := by decide +kernel
theorem dJ7_copyOfRangeByte_39247_18 : decode cJ7_copyOfRangeByte_39247 18 = .ok (.iconst 0, 1) := by decide +kernel
theorem dJ7_copyOfRangeByte_39247_19 : decode cJ7_copyOfRangeByte_39247 19 = .ok (.aload_n 0, 1) := by decide +kernel
theorem dJ7_copyOfRangeByte_39247_20 : decode cJ7_copyOfRangeByte_39247 20 = .ok (.arraylength, 1) := by decide +kernel
theorem dJ7_copyOfRangeByte_39247_21 : decode cJ7_copyOfRangeByte_39247 21 = .ok (.iload_n 1, 1) := by decide +kernel
theorem dJ7_copyOfRangeByte_39247_22 : decode cJ7_copyOfRangeByte_39247 22 = .ok (.isub, 1) := by decide +kernel
theorem dJ7_copyOfRangeByte_39247_23 : decode cJ7_copyOfRangeByte_39247 23 = .ok (.iload_n 3, 1) := by decide +kernel
theorem dJ7_copyOfRangeByte_39247_24 : decode cJ7_copyOfRangeByte_39247 24 = .ok (.invokestatic 304, 3) := by decide +kernel
theorem dJ7_copyOfRangeByte_39247_27 : decode cJ7_copyOfRangeByte_39247 27 = .ok (.invokestatic 150, 3) := by decide +kernel
theorem dJ7_copyOfRangeByte_39247_30 : decode cJ7_copyOfRangeByte_39247 30 = .ok (.aload 4, 2) := by decide +kernel
theorem dJ7_copyOfRangeByte_39247_32 : decode cJ7_copyOfRangeByte_39247 32 = .ok (.areturn, 1) := by decide +kernel
theorem dJ8_newLength_cabcc_0 : decode cJ8_newLength_cabcc 0 = .ok (.iload_n 0, 1) := by decide +kernel
theorem dJ8_newLength_cabcc_1 : decode cJ8_newLength_cabcc 1 = .ok (.iload_n 1, 1) := by decide +kernel
theorem dJ8_newLength_cabcc_2 : decode cJ8_newLength_cabcc 2 = .ok (.iload_n 2, 1) := by decide +kernel
theorem dJ8_newLength_cabcc_3 : decode cJ8_newLength_cabcc 3 = .ok (.invokestatic 194, 3) := by decide +kernel
theorem dJ8_newLength_cabcc_6 : decode cJ8_newLength_cabcc 6 = .ok (.iadd, 1) := by decide +kernel
theorem dJ8_newLength_cabcc_7 : decode cJ8_newLength_cabcc 7 = .ok (.istore_n 3, 1) := by decide +kernel
theorem dJ8_newLength_cabcc_8 : decode cJ8_newLength_cabcc 8 = .ok (.iconst 0, 1) := by decide +kernel
theorem dJ8_newLength_cabcc_9 : decode cJ8_newLength_cabcc 9 = .ok (.iload_n 3, 1) := by decide +kernel
theorem dJ8_newLength_cabcc_10 : decode cJ8_newLength_cabcc 10 = .ok (.if_icmp .ge 11, 3) := by decide +kernel
theorem dJ8_newLength_cabcc_13 : decode cJ8_newLength_cabcc 13 = .ok (.iload_n 3, 1) := by decide +kernel
theorem dJ8_newLength_cabcc_14 : decode cJ8_newLength_cabcc 14 = .ok (.ldc 200, 2) := by decide +kernel
theorem dJ8_newLength_cabcc_16 : decode cJ8_newLength_cabcc 16 = .ok (.if_icmp .gt 5, 3) := by decide +kernel
theorem dJ8_newLength_cabcc_19 : decode cJ8_newLength_cabcc 19 = .ok (.iload_n 3, 1) := by decide +kernel
theorem dJ8_newLength_cabcc_20 : decode cJ8_newLength_cabcc 20 = .ok (.ireturn, 1) := by decide +kernel
theorem dJ8_newLength_cabcc_21 : decode cJ8_newLength_cabcc 21 = .ok (.iload_n 0, 1) := by decide +kernel
theorem dJ8_newLength_cabcc_22 : decode cJ8_newLength_cabcc 22 = .ok (.iload_n 1, 1) := by decide +kernel
theorem dJ8_newLength_cabcc_23 : decode cJ8_newLength_cabcc 23 = .ok (.invokestatic 201, 3) := by decide +kernel
theorem dJ8_newLength_cabcc_26 : decode cJ8_newLength_cabcc 26 = .ok (.ireturn, 1) := by decide +kernel
theorem dJ8_hugeLength_7cf53_0 : decode cJ8_hugeLength_7cf53 0 = .ok (.iload_n 0, 1) := by decide +kernel
theorem dJ8_hugeLength_7cf53_1 : decode cJ8_hugeLength_7cf53 1 = .ok (.iload_n 1, 1) := by decide +kernel
theorem dJ8_hugeLength_7cf53_2 : decode cJ8_hugeLength_7cf53 2 = .ok (.iadd, 1) := by decide +kernel
theorem dJ8_hugeLength_7cf53_3 : decode cJ8_hugeLength_7cf53 3 = .ok (.istore_n 2, 1) := by decide +kernel
theorem dJ8_hugeLength_7cf53_4 : decode cJ8_hugeLength_7cf53 4 = .ok (.iload_n 2, 1) := by decide +kernel
theorem dJ8_hugeLength_7cf53_5 : decode cJ8_hugeLength_7cf53 5 = .ok (.ifCond .ge 44, 3) := by decide +kernel
theorem dJ8_hugeLength_7cf53_8 : decode cJ8_hugeLength_7cf53 8 = .ok (.new 204, 3) := by decide +kernel
theorem dJ8_hugeLength_7cf53_11 : decode cJ8_hugeLength_7cf53 11 = .ok (.dup, 1) := by decide +kernel
theorem dJ8_hugeLength_7cf53_12 : decode cJ8_hugeLength_7cf53 12 = .ok (.new 89, 3) := by decide +kernel
theorem dJ8_hugeLength_7cf53_15 : decode cJ8_hugeLength_7cf53 15 = .ok (.dup, 1) := by decide +kernel
theorem dJ8_hugeLength_7cf53_16 : decode cJ8_hugeLength_7cf53 16 = .ok (.invokespecial 91, 3) := by decide +kernel
theorem dJ8_hugeLength_7cf53_19 : decode cJ8_hugeLength_7cf53 19 = .ok (.ldc 206, 2) := by decide +kernel
theorem dJ8_hugeLength_7cf53_21 : decode cJ8_hugeLength_7cf53 21 = .ok (.invokevirtual 94, 3) := by decide +kernel
theorem dJ8_hugeLength_7cf53_24 : decode cJ8_hugeLength_7cf53 24 = .ok (.iload_n 0, 1) := by decide +kernel
theorem dJ8_hugeLength_7cf53_25 : decode cJ8_hugeLength_7cf53 25 = .ok (.invokevirtual 98, 3) := by decide +kernel
theorem dJ8_hugeLength_7cf53_28 : decode cJ8_hugeLength_7cf53 28 = .ok (.ldc 208, 2) := by decide +kernel
theorem dJ8_hugeLength_7cf53_30 : decode cJ8_hugeLength_7cf53 30 = .ok (.invokevirtual 94, 3) := by decide +kernel
theorem dJ8_hugeLength_7cf53_33 : decode cJ8_hugeLength_7cf53 33 = .ok (.iload_n 1, 1) := by decide +kernel
theorem dJ8_hugeLength_7cf53_34 : decode cJ8_hugeLength_7cf53 34 = .ok (.invokevirtual 98, 3) := by decide +kernel
theorem dJ8_hugeLength_7cf53_37 : decode cJ8_hugeLength_7cf53 37 = .ok (.ldc 210, 2) := by decide +kernel
theorem dJ8_hugeLength_7cf53_39 : decode cJ8_hugeLength_7cf53 39 = .ok (.invokevirtual 94, 3) := by decide +kernel
theorem dJ8_hugeLength_7cf53_42 : decode cJ8_hugeLength_7cf53 42 = .ok (.invokevirtual 101, 3) := by decide +kernel
theorem dJ8_hugeLength_7cf53_45 : decode cJ8_hugeLength_7cf53 45 = .ok (.invokespecial 212, 3) := by decide +kernel
theorem dJ8_hugeLength_7cf53_48 : decode cJ8_hugeLength_7cf53 48 = .ok (.athrow, 1) := by decide +kernel
theorem dJ8_hugeLength_7cf53_49 : decode cJ8_hugeLength_7cf53 49 = .ok (.iload_n 2, 1) := by decide +kernel
theorem dJ8_hugeLength_7cf53_50 : decode cJ8_hugeLength_7cf53 50 = .ok (.ldc 200, 2) := by decide +kernel
theorem dJ8_hugeLength_7cf53_52 : decode cJ8_hugeLength_7cf53 52 = .ok (.if_icmp .gt 6, 3) := by decide +kernel
theorem dJ8_hugeLength_7cf53_55 : decode cJ8_hugeLength_7cf53 55 = .ok (.ldc 200, 2) := by decide +kernel
theorem dJ8_hugeLength_7cf53_57 : decode cJ8_hugeLength_7cf53 57 = .ok (.ireturn, 1) := by decide +kernel
theorem dJ8_hugeLength_7cf53_58 : decode cJ8_hugeLength_7cf53 58 = .ok (.iload_n 2, 1) := by decide +kernel
theorem dJ8_hugeLength_7cf53_59 : decode cJ8_hugeLength_7cf53 59 = .ok (.ireturn, 1) := by decide +kernel
theorem dJ3_checkIndex_8e157_0 : decode cJ3_checkIndex_8e157 0 = .ok (.iload_n 0, 1) := by decide +kernel
theorem dJ3_checkIndex_8e157_1 : decode cJ3_checkIndex_8e157 1 = .ok (.ifCond .lt 8, 3) := by decide +kernel
theorem dJ3_checkIndex_8e157_4 : decode cJ3_checkIndex_8e157 4 = .ok (.iload_n 0, 1) := by decide +kernel
theorem dJ3_checkIndex_8e157_5 : decode cJ3_checkIndex_8e157 5 = .ok (.iload_n 1, 1) := by decide +kernel
theorem dJ3_checkIndex_8e157_6 : decode cJ3_checkIndex_8e157 6 = .ok (.if_icmp .lt 10, 3) := by decide +kernel
theorem dJ3_checkIndex_8e157_9 : decode cJ3_checkIndex_8e157 9 = .ok (.aload_n 2, 1) := by decide +kernel
theorem dJ3_checkIndex_8e157_10 : decode cJ3_checkIndex_8e157 10 = .ok (.iload_n 0, 1) := by decide +kernel
theorem dJ3_checkIndex_8e157_11 : decode cJ3_checkIndex_8e157 11 = .ok (.iload_n 1, 1) := by decide +kernel
theorem dJ3_checkIndex_8e157_12 : decode cJ3_checkIndex_8e157 12 = .ok (.invokestatic 95, 3) := by decide +kernel
theorem dJ3_checkIndex_8e157_15 : decode cJ3_checkIndex_8e157 15 = .ok (.athrow, 1) := by decide +kernel
theorem dJ3_checkIndex_8e157_16 : decode cJ3_checkIndex_8e157 16 = .ok (.iload_n 0, 1) := by decide +kernel
theorem dJ3_checkIndex_8e157_17 : decode cJ3_checkIndex_8e157 17 = .ok (.ireturn, 1) := by decide +kernel
theorem dJ3_checkFromToIndex_8c36e_0 : decode cJ3_checkFromToIndex_8c36e 0 = .ok (.iload_n 0, 1) := by decide +kernel
theorem dJ3_checkFromToIndex_8c36e_1 : decode cJ3_checkFromToIndex_8c36e 1 = .ok (.ifCond .lt 13, 3) := by decide +kernel
theorem dJ3_checkFromToIndex_8c36e_4 : decode cJ3_checkFromToIndex_8c36e 4 = .ok (.iload_n 0, 1) := by decide +kernel
theorem dJ3_checkFromToIndex_8c36e_5 : decode cJ3_checkFromToIndex_8c36e 5 = .ok (.iload_n 1, 1) := by decide +kernel
theorem dJ3_checkFromToIndex_8c36e_6 : decode cJ3_checkFromToIndex_8c36e 6 = .ok (.if_icmp .gt 8, 3) := by decide +kernel
theorem dJ3_checkFromToIndex_8c36e_9 : decode cJ3_checkFromToIndex_8c36e 9 = .ok (.iload_n 1, 1) := by decide +kernel
theorem dJ3_checkFromToIndex_8c36e_10 : decode cJ3_checkFromToIndex_8c36e 10 = .ok (.iload_n 2, 1) := by decide +kernel
theorem dJ3_checkFromToIndex_8c36e_11 : decode cJ3_checkFromToIndex_8c36e 11 = .ok (.if_icmp .le 11, 3) := by decide +kernel
theorem dJ3_checkFromToIndex_8c36e_14 : decode cJ3_checkFromToIndex_8c36e 14 = .ok (.aload_n 3, 1) := by decide +kernel
theorem dJ3_checkFromToIndex_8c36e_15 : decode cJ3_checkFromToIndex_8c36e 15 = .ok (.iload_n 0, 1) := by decide +kernel
theorem dJ3_checkFromToIndex_8c36e_16 : decode cJ3_checkFromToIndex_8c36e 16 = .ok (.iload_n 1, 1) := by decide +kernel
theorem dJ3_checkFromToIndex_8c36e_17 : decode cJ3_checkFromToIndex_8c36e 17 = .ok (.iload_n 2, 1) := by decide +kernel
theorem dJ3_checkFromToIndex_8c36e_18 : decode cJ3_checkFromToIndex_8c36e 18 = .ok (.invokestatic 99, 3) := by decide +kernel
theorem dJ3_checkFromToIndex_8c36e_21 : decode cJ3_checkFromToIndex_8c36e 21 = .ok (.athrow, 1) := by decide +kernel
theorem dJ3_checkFromToIndex_8c36e_22 : decode cJ3_checkFromToIndex_8c36e 22 = .ok (.iload_n 0, 1) := by decide +kernel
theorem dJ3_checkFromToIndex_8c36e_23 : decode cJ3_checkFromToIndex_8c36e 23 = .ok (.ireturn, 1) := by decide +kernel
theorem dJ3_checkFromIndexSize_8c36e_0 : decode cJ3_checkFromIndexSize_8c36e 0 = .ok (.iload_n 2, 1) := by decide +kernel
theorem dJ3_checkFromIndexSize_8c36e_1 : decode cJ3_checkFromIndexSize_8c36e 1 = .ok (.iload_n 0, 1) := by decide +kernel
theorem dJ3_checkFromIndexSize_8c36e_2 : decode cJ3_checkFromIndexSize_8c36e 2 = .ok (.ior, 1) := by decide +kernel
theorem dJ3_checkFromIndexSize_8c36e_3 : decode cJ3_checkFromIndexSize_8c36e 3 = .ok (.iload_n 1, 1) := by decide +kernel
theorem dJ3_checkFromIndexSize_8c36e_4 : decode cJ3_checkFromIndexSize_8c36e 4 = .ok (.ior, 1) := by decide +kernel
theorem dJ3_checkFromIndexSize_8c36e_5 : decode cJ3_checkFromIndexSize_8c36e 5 = .ok (.ifCond .lt 10, 3) := by decide +kernel
theorem dJ3_checkFromIndexSize_8c36e_8 : decode cJ3_checkFromIndexSize_8c36e 8 = .ok (.iload_n 1, 1) := by decide +kernel
theorem dJ3_checkFromIndexSize_8c36e_9 : decode cJ3_checkFromIndexSize_8c36e 9 = .ok (.iload_n 2, 1) := by decide +kernel
theorem dJ3_checkFromIndexSize_8c36e_10 : decode cJ3_checkFromIndexSize_8c36e 10 = .ok (.iload_n 0, 1) := by decide +kernel
theorem dJ3_checkFromIndexSize_8c36e_11 : decode cJ3_checkFromIndexSize_8c36e 11 = .ok (.isub, 1) := by decide +kernel
theorem dJ3_checkFromIndexSize_8c36e_12 : decode cJ3_checkFromIndexSize_8c36e 12 = .ok (.if_icmp .le 11, 3) := by decide +kernel
theorem dJ3_checkFromIndexSize_8c36e_15 : decode cJ3_checkFromIndexSize_8c36e 15 = .ok (.aload_n 3, 1) := by decide +kernel
theorem dJ3_checkFromIndexSize_8c36e_16 : decode cJ3_checkFromIndexSize_8c36e 16 = .ok (.iload_n 0, 1) := by decide +kernel
theorem dJ3_checkFromIndexSize_8c36e_17 : decode cJ3_checkFromIndexSize_8c36e 17 = .ok (.iload_n 1, 1) := by decide +kernel
theorem dJ3_checkFromIndexSize_8c36e_18 : decode cJ3_checkFromIndexSize_8c36e 18 = .ok (.iload_n 2, 1) := by decide +kernel
theorem dJ3_checkFromIndexSize_8c36e_19 : decode cJ3_checkFromIndexSize_8c36e 19 = .ok (.invokestatic 103, 3) := by decide +kernel
theorem dJ3_checkFromIndexSize_8c36e_22 : decode cJ3_checkFromIndexSize_8c36e 22 = .ok (.athrow, 1) := by decide +kernel
theorem dJ3_checkFromIndexSize_8c36e_23 : decode cJ3_checkFromIndexSize_8c36e 23 = .ok (.iload_n 0, 1) := by decide +kernel
theorem dJ3_checkFromIndexSize_8c36e_24 : decode cJ3_checkFromIndexSize_8c36e 24 = .ok (.ireturn, 1) := by decide +kernel
theorem dL_draw_0 : decode cL_draw 0 = .ok (.iload_n 1, 1) := by decide +kernel
theorem dL_draw_1 : decode cL_draw 1 = .ok (.aload_n 0, 1) := by decide +kernel
theorem dL_draw_2 : decode cL_draw 2 = .ok (.arraylength, 1) := by decide +kernel
theorem dL_draw_3 : decode cL_draw 3 = .ok (.if_icmp .ge 9, 3) := by decide +kernel
theorem dL_draw_6 : decode cL_draw 6 = .ok (.aload_n 0, 1) := by decide +kernel
theorem dL_draw_7 : decode cL_draw 7 = .ok (.iload_n 1, 1) := by decide +kernel
theorem dL_draw_8 : decode cL_draw 8 = .ok (.iaload, 1) := by decide +kernel
theorem dL_draw_9 : decode cL_draw 9 = .ok (.goto 4, 3) := by decide +kernel
theorem dL_draw_12 : decode cL_draw 12 = .ok (.iconst 0, 1) := by decide +kernel
theorem dL_draw_13 : decode cL_draw 13 = .ok (.ldc 7, 2) := by decide +kernel
theorem dL_draw_15 : decode cL_draw 15 = .ok (.iand, 1) := by decide +kernel
theorem dL_draw_16 : decode cL_draw 16 = .ok (.iload_n 2, 1) := by decide +kernel
theorem dL_draw_17 : decode cL_draw 17 = .ok (.irem, 1) := by decide +kernel
theorem dL_draw_18 : decode cL_draw 18 = .ok (.ireturn, 1) := by decide +kernel
theorem dL_four_0 : decode cL_four 0 = .ok (.iconst 0, 1) := by decide +kernel
theorem dL_four_1 : decode cL_four 1 = .ok (.istore_n 2, 1) := by decide +kernel
theorem dL_four_2 : decode cL_four 2 = .ok (.iconst 0, 1) := by decide +kernel
theorem dL_four_3 : decode cL_four 3 = .ok (.istore_n 3, 1) := by decide +kernel
theorem dL_four_4 : decode cL_four 4 = .ok (.iload_n 3, 1) := by decide +kernel
theorem dL_four_5 : decode cL_four 5 = .ok (.iconst 4, 1) := by decide +kernel
theorem dL_four_6 : decode cL_four 6 = .ok (.if_icmp .ge 36, 3) := by decide +kernel
theorem dL_four_9 : decode cL_four 9 = .ok (.iload_n 2, 1) := by decide +kernel
theorem dL_four_10 : decode cL_four 10 = .ok (.bipush 8, 2) := by decide +kernel
theorem dL_four_12 : decode cL_four 12 = .ok (.ishl, 1) := by decide +kernel
theorem dL_four_13 : decode cL_four 13 = .ok (.iload_n 1, 1) := by decide +kernel
theorem dL_four_14 : decode cL_four 14 = .ok (.iload_n 3, 1) := by decide +kernel
theorem dL_four_15 : decode cL_four 15 = .ok (.iadd, 1) := by decide +kernel
theorem dL_four_16 : decode cL_four 16 = .ok (.aload_n 0, 1) := by decide +kernel
theorem dL_four_17 : decode cL_four 17 = .ok (.invokevirtual 8, 3) := by decide +kernel
theorem dL_four_20 : decode cL_four 20 = .ok (.if_icmp .ge 13, 3) := by decide +kernel
theorem dL_four_23 : decode cL_four 23 = .ok (.aload_n 0, 1) := by decide +kernel
theorem dL_four_24 : decode cL_four 24 = .ok (.iload_n 1, 1) := by decide +kernel
theorem dL_four_25 : decode cL_four 25 = .ok (.iload_n 3, 1) := by decide +kernel
theorem dL_four_26 : decode cL_four 26 = .ok (.iadd, 1) := by decide +kernel
theorem dL_four_27 : decode cL_four 27 = .ok (.invokevirtual 14, 3) := by decide +kernel
theorem dL_four_30 : decode cL_four 30 = .ok (.goto 4, 3) := by decide +kernel
theorem dL_four_33 : decode cL_four 33 = .ok (.iconst 0, 1) := by decide +kernel
theorem dL_four_34 : decode cL_four 34 = .ok (.ior, 1) := by decide +kernel
theorem dL_four_35 : decode cL_four 35 = .ok (.istore_n 2, 1) := by decide +kernel
theorem dL_four_36 : decode cL_four 36 = .ok (.iinc 3 1, 3) := by decide +kernel
theorem dL_four_39 : decode cL_four 39 = .ok (.goto (-35), 3) := by decide +kernel
theorem dL_four_42 : decode cL_four 42 = .ok (.iload_n 2, 1) := by decide +kernel
theorem dL_four_43 : decode cL_four 43 = .ok (.ireturn, 1) := by decide +kernel
theorem dL_feed_0 : decode cL_feed 0 = .ok (.iconst 0, 1) := by decide +kernel
theorem dL_feed_1 : decode cL_feed 1 = .ok (.istore_n 2, 1) := by decide +kernel
theorem dL_feed_2 : decode cL_feed 2 = .ok (.iconst 0, 1) := by decide +kernel
theorem dL_feed_3 : decode cL_feed 3 = .ok (.istore_n 3, 1) := by decide +kernel
theorem dL_feed_4 : decode cL_feed 4 = .ok (.iload_n 3, 1) := by decide +kernel
theorem dL_feed_5 : decode cL_feed 5 = .ok (.aload_n 1, 1) := by decide +kernel
theorem dL_feed_6 : decode cL_feed 6 = .ok (.invokevirtual 8, 3) := by decide +kernel
theorem dL_feed_9 : decode cL_feed 9 = .ok (.if_icmp .lt 7, 3) := by decide +kernel
theorem dL_feed_12 : decode cL_feed 12 = .ok (.iload_n 3, 1) := by decide +kernel
theorem dL_feed_13 : decode cL_feed 13 = .ok (.ifCond .ne 50, 3) := by decide +kernel
theorem dL_feed_16 : decode cL_feed 16 = .ok (.aload_n 0, 1) := by decide +kernel
theorem dL_feed_17 : decode cL_feed 17 = .ok (.aload_n 1, 1) := by decide +kernel
theorem dL_feed_18 : decode cL_feed 18 = .ok (.iload_n 3, 1) := by decide +kernel
theorem dL_feed_19 : decode cL_feed 19 = .ok (.invokestatic 18, 3) := by decide +kernel
theorem dL_feed_22 : decode cL_feed 22 = .ok (.aload_n 1, 1) := by decide +kernel
theorem dL_feed_23 : decode cL_feed 23 = .ok (.iload_n 3, 1) := by decide +kernel
theorem dL_feed_24 : decode cL_feed 24 = .ok (.iconst 4, 1) := by decide +kernel
theorem dL_feed_25 : decode cL_feed 25 = .ok (.iadd, 1) := by decide +kernel
theorem dL_feed_26 : decode cL_feed 26 = .ok (.invokestatic 18, 3) := by decide +kernel
theorem dL_feed_29 : decode cL_feed 29 = .ok (.aload_n 1, 1) := by decide +kernel
theorem dL_feed_30 : decode cL_feed 30 = .ok (.iload_n 3, 1) := by decide +kernel
theorem dL_feed_31 : decode cL_feed 31 = .ok (.bipush 8, 2) := by decide +kernel
theorem dL_feed_33 : decode cL_feed 33 = .ok (.iadd, 1) := by decide +kernel
theorem dL_feed_34 : decode cL_feed 34 = .ok (.invokestatic 18, 3) := by decide +kernel
theorem dL_feed_37 : decode cL_feed 37 = .ok (.aload_n 1, 1) := by decide +kernel
theorem dL_feed_38 : decode cL_feed 38 = .ok (.iload_n 3, 1) := by decide +kernel
theorem dL_feed_39 : decode cL_feed 39 = .ok (.bipush 12, 2) := by decide +kernel
theorem dL_feed_41 : decode cL_feed 41 = .ok (.iadd, 1) := by decide +kernel
theorem dL_feed_42 : decode cL_feed 42 = .ok (.invokestatic 18, 3) := by decide +kernel
theorem dL_feed_45 : decode cL_feed 45 = .ok (.aload_n 1, 1) := by decide +kernel
theorem dL_feed_46 : decode cL_feed 46 = .ok (.iload_n 3, 1) := by decide +kernel
theorem dL_feed_47 : decode cL_feed 47 = .ok (.bipush 16, 2) := by decide +kernel
theorem dL_feed_49 : decode cL_feed 49 = .ok (.iadd, 1) := by decide +kernel
theorem dL_feed_50 : decode cL_feed 50 = .ok (.invokestatic 18, 3) := by decide +kernel
theorem dL_feed_53 : decode cL_feed 53 = .ok (.invokevirtual 24, 3) := by decide +kernel
theorem dL_feed_56 : decode cL_feed 56 = .ok (.istore_n 2, 1) := by decide +kernel
theorem dL_feed_57 : decode cL_feed 57 = .ok (.iinc 3 20, 3) := by decide +kernel
theorem dL_feed_60 : decode cL_feed 60 = .ok (.goto (-56), 3) := by decide +kernel
theorem dL_feed_63 : decode cL_feed 63 = .ok (.aload_n 0, 1) := by decide +kernel
theorem dL_feed_64 : decode cL_feed 64 = .ok (.iload_n 2, 1) := by decide +kernel
theorem dL_feed_65 : decode cL_feed 65 = .ok (.aload_n 1, 1) := by decide +kernel
theorem dL_feed_66 : decode cL_feed 66 = .ok (.invokevirtual 8, 3) := by decide +kernel
theorem dL_feed_69 : decode cL_feed 69 = .ok (.invokestatic 30, 3) := by decide +kernel
theorem dL_feed_72 : decode cL_feed 72 = .ok (.invokevirtual 36, 3) := by decide +kernel
theorem dL_feed_75 : decode cL_feed 75 = .ok (.return_, 1) := by decide +kernel
theorem dL_word_0 : decode cL_word 0 = .ok (.iconst 1, 1) := by decide +kernel
theorem dL_word_1 : decode cL_word 1 = .ok (.iload_n 1, 1) := by decide +kernel
theorem dL_word_2 : decode cL_word 2 = .ok (.bipush 7, 2) := by decide +kernel
theorem dL_word_4 : decode cL_word 4 = .ok (.iload_n 2, 1) := by decide +kernel
theorem dL_word_5 : decode cL_word 5 = .ok (.invokestatic 30, 3) := by decide +kernel
theorem dL_word_8 : decode cL_word 8 = .ok (.irem, 1) := by decide +kernel
theorem dL_word_9 : decode cL_word 9 = .ok (.iadd, 1) := by decide +kernel
theorem dL_word_10 : decode cL_word 10 = .ok (.istore_n 3, 1) := by decide +kernel
theorem dL_word_11 : decode cL_word 11 = .ok (.aload_n 0, 1) := by decide +kernel
theorem dL_word_12 : decode cL_word 12 = .ok (.ldc 40, 2) := by decide +kernel
theorem dL_word_14 : decode cL_word 14 = .ok (.invokevirtual 42, 3) := by decide +kernel
theorem dL_word_17 : decode cL_word 17 = .ok (.pop, 1) := by decide +kernel
theorem dL_word_18 : decode cL_word 18 = .ok (.iconst 0, 1) := by decide +kernel
theorem dL_word_19 : decode cL_word 19 = .ok (.istore 4, 2) := by decide +kernel
theorem dL_word_21 : decode cL_word 21 = .ok (.iload 4, 2) := by decide +kernel
theorem dL_word_23 : decode cL_word 23 = .ok (.iload_n 3, 1) := by decide +kernel
theorem dL_word_24 : decode cL_word 24 = .ok (.if_icmp .ge 54, 3) := by decide +kernel
theorem dL_word_27 : decode cL_word 27 = .ok (.aload_n 0, 1) := by decide +kernel
theorem dL_word_28 : decode cL_word 28 = .ok (.iload_n 1, 1) := by decide +kernel
theorem dL_word_29 : decode cL_word 29 = .ok (.iconst 5, 1) := by decide +kernel
theorem dL_word_30 : decode cL_word 30 = .ok (.irem, 1) := by decide +kernel
theorem dL_word_31 : decode cL_word 31 = .ok (.ifCond .ne 21, 3) := by decide +kernel
theorem dL_word_34 : decode cL_word 34 = .ok (.bipush 48, 2) := by decide +kernel
theorem dL_word_36 : decode cL_word 36 = .ok (.iload_n 1, 1) := by decide +kernel
theorem dL_word_37 : decode cL_word 37 = .ok (.bipush 7, 2) := by decide +kernel
theorem dL_word_39 : decode cL_word 39 = .ok (.idiv, 1) := by decide +kernel
theorem dL_word_40 : decode cL_word 40 = .ok (.iconst 3, 1) := by decide +kernel
theorem dL_word_41 : decode cL_word 41 = .ok (.iload 4, 2) := by decide +kernel
theorem dL_word_43 : decode cL_word 43 = .ok (.imul, 1) := by decide +kernel
theorem dL_word_44 : decode cL_word 44 = .ok (.iadd, 1) := by decide +kernel
theorem dL_word_45 : decode cL_word 45 = .ok (.bipush 10, 2) := by decide +kernel
theorem dL_word_47 : decode cL_word 47 = .ok (.irem, 1) := by decide +kernel
theorem dL_word_48 : decode cL_word 48 = .ok (.iadd, 1) := by decide +kernel
theorem dL_word_49 : decode cL_word 49 = .ok (.goto 18, 3) := by decide +kernel
theorem dL_word_52 : decode cL_word 52 = .ok (.bipush 97, 2) := by decide +kernel
theorem dL_word_54 : decode cL_word 54 = .ok (.iload_n 1, 1) := by decide +kernel
theorem dL_word_55 : decode cL_word 55 = .ok (.bipush 7, 2) := by decide +kernel
theorem dL_word_57 : decode cL_word 57 = .ok (.idiv, 1) := by decide +kernel
theorem dL_word_58 : decode cL_word 58 = .ok (.iconst 5, 1) := by decide +kernel
theorem dL_word_59 : decode cL_word 59 = .ok (.iload 4, 2) := by decide +kernel
theorem dL_word_61 : decode cL_word 61 = .ok (.imul, 1) := by decide +kernel
theorem dL_word_62 : decode cL_word 62 = .ok (.iadd, 1) := by decide +kernel
theorem dL_word_63 : decode cL_word 63 = .ok (.bipush 26, 2) := by decide +kernel
theorem dL_word_65 : decode cL_word 65 = .ok (.irem, 1) := by decide +kernel
theorem dL_word_66 : decode cL_word 66 = .ok (.iadd, 1) := by decide +kernel
theorem dL_word_67 : decode cL_word 67 = .ok (.i2c, 1) := by decide +kernel
theorem dL_word_68 : decode cL_word 68 = .ok (.invokevirtual 47, 3) := by decide +kernel
theorem dL_word_71 : decode cL_word 71 = .ok (.pop, 1) := by decide +kernel
theorem dL_word_72 : decode cL_word 72 = .ok (.iinc 4 1, 3) := by decide +kernel
theorem dL_word_75 : decode cL_word 75 = .ok (.goto (-54), 3) := by decide +kernel
theorem dL_word_78 : decode cL_word 78 = .ok (.return_, 1) := by decide +kernel
theorem dL_load_0 : decode cL_load 0 = .ok (.iconst 4, 1) := by decide +kernel
theorem dL_load_1 : decode cL_load 1 = .ok (.aload_n 1, 1) := by decide +kernel
theorem dL_load_2 : decode cL_load 2 = .ok (.iconst 0, 1) := by decide +kernel
theorem dL_load_3 : decode cL_load 3 = .ok (.bipush 21, 2) := by decide +kernel
theorem dL_load_5 : decode cL_load 5 = .ok (.invokestatic 50, 3) := by decide +kernel
theorem dL_load_8 : decode cL_load 8 = .ok (.iadd, 1) := by decide +kernel
theorem dL_load_9 : decode cL_load 9 = .ok (.istore_n 2, 1) := by decide +kernel
theorem dL_load_10 : decode cL_load 10 = .ok (.iconst 2, 1) := by decide +kernel
theorem dL_load_11 : decode cL_load 11 = .ok (.aload_n 1, 1) := by decide +kernel
theorem dL_load_12 : decode cL_load 12 = .ok (.iconst 1, 1) := by decide +kernel
theorem dL_load_13 : decode cL_load 13 = .ok (.bipush 11, 2) := by decide +kernel
theorem dL_load_15 : decode cL_load 15 = .ok (.invokestatic 50, 3) := by decide +kernel
theorem dL_load_18 : decode cL_load 18 = .ok (.iadd, 1) := by decide +kernel
theorem dL_load_19 : decode cL_load 19 = .ok (.istore_n 3, 1) := by decide +kernel
theorem dL_load_20 : decode cL_load 20 = .ok (.new 43, 3) := by decide +kernel
theorem dL_load_23 : decode cL_load 23 = .ok (.dup, 1) := by decide +kernel
theorem dL_load_24 : decode cL_load 24 = .ok (.ldc 54, 2) := by decide +kernel
theorem dL_load_26 : decode cL_load 26 = .ok (.invokespecial 56, 3) := by decide +kernel
theorem dL_load_29 : decode cL_load 29 = .ok (.iload_n 2, 1) := by decide +kernel
theorem dL_load_30 : decode cL_load 30 = .ok (.invokevirtual 59, 3) := by decide +kernel
theorem dL_load_33 : decode cL_load 33 = .ok (.ldc 40, 2) := by decide +kernel
theorem dL_load_35 : decode cL_load 35 = .ok (.invokevirtual 42, 3) := by decide +kernel
theorem dL_load_38 : decode cL_load 38 = .ok (.iload_n 3, 1) := by decide +kernel
theorem dL_load_39 : decode cL_load 39 = .ok (.invokevirtual 59, 3) := by decide +kernel
theorem dL_load_42 : decode cL_load 42 = .ok (.ldc 62, 2) := by decide +kernel
theorem dL_load_44 : decode cL_load 44 = .ok (.invokevirtual 42, 3) := by decide +kernel
theorem dL_load_47 : decode cL_load 47 = .ok (.astore 4, 2) := by decide +kernel
theorem dL_load_49 : decode cL_load 49 = .ok (.aload_n 1, 1) := by decide +kernel
theorem dL_load_50 : decode cL_load 50 = .ok (.iconst 2, 1) := by decide +kernel
theorem dL_load_51 : decode cL_load 51 = .ok (.bipush 9, 2) := by decide +kernel
theorem dL_load_53 : decode cL_load 53 = .ok (.invokestatic 50, 3) := by decide +kernel
theorem dL_load_56 : decode cL_load 56 = .ok (.istore 5, 2) := by decide +kernel
theorem dL_load_58 : decode cL_load 58 = .ok (.iconst 0, 1) := by decide +kernel
theorem dL_load_59 : decode cL_load 59 = .ok (.istore 6, 2) := by decide +kernel
theorem dL_load_61 : decode cL_load 61 = .ok (.iconst 0, 1) := by decide +kernel
theorem dL_load_62 : decode cL_load 62 = .ok (.istore 7, 2) := by decide +kernel
theorem dL_load_64 : decode cL_load 64 = .ok (.iload 7, 2) := by decide +kernel
theorem dL_load_66 : decode cL_load 66 = .ok (.iload 5, 2) := by decide +kernel
theorem dL_load_68 : decode cL_load 68 = .ok (.if_icmp .ge 110, 3) := by decide +kernel
theorem dL_load_71 : decode cL_load 71 = .ok (.aload_n 1, 1) := by decide +kernel
theorem dL_load_72 : decode cL_load 72 = .ok (.iconst 3, 1) := by decide +kernel
theorem dL_load_73 : decode cL_load 73 = .ok (.iload 7, 2) := by decide +kernel
theorem dL_load_75 : decode cL_load 75 = .ok (.iadd, 1) := by decide +kernel
theorem dL_load_76 : decode cL_load 76 = .ok (.iload_n 2, 1) := by decide +kernel
theorem dL_load_77 : decode cL_load 77 = .ok (.iload_n 3, 1) := by decide +kernel
theorem dL_load_78 : decode cL_load 78 = .ok (.imul, 1) := by decide +kernel
theorem dL_load_79 : decode cL_load 79 = .ok (.invokestatic 50, 3) := by decide +kernel
theorem dL_load_82 : decode cL_load 82 = .ok (.istore 8, 2) := by decide +kernel
theorem dL_load_84 : decode cL_load 84 = .ok (.iconst 0, 1) := by decide +kernel
theorem dL_load_85 : decode cL_load 85 = .ok (.istore 9, 2) := by decide +kernel
theorem dL_load_87 : decode cL_load 87 = .ok (.iconst 0, 1) := by decide +kernel
theorem dL_load_88 : decode cL_load 88 = .ok (.istore 10, 2) := by decide +kernel
theorem dL_load_90 : decode cL_load 90 = .ok (.iload 10, 2) := by decide +kernel
theorem dL_load_92 : decode cL_load 92 = .ok (.iload 7, 2) := by decide +kernel
theorem dL_load_94 : decode cL_load 94 = .ok (.if_icmp .ge 35, 3) := by decide +kernel
theorem dL_load_97 : decode cL_load 97 = .ok (.iload 9, 2) := by decide +kernel
theorem dL_load_99 : decode cL_load 99 = .ok (.aload_n 1, 1) := by decide +kernel
theorem dL_load_100 : decode cL_load 100 = .ok (.iconst 3, 1) := by decide +kernel
theorem dL_load_101 : decode cL_load 101 = .ok (.iload 10, 2) := by decide +kernel
theorem dL_load_103 : decode cL_load 103 = .ok (.iadd, 1) := by decide +kernel
theorem dL_load_104 : decode cL_load 104 = .ok (.iload_n 2, 1) := by decide +kernel
theorem dL_load_105 : decode cL_load 105 = .ok (.iload_n 3, 1) := by decide +kernel
theorem dL_load_106 : decode cL_load 106 = .ok (.imul, 1) := by decide +kernel
theorem dL_load_107 : decode cL_load 107 = .ok (.invokestatic 50, 3) := by decide +kernel
theorem dL_load_110 : decode cL_load 110 = .ok (.iload 8, 2) := by decide +kernel
theorem dL_load_112 : decode cL_load 112 = .ok (.if_icmp .ne 7, 3) := by decide +kernel
theorem dL_load_115 : decode cL_load 115 = .ok (.iconst 1, 1) := by decide +kernel
theorem dL_load_116 : decode cL_load 116 = .ok (.goto 4, 3) := by decide +kernel
theorem dL_load_119 : decode cL_load 119 = .ok (.iconst 0, 1) := by decide +kernel
theorem dL_load_120 : decode cL_load 120 = .ok (.ior, 1) := by decide +kernel
theorem dL_load_121 : decode cL_load 121 = .ok (.istore 9, 2) := by decide +kernel
theorem dL_load_123 : decode cL_load 123 = .ok (.iinc 10 1, 3) := by decide +kernel
theorem dL_load_126 : decode cL_load 126 = .ok (.goto (-36), 3) := by decide +kernel
theorem dL_load_129 : decode cL_load 129 = .ok (.iload 9, 2) := by decide +kernel
theorem dL_load_131 : decode cL_load 131 = .ok (.ifCond .eq 6, 3) := by decide +kernel
theorem dL_load_134 : decode cL_load 134 = .ok (.goto 38, 3) := by decide +kernel
theorem dL_load_137 : decode cL_load 137 = .ok (.aload 4, 2) := by decide +kernel
theorem dL_load_139 : decode cL_load 139 = .ok (.ldc 64, 2) := by decide +kernel
theorem dL_load_141 : decode cL_load 141 = .ok (.invokevirtual 42, 3) := by decide +kernel
theorem dL_load_144 : decode cL_load 144 = .ok (.iload 8, 2) := by decide +kernel
theorem dL_load_146 : decode cL_load 146 = .ok (.iload_n 2, 1) := by decide +kernel
theorem dL_load_147 : decode cL_load 147 = .ok (.irem, 1) := by decide +kernel
theorem dL_load_148 : decode cL_load 148 = .ok (.invokevirtual 59, 3) := by decide +kernel
theorem dL_load_151 : decode cL_load 151 = .ok (.ldc 40, 2) := by decide +kernel
theorem dL_load_153 : decode cL_load 153 = .ok (.invokevirtual 42, 3) := by decide +kernel
theorem dL_load_156 : decode cL_load 156 = .ok (.iload 8, 2) := by decide +kernel
theorem dL_load_158 : decode cL_load 158 = .ok (.iload_n 2, 1) := by decide +kernel
theorem dL_load_159 : decode cL_load 159 = .ok (.idiv, 1) := by decide +kernel
theorem dL_load_160 : decode cL_load 160 = .ok (.invokevirtual 59, 3) := by decide +kernel
theorem dL_load_163 : decode cL_load 163 = .ok (.ldc 62, 2) := by decide +kernel
theorem dL_load_165 : decode cL_load 165 = .ok (.invokevirtual 42, 3) := by decide +kernel
theorem dL_load_168 : decode cL_load 168 = .ok (.pop, 1) := by decide +kernel
theorem dL_load_169 : decode cL_load 169 = .ok (.iinc 6 1, 3) := by decide +kernel
theorem dL_load_172 : decode cL_load 172 = .ok (.iinc 7 1, 3) := by decide +kernel
theorem dL_load_175 : decode cL_load 175 = .ok (.goto (-111), 3) := by decide +kernel
theorem dL_load_178 : decode cL_load 178 = .ok (.aload_n 1, 1) := by decide +kernel
theorem dL_load_179 : decode cL_load 179 = .ok (.bipush 12, 2) := by decide +kernel
theorem dL_load_181 : decode cL_load 181 = .ok (.iconst 4, 1) := by decide +kernel
theorem dL_load_182 : decode cL_load 182 = .ok (.invokestatic 50, 3) := by decide +kernel
theorem dL_load_185 : decode cL_load 185 = .ok (.istore 7, 2) := by decide +kernel
theorem dL_load_187 : decode cL_load 187 = .ok (.aload_n 1, 1) := by decide +kernel
theorem dL_load_188 : decode cL_load 188 = .ok (.bipush 13, 2) := by decide +kernel
theorem dL_load_190 : decode cL_load 190 = .ok (.iconst 2, 1) := by decide +kernel
theorem dL_load_191 : decode cL_load 191 = .ok (.invokestatic 50, 3) := by decide +kernel
theorem dL_load_194 : decode cL_load 194 = .ok (.ifCond .ne 21, 3) := by decide +kernel
theorem dL_load_197 : decode cL_load 197 = .ok (.aload 4, 2) := by decide +kernel
theorem dL_load_199 : decode cL_load 199 = .ok (.ldc 66, 2) := by decide +kernel
theorem dL_load_201 : decode cL_load 201 = .ok (.invokevirtual 42, 3) := by decide +kernel
theorem dL_load_204 : decode cL_load 204 = .ok (.iload 7, 2) := by decide +kernel
theorem dL_load_206 : decode cL_load 206 = .ok (.invokevirtual 59, 3) := by decide +kernel
theorem dL_load_209 : decode cL_load 209 = .ok (.ldc 62, 2) := by decide +kernel
theorem dL_load_211 : decode cL_load 211 = .ok (.invokevirtual 42, 3) := by decide +kernel
theorem dL_load_214 : decode cL_load 214 = .ok (.pop, 1) := by decide +kernel
theorem dL_load_215 : decode cL_load 215 = .ok (.iconst 1, 1) := by decide +kernel
theorem dL_load_216 : decode cL_load 216 = .ok (.aload_n 1, 1) := by decide +kernel
theorem dL_load_217 : decode cL_load 217 = .ok (.bipush 14, 2) := by decide +kernel
theorem dL_load_219 : decode cL_load 219 = .ok (.bipush 40, 2) := by decide +kernel
theorem dL_load_221 : decode cL_load 221 = .ok (.invokestatic 50, 3) := by decide +kernel
theorem dL_load_224 : decode cL_load 224 = .ok (.iadd, 1) := by decide +kernel
theorem dL_load_225 : decode cL_load 225 = .ok (.istore 8, 2) := by decide +kernel
theorem dL_load_227 : decode cL_load 227 = .ok (.aload_n 1, 1) := by decide +kernel
theorem dL_load_228 : decode cL_load 228 = .ok (.bipush 15, 2) := by decide +kernel
theorem dL_load_230 : decode cL_load 230 = .ok (.bipush 100, 2) := by decide +kernel
theorem dL_load_232 : decode cL_load 232 = .ok (.invokestatic 50, 3) := by decide +kernel
theorem dL_load_235 : decode cL_load 235 = .ok (.istore 9, 2) := by decide +kernel
theorem dL_load_237 : decode cL_load 237 = .ok (.aload_n 1, 1) := by decide +kernel
theorem dL_load_238 : decode cL_load 238 = .ok (.bipush 16, 2) := by decide +kernel
theorem dL_load_240 : decode cL_load 240 = .ok (.iconst 2, 1) := by decide +kernel
theorem dL_load_241 : decode cL_load 241 = .ok (.invokestatic 50, 3) := by decide +kernel
theorem dL_load_244 : decode cL_load 244 = .ok (.ifCond .ne 31, 3) := by decide +kernel
theorem dL_load_247 : decode cL_load 247 = .ok (.aload 4, 2) := by decide +kernel
theorem dL_load_249 : decode cL_load 249 = .ok (.ldc 68, 2) := by decide +kernel
theorem dL_load_251 : decode cL_load 251 = .ok (.invokevirtual 42, 3) := by decide +kernel
theorem dL_load_254 : decode cL_load 254 = .ok (.iload 8, 2) := by decide +kernel
theorem dL_load_256 : decode cL_load 256 = .ok (.invokevirtual 59, 3) := by decide +kernel
theorem dL_load_259 : decode cL_load 259 = .ok (.ldc 40, 2) := by decide +kernel
theorem dL_load_261 : decode cL_load 261 = .ok (.invokevirtual 42, 3) := by decide +kernel
theorem dL_load_264 : decode cL_load 264 = .ok (.iload 9, 2) := by decide +kernel
theorem dL_load_266 : decode cL_load 266 = .ok (.invokevirtual 59, 3) := by decide +kernel
theorem dL_load_269 : decode cL_load 269 = .ok (.ldc 62, 2) := by decide +kernel
theorem dL_load_271 : decode cL_load 271 = .ok (.invokevirtual 42, 3) := by decide +kernel
theorem dL_load_274 : decode cL_load 274 = .ok (.pop, 1) := by decide +kernel
theorem dL_load_275 : decode cL_load 275 = .ok (.aload_n 1, 1) := by decide +kernel
theorem dL_load_276 : decode cL_load 276 = .ok (.bipush 17, 2) := by decide +kernel
theorem dL_load_278 : decode cL_load 278 = .ok (.iconst 4, 1) := by decide +kernel
theorem dL_load_279 : decode cL_load 279 = .ok (.invokestatic 50, 3) := by decide +kernel
theorem dL_load_282 : decode cL_load 282 = .ok (.istore 10, 2) := by decide +kernel
theorem dL_load_284 : decode cL_load 284 = .ok (.iconst 0, 1) := by decide +kernel
theorem dL_load_285 : decode cL_load 285 = .ok (.istore 11, 2) := by decide +kernel
theorem dL_load_287 : decode cL_load 287 = .ok (.iconst 0, 1) := by decide +kernel
theorem dL_load_288 : decode cL_load 288 = .ok (.istore 12, 2) := by decide +kernel
theorem dL_load_290 : decode cL_load 290 = .ok (.iload 12, 2) := by decide +kernel
theorem dL_load_292 : decode cL_load 292 = .ok (.iload 10, 2) := by decide +kernel
theorem dL_load_294 : decode cL_load 294 = .ok (.if_icmp .ge 118, 3) := by decide +kernel
theorem dL_load_297 : decode cL_load 297 = .ok (.iconst 1, 1) := by decide +kernel
theorem dL_load_298 : decode cL_load 298 = .ok (.aload_n 1, 1) := by decide +kernel
theorem dL_load_299 : decode cL_load 299 = .ok (.bipush 18, 2) := by decide +kernel
theorem dL_load_301 : decode cL_load 301 = .ok (.iload 12, 2) := by decide +kernel
theorem dL_load_303 : decode cL_load 303 = .ok (.iadd, 1) := by decide +kernel
theorem dL_load_304 : decode cL_load 304 = .ok (.iconst 5, 1) := by decide +kernel
theorem dL_load_305 : decode cL_load 305 = .ok (.invokestatic 50, 3) := by decide +kernel
theorem dL_load_308 : decode cL_load 308 = .ok (.iadd, 1) := by decide +kernel
theorem dL_load_309 : decode cL_load 309 = .ok (.istore 13, 2) := by decide +kernel
theorem dL_load_311 : decode cL_load 311 = .ok (.aload_n 1, 1) := by decide +kernel
theorem dL_load_312 : decode cL_load 312 = .ok (.bipush 22, 2) := by decide +kernel
theorem dL_load_314 : decode cL_load 314 = .ok (.iload 12, 2) := by decide +kernel
theorem dL_load_316 : decode cL_load 316 = .ok (.iadd, 1) := by decide +kernel
theorem dL_load_317 : decode cL_load 317 = .ok (.iconst 3, 1) := by decide +kernel
theorem dL_load_318 : decode cL_load 318 = .ok (.invokestatic 50, 3) := by decide +kernel
theorem dL_load_321 : decode cL_load 321 = .ok (.istore 14, 2) := by decide +kernel
theorem dL_load_323 : decode cL_load 323 = .ok (.aload 4, 2) := by decide +kernel
theorem dL_load_325 : decode cL_load 325 = .ok (.iload 14, 2) := by decide +kernel
theorem dL_load_327 : decode cL_load 327 = .ok (.ifCond .ne 8, 3) := by decide +kernel
theorem dL_load_330 : decode cL_load 330 = .ok (.ldc 70, 2) := by decide +kernel
theorem dL_load_332 : decode cL_load 332 = .ok (.goto 16, 3) := by decide +kernel
theorem dL_load_335 : decode cL_load 335 = .ok (.iload 14, 2) := by decide +kernel
theorem dL_load_337 : decode cL_load 337 = .ok (.iconst 1, 1) := by decide +kernel
theorem dL_load_338 : decode cL_load 338 = .ok (.if_icmp .ne 8, 3) := by decide +kernel
theorem dL_load_341 : decode cL_load 341 = .ok (.ldc 72, 2) := by decide +kernel
theorem dL_load_343 : decode cL_load 343 = .ok (.goto 5, 3) := by decide +kernel
theorem dL_load_346 : decode cL_load 346 = .ok (.ldc 74, 2) := by decide +kernel
theorem dL_load_348 : decode cL_load 348 = .ok (.invokevirtual 42, 3) := by decide +kernel
theorem dL_load_351 : decode cL_load 351 = .ok (.pop, 1) := by decide +kernel
theorem dL_load_352 : decode cL_load 352 = .ok (.iconst 0, 1) := by decide +kernel
theorem dL_load_353 : decode cL_load 353 = .ok (.istore 15, 2) := by decide +kernel
theorem dL_load_355 : decode cL_load 355 = .ok (.iload 15, 2) := by decide +kernel
theorem dL_load_357 : decode cL_load 357 = .ok (.iload 13, 2) := by decide +kernel
theorem dL_load_359 : decode cL_load 359 = .ok (.if_icmp .ge 32, 3) := by decide +kernel
theorem dL_load_362 : decode cL_load 362 = .ok (.aload 4, 2) := by decide +kernel
theorem dL_load_364 : decode cL_load 364 = .ok (.aload_n 1, 1) := by decide +kernel
theorem dL_load_365 : decode cL_load 365 = .ok (.bipush 26, 2) := by decide +kernel
theorem dL_load_367 : decode cL_load 367 = .ok (.iconst 5, 1) := by decide +kernel
theorem dL_load_368 : decode cL_load 368 = .ok (.iload 12, 2) := by decide +kernel
theorem dL_load_370 : decode cL_load 370 = .ok (.imul, 1) := by decide +kernel
theorem dL_load_371 : decode cL_load 371 = .ok (.iadd, 1) := by decide +kernel
theorem dL_load_372 : decode cL_load 372 = .ok (.iload 15, 2) := by decide +kernel
theorem dL_load_374 : decode cL_load 374 = .ok (.iadd, 1) := by decide +kernel
theorem dL_load_375 : decode cL_load 375 = .ok (.sipush 10000, 3) := by decide +kernel
theorem dL_load_378 : decode cL_load 378 = .ok (.invokestatic 50, 3) := by decide +kernel
theorem dL_load_381 : decode cL_load 381 = .ok (.iload_n 2, 1) := by decide +kernel
theorem dL_load_382 : decode cL_load 382 = .ok (.invokestatic 76, 3) := by decide +kernel
theorem dL_load_385 : decode cL_load 385 = .ok (.iinc 15 1, 3) := by decide +kernel
theorem dL_load_388 : decode cL_load 388 = .ok (.goto (-33), 3) := by decide +kernel
theorem dL_load_391 : decode cL_load 391 = .ok (.aload 4, 2) := by decide +kernel
theorem dL_load_393 : decode cL_load 393 = .ok (.ldc 62, 2) := by decide +kernel
theorem dL_load_395 : decode cL_load 395 = .ok (.invokevirtual 42, 3) := by decide +kernel
theorem dL_load_398 : decode cL_load 398 = .ok (.pop, 1) := by decide +kernel
theorem dL_load_399 : decode cL_load 399 = .ok (.iload 11, 2) := by decide +kernel
theorem dL_load_401 : decode cL_load 401 = .ok (.iload 13, 2) := by decide +kernel
theorem dL_load_403 : decode cL_load 403 = .ok (.iadd, 1) := by decide +kernel
theorem dL_load_404 : decode cL_load 404 = .ok (.istore 11, 2) := by decide +kernel
theorem dL_load_406 : decode cL_load 406 = .ok (.iinc 12 1, 3) := by decide +kernel
theorem dL_load_409 : decode cL_load 409 = .ok (.goto (-119), 3) := by decide +kernel
theorem dL_load_412 : decode cL_load 412 = .ok (.aload_n 0, 1) := by decide +kernel
theorem dL_load_413 : decode cL_load 413 = .ok (.aload 4, 2) := by decide +kernel
theorem dL_load_415 : decode cL_load 415 = .ok (.invokevirtual 80, 3) := by decide +kernel
theorem dL_load_418 : decode cL_load 418 = .ok (.invokestatic 84, 3) := by decide +kernel
theorem dL_load_421 : decode cL_load 421 = .ok (.aload_n 0, 1) := by decide +kernel
theorem dL_load_422 : decode cL_load 422 = .ok (.invokevirtual 88, 3) := by decide +kernel
theorem dL_load_425 : decode cL_load 425 = .ok (.istore 12, 2) := by decide +kernel
theorem dL_load_427 : decode cL_load 427 = .ok (.iload 12, 2) := by decide +kernel
theorem dL_load_429 : decode cL_load 429 = .ok (.ifCond .lt 62, 3) := by decide +kernel
theorem dL_load_432 : decode cL_load 432 = .ok (.aload_n 0, 1) := by decide +kernel
theorem dL_load_433 : decode cL_load 433 = .ok (.invokevirtual 91, 3) := by decide +kernel
theorem dL_load_436 : decode cL_load 436 = .ok (.ifCond .ne 55, 3) := by decide +kernel
theorem dL_load_439 : decode cL_load 439 = .ok (.aload_n 0, 1) := by decide +kernel
theorem dL_load_440 : decode cL_load 440 = .ok (.iconst 0, 1) := by decide +kernel
theorem dL_load_441 : decode cL_load 441 = .ok (.invokevirtual 94, 3) := by decide +kernel
theorem dL_load_444 : decode cL_load 444 = .ok (.iload_n 2, 1) := by decide +kernel
theorem dL_load_445 : decode cL_load 445 = .ok (.if_icmp .ne 46, 3) := by decide +kernel
theorem dL_load_448 : decode cL_load 448 = .ok (.aload_n 0, 1) := by decide +kernel
theorem dL_load_449 : decode cL_load 449 = .ok (.iconst 1, 1) := by decide +kernel
theorem dL_load_450 : decode cL_load 450 = .ok (.invokevirtual 94, 3) := by decide +kernel
theorem dL_load_453 : decode cL_load 453 = .ok (.iload_n 3, 1) := by decide +kernel
theorem dL_load_454 : decode cL_load 454 = .ok (.if_icmp .ne 37, 3) := by decide +kernel
theorem dL_load_457 : decode cL_load 457 = .ok (.aload_n 0, 1) := by decide +kernel
theorem dL_load_458 : decode cL_load 458 = .ok (.iconst 2, 1) := by decide +kernel
theorem dL_load_459 : decode cL_load 459 = .ok (.invokevirtual 94, 3) := by decide +kernel
theorem dL_load_462 : decode cL_load 462 = .ok (.iload 6, 2) := by decide +kernel
theorem dL_load_464 : decode cL_load 464 = .ok (.if_icmp .ne 27, 3) := by decide +kernel
theorem dL_load_467 : decode cL_load 467 = .ok (.aload_n 0, 1) := by decide +kernel
theorem dL_load_468 : decode cL_load 468 = .ok (.iconst 3, 1) := by decide +kernel
theorem dL_load_469 : decode cL_load 469 = .ok (.invokevirtual 94, 3) := by decide +kernel
theorem dL_load_472 : decode cL_load 472 = .ok (.aload_n 1, 1) := by decide +kernel
theorem dL_load_473 : decode cL_load 473 = .ok (.bipush 13, 2) := by decide +kernel
theorem dL_load_475 : decode cL_load 475 = .ok (.iconst 2, 1) := by decide +kernel
theorem dL_load_476 : decode cL_load 476 = .ok (.invokestatic 50, 3) := by decide +kernel
theorem dL_load_479 : decode cL_load 479 = .ok (.ifCond .ne 8, 3) := by decide +kernel
theorem dL_load_482 : decode cL_load 482 = .ok (.iload 7, 2) := by decide +kernel
theorem dL_load_484 : decode cL_load 484 = .ok (.goto 4, 3) := by decide +kernel
theorem dL_load_487 : decode cL_load 487 = .ok (.iconst 0, 1) := by decide +kernel
theorem dL_load_488 : decode cL_load 488 = .ok (.if_icmp .eq 5, 3) := by decide +kernel
theorem dL_load_491 : decode cL_load 491 = .ok (.iconst 0, 1) := by decide +kernel
theorem dL_load_492 : decode cL_load 492 = .ok (.ireturn, 1) := by decide +kernel
theorem dL_load_493 : decode cL_load 493 = .ok (.aload_n 0, 1) := by decide +kernel
theorem dL_load_494 : decode cL_load 494 = .ok (.iconst 4, 1) := by decide +kernel
theorem dL_load_495 : decode cL_load 495 = .ok (.invokevirtual 94, 3) := by decide +kernel
theorem dL_load_498 : decode cL_load 498 = .ok (.iload 10, 2) := by decide +kernel
theorem dL_load_500 : decode cL_load 500 = .ok (.if_icmp .ne 104, 3) := by decide +kernel
theorem dL_load_503 : decode cL_load 503 = .ok (.aload_n 0, 1) := by decide +kernel
theorem dL_load_504 : decode cL_load 504 = .ok (.iconst 5, 1) := by decide +kernel
theorem dL_load_505 : decode cL_load 505 = .ok (.invokevirtual 94, 3) := by decide +kernel
theorem dL_load_508 : decode cL_load 508 = .ok (.iload 11, 2) := by decide +kernel
theorem dL_load_510 : decode cL_load 510 = .ok (.if_icmp .ne 94, 3) := by decide +kernel
theorem dL_load_513 : decode cL_load 513 = .ok (.aload_n 0, 1) := by decide +kernel
theorem dL_load_514 : decode cL_load 514 = .ok (.bipush 6, 2) := by decide +kernel
theorem dL_load_516 : decode cL_load 516 = .ok (.invokevirtual 94, 3) := by decide +kernel
theorem dL_load_519 : decode cL_load 519 = .ok (.iload 12, 2) := by decide +kernel
theorem dL_load_521 : decode cL_load 521 = .ok (.if_icmp .ne 83, 3) := by decide +kernel
theorem dL_load_524 : decode cL_load 524 = .ok (.aload_n 0, 1) := by decide +kernel
theorem dL_load_525 : decode cL_load 525 = .ok (.bipush 8, 2) := by decide +kernel
theorem dL_load_527 : decode cL_load 527 = .ok (.invokevirtual 94, 3) := by decide +kernel
theorem dL_load_530 : decode cL_load 530 = .ok (.ifCond .ne 74, 3) := by decide +kernel
theorem dL_load_533 : decode cL_load 533 = .ok (.aload_n 0, 1) := by decide +kernel
theorem dL_load_534 : decode cL_load 534 = .ok (.bipush 9, 2) := by decide +kernel
theorem dL_load_536 : decode cL_load 536 = .ok (.invokevirtual 94, 3) := by decide +kernel
theorem dL_load_539 : decode cL_load 539 = .ok (.aload_n 0, 1) := by decide +kernel
theorem dL_load_540 : decode cL_load 540 = .ok (.bipush 10, 2) := by decide +kernel
theorem dL_load_542 : decode cL_load 542 = .ok (.invokevirtual 94, 3) := by decide +kernel
theorem dL_load_545 : decode cL_load 545 = .ok (.if_icmp .ne 59, 3) := by decide +kernel
theorem dL_load_548 : decode cL_load 548 = .ok (.aload_n 0, 1) := by decide +kernel
theorem dL_load_549 : decode cL_load 549 = .ok (.bipush 10, 2) := by decide +kernel
theorem dL_load_551 : decode cL_load 551 = .ok (.invokevirtual 94, 3) := by decide +kernel
theorem dL_load_554 : decode cL_load 554 = .ok (.aload_n 1, 1) := by decide +kernel
theorem dL_load_555 : decode cL_load 555 = .ok (.bipush 16, 2) := by decide +kernel
theorem dL_load_557 : decode cL_load 557 = .ok (.iconst 2, 1) := by decide +kernel
theorem dL_load_558 : decode cL_load 558 = .ok (.invokestatic 50, 3) := by decide +kernel
theorem dL_load_561 : decode cL_load 561 = .ok (.ifCond .ne 8, 3) := by decide +kernel
theorem dL_load_564 : decode cL_load 564 = .ok (.iload 8, 2) := by decide +kernel
theorem dL_load_566 : decode cL_load 566 = .ok (.goto 5, 3) := by decide +kernel
theorem dL_load_569 : decode cL_load 569 = .ok (.bipush 100, 2) := by decide +kernel
theorem dL_load_571 : decode cL_load 571 = .ok (.if_icmp .ne 33, 3) := by decide +kernel
theorem dL_load_574 : decode cL_load 574 = .ok (.aload_n 0, 1) := by decide +kernel
theorem dL_load_575 : decode cL_load 575 = .ok (.bipush 11, 2) := by decide +kernel
theorem dL_load_577 : decode cL_load 577 = .ok (.invokevirtual 94, 3) := by decide +kernel
theorem dL_load_580 : decode cL_load 580 = .ok (.aload_n 1, 1) := by decide +kernel
theorem dL_load_581 : decode cL_load 581 = .ok (.bipush 16, 2) := by decide +kernel
theorem dL_load_583 : decode cL_load 583 = .ok (.iconst 2, 1) := by decide +kernel
theorem dL_load_584 : decode cL_load 584 = .ok (.invokestatic 50, 3) := by decide +kernel
theorem dL_load_587 : decode cL_load 587 = .ok (.ifCond .ne 8, 3) := by decide +kernel
theorem dL_load_590 : decode cL_load 590 = .ok (.iload 9, 2) := by decide +kernel
theorem dL_load_592 : decode cL_load 592 = .ok (.goto 5, 3) := by decide +kernel
theorem dL_load_595 : decode cL_load 595 = .ok (.bipush 10, 2) := by decide +kernel
theorem dL_load_597 : decode cL_load 597 = .ok (.if_icmp .ne 7, 3) := by decide +kernel
theorem dL_load_600 : decode cL_load 600 = .ok (.iconst 1, 1) := by decide +kernel
theorem dL_load_601 : decode cL_load 601 = .ok (.goto 4, 3) := by decide +kernel
theorem dL_load_604 : decode cL_load 604 = .ok (.iconst 0, 1) := by decide +kernel
theorem dL_load_605 : decode cL_load 605 = .ok (.ireturn, 1) := by decide +kernel
theorem dL_added_0 : decode cL_added 0 = .ok (.aload_n 0, 1) := by decide +kernel
theorem dL_added_1 : decode cL_added 1 = .ok (.iload_n 1, 1) := by decide +kernel
theorem dL_added_2 : decode cL_added 2 = .ok (.invokevirtual 98, 3) := by decide +kernel
theorem dL_added_5 : decode cL_added 5 = .ok (.ireturn, 1) := by decide +kernel
theorem dL_added_6 : decode cL_added 6 = .ok (.astore_n 2, 1) := by decide +kernel
theorem dL_added_7 : decode cL_added 7 = .ok (.bipush (-99), 2) := by decide +kernel
theorem dL_added_9 : decode cL_added 9 = .ok (.ireturn, 1) := by decide +kernel
theorem dL_dropped_0 : decode cL_dropped 0 = .ok (.aload_n 0, 1) := by decide +kernel
theorem dL_dropped_1 : decode cL_dropped 1 = .ok (.iload_n 1, 1) := by decide +kernel
theorem dL_dropped_2 : decode cL_dropped 2 = .ok (.invokevirtual 103, 3) := by decide +kernel
theorem dL_dropped_5 : decode cL_dropped 5 = .ok (.ireturn, 1) := by decide +kernel
theorem dL_dropped_6 : decode cL_dropped 6 = .ok (.astore_n 2, 1) := by decide +kernel
theorem dL_dropped_7 : decode cL_dropped 7 = .ok (.bipush (-99), 2) := by decide +kernel
theorem dL_dropped_9 : decode cL_dropped 9 = .ok (.ireturn, 1) := by decide +kernel
theorem dL_moved_0 : decode cL_moved 0 = .ok (.aload_n 0, 1) := by decide +kernel
theorem dL_moved_1 : decode cL_moved 1 = .ok (.iload_n 1, 1) := by decide +kernel
theorem dL_moved_2 : decode cL_moved 2 = .ok (.iload_n 2, 1) := by decide +kernel
theorem dL_moved_3 : decode cL_moved 3 = .ok (.invokevirtual 106, 3) := by decide +kernel
theorem dL_moved_6 : decode cL_moved 6 = .ok (.ireturn, 1) := by decide +kernel
theorem dL_moved_7 : decode cL_moved 7 = .ok (.astore_n 3, 1) := by decide +kernel
theorem dL_moved_8 : decode cL_moved 8 = .ok (.bipush (-99), 2) := by decide +kernel
theorem dL_moved_10 : decode cL_moved 10 = .ok (.ireturn, 1) := by decide +kernel
theorem dL_flawed_0 : decode cL_flawed 0 = .ok (.aload_n 0, 1) := by decide +kernel
theorem dL_flawed_1 : decode cL_flawed 1 = .ok (.iload_n 1, 1) := by decide +kernel
theorem dL_flawed_2 : decode cL_flawed 2 = .ok (.iload_n 2, 1) := by decide +kernel
theorem dL_flawed_3 : decode cL_flawed 3 = .ok (.iload_n 3, 1) := by decide +kernel
theorem dL_flawed_4 : decode cL_flawed 4 = .ok (.invokevirtual 109, 3) := by decide +kernel
theorem dL_flawed_7 : decode cL_flawed 7 = .ok (.ifCond .eq 7, 3) := by decide +kernel
theorem dL_flawed_10 : decode cL_flawed 10 = .ok (.iconst 1, 1) := by decide +kernel
theorem dL_flawed_11 : decode cL_flawed 11 = .ok (.goto 4, 3) := by decide +kernel
theorem dL_flawed_14 : decode cL_flawed 14 = .ok (.iconst 0, 1) := by decide +kernel
theorem dL_flawed_15 : decode cL_flawed 15 = .ok (.ireturn, 1) := by decide +kernel
theorem dL_flawed_16 : decode cL_flawed 16 = .ok (.astore 4, 2) := by decide +kernel
theorem dL_flawed_18 : decode cL_flawed 18 = .ok (.bipush (-99), 2) := by decide +kernel
theorem dL_flawed_20 : decode cL_flawed 20 = .ok (.ireturn, 1) := by decide +kernel
theorem dL_spaced_0 : decode cL_spaced 0 = .ok (.aload_n 0, 1) := by decide +kernel
theorem dL_spaced_1 : decode cL_spaced 1 = .ok (.iload_n 1, 1) := by decide +kernel
theorem dL_spaced_2 : decode cL_spaced 2 = .ok (.invokevirtual 113, 3) := by decide +kernel
theorem dL_spaced_5 : decode cL_spaced 5 = .ok (.ireturn, 1) := by decide +kernel
theorem dL_spaced_6 : decode cL_spaced 6 = .ok (.astore_n 2, 1) := by decide +kernel
theorem dL_spaced_7 : decode cL_spaced 7 = .ok (.bipush (-99), 2) := by decide +kernel
theorem dL_spaced_9 : decode cL_spaced 9 = .ok (.ireturn, 1) := by decide +kernel
theorem dL_turned_0 : decode cL_turned 0 = .ok (.aload_n 0, 1) := by decide +kernel
theorem dL_turned_1 : decode cL_turned 1 = .ok (.invokevirtual 116, 3) := by decide +kernel
theorem dL_turned_4 : decode cL_turned 4 = .ok (.ireturn, 1) := by decide +kernel
theorem dL_turned_5 : decode cL_turned 5 = .ok (.astore_n 1, 1) := by decide +kernel
theorem dL_turned_6 : decode cL_turned 6 = .ok (.bipush (-99), 2) := by decide +kernel
theorem dL_turned_8 : decode cL_turned 8 = .ok (.ireturn, 1) := by decide +kernel
theorem dL_cut_0 : decode cL_cut 0 = .ok (.aload_n 0, 1) := by decide +kernel
theorem dL_cut_1 : decode cL_cut 1 = .ok (.iload_n 1, 1) := by decide +kernel
theorem dL_cut_2 : decode cL_cut 2 = .ok (.iload_n 2, 1) := by decide +kernel
theorem dL_cut_3 : decode cL_cut 3 = .ok (.invokevirtual 119, 3) := by decide +kernel
theorem dL_cut_6 : decode cL_cut 6 = .ok (.ireturn, 1) := by decide +kernel
theorem dL_cut_7 : decode cL_cut 7 = .ok (.astore_n 3, 1) := by decide +kernel
theorem dL_cut_8 : decode cL_cut 8 = .ok (.bipush (-99), 2) := by decide +kernel
theorem dL_cut_10 : decode cL_cut 10 = .ok (.ireturn, 1) := by decide +kernel
theorem dL_act_0 : decode cL_act 0 = .ok (.aload_n 1, 1) := by decide +kernel
theorem dL_act_1 : decode cL_act 1 = .ok (.iload_n 2, 1) := by decide +kernel
theorem dL_act_2 : decode cL_act 2 = .ok (.iconst 1, 1) := by decide +kernel
theorem dL_act_3 : decode cL_act 3 = .ok (.iadd, 1) := by decide +kernel
theorem dL_act_4 : decode cL_act 4 = .ok (.ldc 123, 2) := by decide +kernel
theorem dL_act_6 : decode cL_act 6 = .ok (.invokestatic 50, 3) := by decide +kernel
theorem dL_act_9 : decode cL_act 9 = .ok (.istore_n 3, 1) := by decide +kernel
theorem dL_act_10 : decode cL_act 10 = .ok (.aload_n 1, 1) := by decide +kernel
theorem dL_act_11 : decode cL_act 11 = .ok (.iload_n 2, 1) := by decide +kernel
theorem dL_act_12 : decode cL_act 12 = .ok (.iconst 2, 1) := by decide +kernel
theorem dL_act_13 : decode cL_act 13 = .ok (.iadd, 1) := by decide +kernel
theorem dL_act_14 : decode cL_act 14 = .ok (.ldc 123, 2) := by decide +kernel
theorem dL_act_16 : decode cL_act 16 = .ok (.invokestatic 50, 3) := by decide +kernel
theorem dL_act_19 : decode cL_act 19 = .ok (.istore 4, 2) := by decide +kernel
theorem dL_act_21 : decode cL_act 21 = .ok (.aload_n 0, 1) := by decide +kernel
theorem dL_act_22 : decode cL_act 22 = .ok (.iconst 4, 1) := by decide +kernel
theorem dL_act_23 : decode cL_act 23 = .ok (.invokevirtual 94, 3) := by decide +kernel
theorem dL_act_26 : decode cL_act 26 = .ok (.istore 5, 2) := by decide +kernel
theorem dL_act_28 : decode cL_act 28 = .ok (.aload_n 0, 1) := by decide +kernel
theorem dL_act_29 : decode cL_act 29 = .ok (.iconst 1, 1) := by decide +kernel
theorem dL_act_30 : decode cL_act 30 = .ok (.invokevirtual 94, 3) := by decide +kernel
theorem dL_act_33 : decode cL_act 33 = .ok (.istore 6, 2) := by decide +kernel
theorem dL_act_35 : decode cL_act 35 = .ok (.aload_n 1, 1) := by decide +kernel
theorem dL_act_36 : decode cL_act 36 = .ok (.iload_n 2, 1) := by decide +kernel
theorem dL_act_37 : decode cL_act 37 = .ok (.bipush 18, 2) := by decide +kernel
theorem dL_act_39 : decode cL_act 39 = .ok (.invokestatic 50, 3) := by decide +kernel
theorem dL_act_42 : decode cL_act 42 = .ok (.tableswitch 310 0 14 #[74, 74, 74, 139, 158, 182, 182, 182, 210, 218, 223, 266, 266, 289, 294], 74) := by decide +kernel
theorem dL_act_116 : decode cL_act 116 = .ok (.new 43, 3) := by decide +kernel
theorem dL_act_119 : decode cL_act 119 = .ok (.dup, 1) := by decide +kernel
theorem dL_act_120 : decode cL_act 120 = .ok (.invokespecial 124, 3) := by decide +kernel
theorem dL_act_123 : decode cL_act 123 = .ok (.astore 7, 2) := by decide +kernel
theorem dL_act_125 : decode cL_act 125 = .ok (.iconst 0, 1) := by decide +kernel
theorem dL_act_126 : decode cL_act 126 = .ok (.istore 8, 2) := by decide +kernel
theorem dL_act_128 : decode cL_act 128 = .ok (.iload 8, 2) := by decide +kernel
theorem dL_act_130 : decode cL_act 130 = .ok (.iconst 1, 1) := by decide +kernel
theorem dL_act_131 : decode cL_act 131 = .ok (.iload_n 3, 1) := by decide +kernel
theorem dL_act_132 : decode cL_act 132 = .ok (.iconst 4, 1) := by decide +kernel
theorem dL_act_133 : decode cL_act 133 = .ok (.irem, 1) := by decide +kernel
theorem dL_act_134 : decode cL_act 134 = .ok (.iadd, 1) := by decide +kernel
theorem dL_act_135 : decode cL_act 135 = .ok (.if_icmp .ge 28, 3) := by decide +kernel
theorem dL_act_138 : decode cL_act 138 = .ok (.aload 7, 2) := by decide +kernel
theorem dL_act_140 : decode cL_act 140 = .ok (.iload_n 3, 1) := by decide +kernel
theorem dL_act_141 : decode cL_act 141 = .ok (.iconst 4, 1) := by decide +kernel
theorem dL_act_142 : decode cL_act 142 = .ok (.idiv, 1) := by decide +kernel
theorem dL_act_143 : decode cL_act 143 = .ok (.bipush 31, 2) := by decide +kernel
theorem dL_act_145 : decode cL_act 145 = .ok (.iload 8, 2) := by decide +kernel
theorem dL_act_147 : decode cL_act 147 = .ok (.imul, 1) := by decide +kernel
theorem dL_act_148 : decode cL_act 148 = .ok (.iadd, 1) := by decide +kernel
theorem dL_act_149 : decode cL_act 149 = .ok (.aload_n 0, 1) := by decide +kernel
theorem dL_act_150 : decode cL_act 150 = .ok (.iconst 0, 1) := by decide +kernel
theorem dL_act_151 : decode cL_act 151 = .ok (.invokevirtual 94, 3) := by decide +kernel
theorem dL_act_154 : decode cL_act 154 = .ok (.invokestatic 76, 3) := by decide +kernel
theorem dL_act_157 : decode cL_act 157 = .ok (.iinc 8 1, 3) := by decide +kernel
theorem dL_act_160 : decode cL_act 160 = .ok (.goto (-32), 3) := by decide +kernel
theorem dL_act_163 : decode cL_act 163 = .ok (.aload_n 0, 1) := by decide +kernel
theorem dL_act_164 : decode cL_act 164 = .ok (.aload 7, 2) := by decide +kernel
theorem dL_act_166 : decode cL_act 166 = .ok (.invokevirtual 80, 3) := by decide +kernel
theorem dL_act_169 : decode cL_act 169 = .ok (.invokestatic 84, 3) := by decide +kernel
theorem dL_act_172 : decode cL_act 172 = .ok (.aload_n 0, 1) := by decide +kernel
theorem dL_act_173 : decode cL_act 173 = .ok (.iload 4, 2) := by decide +kernel
theorem dL_act_175 : decode cL_act 175 = .ok (.iconst 3, 1) := by decide +kernel
theorem dL_act_176 : decode cL_act 176 = .ok (.irem, 1) := by decide +kernel
theorem dL_act_177 : decode cL_act 177 = .ok (.invokestatic 125, 3) := by decide +kernel
theorem dL_act_180 : decode cL_act 180 = .ok (.ireturn, 1) := by decide +kernel
theorem dL_act_181 : decode cL_act 181 = .ok (.iload 5, 2) := by decide +kernel
theorem dL_act_183 : decode cL_act 183 = .ok (.ifCond .ne 8, 3) := by decide +kernel
theorem dL_act_186 : decode cL_act 186 = .ok (.bipush (-99), 2) := by decide +kernel
theorem dL_act_188 : decode cL_act 188 = .ok (.goto 11, 3) := by decide +kernel
theorem dL_act_191 : decode cL_act 191 = .ok (.aload_n 0, 1) := by decide +kernel
theorem dL_act_192 : decode cL_act 192 = .ok (.iload_n 3, 1) := by decide +kernel
theorem dL_act_193 : decode cL_act 193 = .ok (.iload 5, 2) := by decide +kernel
theorem dL_act_195 : decode cL_act 195 = .ok (.irem, 1) := by decide +kernel
theorem dL_act_196 : decode cL_act 196 = .ok (.invokestatic 129, 3) := by decide +kernel
theorem dL_act_199 : decode cL_act 199 = .ok (.ireturn, 1) := by decide +kernel
theorem dL_act_200 : decode cL_act 200 = .ok (.iload 5, 2) := by decide +kernel
theorem dL_act_202 : decode cL_act 202 = .ok (.ifCond .ne 8, 3) := by decide +kernel
theorem dL_act_205 : decode cL_act 205 = .ok (.bipush (-99), 2) := by decide +kernel
theorem dL_act_207 : decode cL_act 207 = .ok (.goto 16, 3) := by decide +kernel
theorem dL_act_210 : decode cL_act 210 = .ok (.aload_n 0, 1) := by decide +kernel
theorem dL_act_211 : decode cL_act 211 = .ok (.iload_n 3, 1) := by decide +kernel
theorem dL_act_212 : decode cL_act 212 = .ok (.iload 5, 2) := by decide +kernel
theorem dL_act_214 : decode cL_act 214 = .ok (.irem, 1) := by decide +kernel
theorem dL_act_215 : decode cL_act 215 = .ok (.iload 4, 2) := by decide +kernel
theorem dL_act_217 : decode cL_act 217 = .ok (.iload 5, 2) := by decide +kernel
theorem dL_act_219 : decode cL_act 219 = .ok (.irem, 1) := by decide +kernel
theorem dL_act_220 : decode cL_act 220 = .ok (.invokestatic 132, 3) := by decide +kernel
theorem dL_act_223 : decode cL_act 223 = .ok (.ireturn, 1) := by decide +kernel
theorem dL_act_224 : decode cL_act 224 = .ok (.aload_n 0, 1) := by decide +kernel
theorem dL_act_225 : decode cL_act 225 = .ok (.iload_n 3, 1) := by decide +kernel
theorem dL_act_226 : decode cL_act 226 = .ok (.aload_n 0, 1) := by decide +kernel
theorem dL_act_227 : decode cL_act 227 = .ok (.iconst 0, 1) := by decide +kernel
theorem dL_act_228 : decode cL_act 228 = .ok (.invokevirtual 94, 3) := by decide +kernel
theorem dL_act_231 : decode cL_act 231 = .ok (.irem, 1) := by decide +kernel
theorem dL_act_232 : decode cL_act 232 = .ok (.iload 4, 2) := by decide +kernel
theorem dL_act_234 : decode cL_act 234 = .ok (.iload 6, 2) := by decide +kernel
theorem dL_act_236 : decode cL_act 236 = .ok (.irem, 1) := by decide +kernel
theorem dL_act_237 : decode cL_act 237 = .ok (.iload_n 3, 1) := by decide +kernel
theorem dL_act_238 : decode cL_act 238 = .ok (.iconst 3, 1) := by decide +kernel
theorem dL_act_239 : decode cL_act 239 = .ok (.irem, 1) := by decide +kernel
theorem dL_act_240 : decode cL_act 240 = .ok (.ifCond .le 7, 3) := by decide +kernel
theorem dL_act_243 : decode cL_act 243 = .ok (.iconst 1, 1) := by decide +kernel
theorem dL_act_244 : decode cL_act 244 = .ok (.goto 4, 3) := by decide +kernel
theorem dL_act_247 : decode cL_act 247 = .ok (.iconst 0, 1) := by decide +kernel
theorem dL_act_248 : decode cL_act 248 = .ok (.invokestatic 136, 3) := by decide +kernel
theorem dL_act_251 : decode cL_act 251 = .ok (.ireturn, 1) := by decide +kernel
theorem dL_act_252 : decode cL_act 252 = .ok (.aload_n 0, 1) := by decide +kernel
theorem dL_act_253 : decode cL_act 253 = .ok (.iload_n 3, 1) := by decide +kernel
theorem dL_act_254 : decode cL_act 254 = .ok (.iconst 4, 1) := by decide +kernel
theorem dL_act_255 : decode cL_act 255 = .ok (.irem, 1) := by decide +kernel
theorem dL_act_256 : decode cL_act 256 = .ok (.invokestatic 140, 3) := by decide +kernel
theorem dL_act_259 : decode cL_act 259 = .ok (.ireturn, 1) := by decide +kernel
theorem dL_act_260 : decode cL_act 260 = .ok (.aload_n 0, 1) := by decide +kernel
theorem dL_act_261 : decode cL_act 261 = .ok (.invokestatic 143, 3) := by decide +kernel
theorem dL_act_264 : decode cL_act 264 = .ok (.ireturn, 1) := by decide +kernel
theorem dL_act_265 : decode cL_act 265 = .ok (.iload 6, 2) := by decide +kernel
theorem dL_act_267 : decode cL_act 267 = .ok (.iconst 3, 1) := by decide +kernel
theorem dL_act_268 : decode cL_act 268 = .ok (.if_icmp .lt 9, 3) := by decide +kernel
theorem dL_act_271 : decode cL_act 271 = .ok (.iload_n 3, 1) := by decide +kernel
theorem dL_act_272 : decode cL_act 272 = .ok (.iconst 3, 1) := by decide +kernel
theorem dL_act_273 : decode cL_act 273 = .ok (.irem, 1) := by decide +kernel
theorem dL_act_274 : decode cL_act 274 = .ok (.ifCond .le 8, 3) := by decide +kernel
theorem dL_act_277 : decode cL_act 277 = .ok (.bipush (-99), 2) := by decide +kernel
theorem dL_act_279 : decode cL_act 279 = .ok (.goto 28, 3) := by decide +kernel
theorem dL_act_282 : decode cL_act 282 = .ok (.aload_n 0, 1) := by decide +kernel
theorem dL_act_283 : decode cL_act 283 = .ok (.iconst 1, 1) := by decide +kernel
theorem dL_act_284 : decode cL_act 284 = .ok (.iload 4, 2) := by decide +kernel
theorem dL_act_286 : decode cL_act 286 = .ok (.iload 6, 2) := by decide +kernel
theorem dL_act_288 : decode cL_act 288 = .ok (.iconst 2, 1) := by decide +kernel
theorem dL_act_289 : decode cL_act 289 = .ok (.isub, 1) := by decide +kernel
theorem dL_act_290 : decode cL_act 290 = .ok (.irem, 1) := by decide +kernel
theorem dL_act_291 : decode cL_act 291 = .ok (.iadd, 1) := by decide +kernel
theorem dL_act_292 : decode cL_act 292 = .ok (.iload 4, 2) := by decide +kernel
theorem dL_act_294 : decode cL_act 294 = .ok (.iconst 2, 1) := by decide +kernel
theorem dL_act_295 : decode cL_act 295 = .ok (.irem, 1) := by decide +kernel
theorem dL_act_296 : decode cL_act 296 = .ok (.ifCond .ne 7, 3) := by decide +kernel
theorem dL_act_299 : decode cL_act 299 = .ok (.iconst 1, 1) := by decide +kernel
theorem dL_act_300 : decode cL_act 300 = .ok (.goto 4, 3) := by decide +kernel
theorem dL_act_303 : decode cL_act 303 = .ok (.iconst 0, 1) := by decide +kernel
theorem dL_act_304 : decode cL_act 304 = .ok (.invokestatic 147, 3) := by decide +kernel
theorem dL_act_307 : decode cL_act 307 = .ok (.ireturn, 1) := by decide +kernel
theorem dL_act_308 : decode cL_act 308 = .ok (.iload_n 3, 1) := by decide +kernel
theorem dL_act_309 : decode cL_act 309 = .ok (.iconst 2, 1) := by decide +kernel
theorem dL_act_310 : decode cL_act 310 = .ok (.irem, 1) := by decide +kernel
theorem dL_act_311 : decode cL_act 311 = .ok (.ifCond .ne 17, 3) := by decide +kernel
theorem dL_act_314 : decode cL_act 314 = .ok (.aload_n 0, 1) := by decide +kernel
theorem dL_act_315 : decode cL_act 315 = .ok (.iconst 1, 1) := by decide +kernel
theorem dL_act_316 : decode cL_act 316 = .ok (.iload 4, 2) := by decide +kernel
theorem dL_act_318 : decode cL_act 318 = .ok (.bipush 9, 2) := by decide +kernel
theorem dL_act_320 : decode cL_act 320 = .ok (.irem, 1) := by decide +kernel
theorem dL_act_321 : decode cL_act 321 = .ok (.iadd, 1) := by decide +kernel
theorem dL_act_322 : decode cL_act 322 = .ok (.invokevirtual 151, 3) := by decide +kernel
theorem dL_act_325 : decode cL_act 325 = .ok (.goto 5, 3) := by decide +kernel
theorem dL_act_328 : decode cL_act 328 = .ok (.bipush (-99), 2) := by decide +kernel
theorem dL_act_330 : decode cL_act 330 = .ok (.ireturn, 1) := by decide +kernel
theorem dL_act_331 : decode cL_act 331 = .ok (.aload_n 0, 1) := by decide +kernel
theorem dL_act_332 : decode cL_act 332 = .ok (.invokevirtual 154, 3) := by decide +kernel
theorem dL_act_335 : decode cL_act 335 = .ok (.ireturn, 1) := by decide +kernel
theorem dL_act_336 : decode cL_act 336 = .ok (.aload_n 0, 1) := by decide +kernel
theorem dL_act_337 : decode cL_act 337 = .ok (.iconst 1, 1) := by decide +kernel
theorem dL_act_338 : decode cL_act 338 = .ok (.iload_n 3, 1) := by decide +kernel
theorem dL_act_339 : decode cL_act 339 = .ok (.bipush 40, 2) := by decide +kernel
theorem dL_act_341 : decode cL_act 341 = .ok (.irem, 1) := by decide +kernel
theorem dL_act_342 : decode cL_act 342 = .ok (.iadd, 1) := by decide +kernel
theorem dL_act_343 : decode cL_act 343 = .ok (.iload 4, 2) := by decide +kernel
theorem dL_act_345 : decode cL_act 345 = .ok (.bipush 100, 2) := by decide +kernel
theorem dL_act_347 : decode cL_act 347 = .ok (.irem, 1) := by decide +kernel
theorem dL_act_348 : decode cL_act 348 = .ok (.invokevirtual 157, 3) := by decide +kernel
theorem dL_act_351 : decode cL_act 351 = .ok (.ireturn, 1) := by decide +kernel
theorem dL_act_352 : decode cL_act 352 = .ok (.aload_n 0, 1) := by decide +kernel
theorem dL_act_353 : decode cL_act 353 = .ok (.iload_n 3, 1) := by decide +kernel
theorem dL_act_354 : decode cL_act 354 = .ok (.aload_n 0, 1) := by decide +kernel
theorem dL_act_355 : decode cL_act 355 = .ok (.iconst 0, 1) := by decide +kernel
theorem dL_act_356 : decode cL_act 356 = .ok (.invokevirtual 94, 3) := by decide +kernel
theorem dL_act_359 : decode cL_act 359 = .ok (.irem, 1) := by decide +kernel
theorem dL_act_360 : decode cL_act 360 = .ok (.iload 4, 2) := by decide +kernel
theorem dL_act_362 : decode cL_act 362 = .ok (.iload 6, 2) := by decide +kernel
theorem dL_act_364 : decode cL_act 364 = .ok (.irem, 1) := by decide +kernel
theorem dL_act_365 : decode cL_act 365 = .ok (.iconst 1, 1) := by decide +kernel
theorem dL_act_366 : decode cL_act 366 = .ok (.invokestatic 136, 3) := by decide +kernel
theorem dL_act_369 : decode cL_act 369 = .ok (.ireturn, 1) := by decide +kernel
theorem dL_flaw_0 : decode cL_flaw 0 = .ok (.iload_n 1, 1) := by decide +kernel
theorem dL_flaw_1 : decode cL_flaw 1 = .ok (.ifCond .lt 39, 3) := by decide +kernel
theorem dL_flaw_4 : decode cL_flaw 4 = .ok (.iload_n 2, 1) := by decide +kernel
theorem dL_flaw_5 : decode cL_flaw 5 = .ok (.ifCond .lt 35, 3) := by decide +kernel
theorem dL_flaw_8 : decode cL_flaw 8 = .ok (.iload_n 1, 1) := by decide +kernel
theorem dL_flaw_9 : decode cL_flaw 9 = .ok (.aload_n 0, 1) := by decide +kernel
theorem dL_flaw_10 : decode cL_flaw 10 = .ok (.iconst 0, 1) := by decide +kernel
theorem dL_flaw_11 : decode cL_flaw 11 = .ok (.invokevirtual 94, 3) := by decide +kernel
theorem dL_flaw_14 : decode cL_flaw 14 = .ok (.if_icmp .ge 26, 3) := by decide +kernel
theorem dL_flaw_17 : decode cL_flaw 17 = .ok (.iload_n 2, 1) := by decide +kernel
theorem dL_flaw_18 : decode cL_flaw 18 = .ok (.aload_n 0, 1) := by decide +kernel
theorem dL_flaw_19 : decode cL_flaw 19 = .ok (.iconst 1, 1) := by decide +kernel
theorem dL_flaw_20 : decode cL_flaw 20 = .ok (.invokevirtual 94, 3) := by decide +kernel
theorem dL_flaw_23 : decode cL_flaw 23 = .ok (.if_icmp .ge 17, 3) := by decide +kernel
theorem dL_flaw_26 : decode cL_flaw 26 = .ok (.aload_n 0, 1) := by decide +kernel
theorem dL_flaw_27 : decode cL_flaw 27 = .ok (.iload_n 1, 1) := by decide +kernel
theorem dL_flaw_28 : decode cL_flaw 28 = .ok (.iload_n 2, 1) := by decide +kernel
theorem dL_flaw_29 : decode cL_flaw 29 = .ok (.invokevirtual 178, 3) := by decide +kernel
theorem dL_flaw_32 : decode cL_flaw 32 = .ok (.iconst (-1), 1) := by decide +kernel
theorem dL_flaw_33 : decode cL_flaw 33 = .ok (.if_icmp .ne 7, 3) := by decide +kernel
theorem dL_flaw_36 : decode cL_flaw 36 = .ok (.iconst 1, 1) := by decide +kernel
theorem dL_flaw_37 : decode cL_flaw 37 = .ok (.goto 4, 3) := by decide +kernel
theorem dL_flaw_40 : decode cL_flaw 40 = .ok (.iconst 0, 1) := by decide +kernel
theorem dL_flaw_41 : decode cL_flaw 41 = .ok (.ireturn, 1) := by decide +kernel
theorem dL_touched_0 : decode cL_touched 0 = .ok (.aload_n 0, 1) := by decide +kernel
theorem dL_touched_1 : decode cL_touched 1 = .ok (.iload_n 1, 1) := by decide +kernel
theorem dL_touched_2 : decode cL_touched 2 = .ok (.iconst 1, 1) := by decide +kernel
theorem dL_touched_3 : decode cL_touched 3 = .ok (.isub, 1) := by decide +kernel
theorem dL_touched_4 : decode cL_touched 4 = .ok (.iload_n 2, 1) := by decide +kernel
theorem dL_touched_5 : decode cL_touched 5 = .ok (.invokestatic 181, 3) := by decide +kernel
theorem dL_touched_8 : decode cL_touched 8 = .ok (.ifCond .ne 36, 3) := by decide +kernel
theorem dL_touched_11 : decode cL_touched 11 = .ok (.aload_n 0, 1) := by decide +kernel
theorem dL_touched_12 : decode cL_touched 12 = .ok (.iload_n 1, 1) := by decide +kernel
theorem dL_touched_13 : decode cL_touched 13 = .ok (.iconst 1, 1) := by decide +kernel
theorem dL_touched_14 : decode cL_touched 14 = .ok (.iadd, 1) := by decide +kernel
theorem dL_touched_15 : decode cL_touched 15 = .ok (.iload_n 2, 1) := by decide +kernel
theorem dL_touched_16 : decode cL_touched 16 = .ok (.invokestatic 181, 3) := by decide +kernel
theorem dL_touched_19 : decode cL_touched 19 = .ok (.ifCond .ne 25, 3) := by decide +kernel
theorem dL_touched_22 : decode cL_touched 22 = .ok (.aload_n 0, 1) := by decide +kernel
theorem dL_touched_23 : decode cL_touched 23 = .ok (.iload_n 1, 1) := by decide +kernel
theorem dL_touched_24 : decode cL_touched 24 = .ok (.iload_n 2, 1) := by decide +kernel
theorem dL_touched_25 : decode cL_touched 25 = .ok (.iconst 1, 1) := by decide +kernel
theorem dL_touched_26 : decode cL_touched 26 = .ok (.isub, 1) := by decide +kernel
theorem dL_touched_27 : decode cL_touched 27 = .ok (.invokestatic 181, 3) := by decide +kernel
theorem dL_touched_30 : decode cL_touched 30 = .ok (.ifCond .ne 14, 3) := by decide +kernel
theorem dL_touched_33 : decode cL_touched 33 = .ok (.aload_n 0, 1) := by decide +kernel
theorem dL_touched_34 : decode cL_touched 34 = .ok (.iload_n 1, 1) := by decide +kernel
theorem dL_touched_35 : decode cL_touched 35 = .ok (.iload_n 2, 1) := by decide +kernel
theorem dL_touched_36 : decode cL_touched 36 = .ok (.iconst 1, 1) := by decide +kernel
theorem dL_touched_37 : decode cL_touched 37 = .ok (.iadd, 1) := by decide +kernel
theorem dL_touched_38 : decode cL_touched 38 = .ok (.invokestatic 181, 3) := by decide +kernel
theorem dL_touched_41 : decode cL_touched 41 = .ok (.ifCond .eq 7, 3) := by decide +kernel
theorem dL_touched_44 : decode cL_touched 44 = .ok (.iconst 1, 1) := by decide +kernel
theorem dL_touched_45 : decode cL_touched 45 = .ok (.goto 4, 3) := by decide +kernel
theorem dL_touched_48 : decode cL_touched 48 = .ok (.iconst 0, 1) := by decide +kernel
theorem dL_touched_49 : decode cL_touched 49 = .ok (.ireturn, 1) := by decide +kernel
theorem dL_plain_0 : decode cL_plain 0 = .ok (.iload_n 0, 1) := by decide +kernel
theorem dL_plain_1 : decode cL_plain 1 = .ok (.bipush 97, 2) := by decide +kernel
theorem dL_plain_3 : decode cL_plain 3 = .ok (.if_icmp .lt 17, 3) := by decide +kernel
theorem dL_plain_6 : decode cL_plain 6 = .ok (.iconst 1, 1) := by decide +kernel
theorem dL_plain_7 : decode cL_plain 7 = .ok (.bipush 7, 2) := by decide +kernel
theorem dL_plain_9 : decode cL_plain 9 = .ok (.iload_n 0, 1) := by decide +kernel
theorem dL_plain_10 : decode cL_plain 10 = .ok (.bipush 97, 2) := by decide +kernel
theorem dL_plain_12 : decode cL_plain 12 = .ok (.isub, 1) := by decide +kernel
theorem dL_plain_13 : decode cL_plain 13 = .ok (.imul, 1) := by decide +kernel
theorem dL_plain_14 : decode cL_plain 14 = .ok (.iconst 5, 1) := by decide +kernel
theorem dL_plain_15 : decode cL_plain 15 = .ok (.irem, 1) := by decide +kernel
theorem dL_plain_16 : decode cL_plain 16 = .ok (.iadd, 1) := by decide +kernel
theorem dL_plain_17 : decode cL_plain 17 = .ok (.goto 11, 3) := by decide +kernel
theorem dL_plain_20 : decode cL_plain 20 = .ok (.iconst 2, 1) := by decide +kernel
theorem dL_plain_21 : decode cL_plain 21 = .ok (.iload_n 0, 1) := by decide +kernel
theorem dL_plain_22 : decode cL_plain 22 = .ok (.bipush 48, 2) := by decide +kernel
theorem dL_plain_24 : decode cL_plain 24 = .ok (.isub, 1) := by decide +kernel
theorem dL_plain_25 : decode cL_plain 25 = .ok (.iconst 3, 1) := by decide +kernel
theorem dL_plain_26 : decode cL_plain 26 = .ok (.irem, 1) := by decide +kernel
theorem dL_plain_27 : decode cL_plain 27 = .ok (.iadd, 1) := by decide +kernel
theorem dL_plain_28 : decode cL_plain 28 = .ok (.ireturn, 1) := by decide +kernel
theorem dL_stands_0 : decode cL_stands 0 = .ok (.aload_n 0, 1) := by decide +kernel
theorem dL_stands_1 : decode cL_stands 1 = .ok (.bipush 6, 2) := by decide +kernel
theorem dL_stands_3 : decode cL_stands 3 = .ok (.invokevirtual 94, 3) := by decide +kernel
theorem dL_stands_6 : decode cL_stands 6 = .ok (.istore_n 1, 1) := by decide +kernel
theorem dL_stands_7 : decode cL_stands 7 = .ok (.iconst 0, 1) := by decide +kernel
theorem dL_stands_8 : decode cL_stands 8 = .ok (.istore_n 2, 1) := by decide +kernel
theorem dL_stands_9 : decode cL_stands 9 = .ok (.iconst 0, 1) := by decide +kernel
theorem dL_stands_10 : decode cL_stands 10 = .ok (.istore_n 3, 1) := by decide +kernel
theorem dL_stands_11 : decode cL_stands 11 = .ok (.iconst 0, 1) := by decide +kernel
theorem dL_stands_12 : decode cL_stands 12 = .ok (.istore 4, 2) := by decide +kernel
theorem dL_stands_14 : decode cL_stands 14 = .ok (.iconst 0, 1) := by decide +kernel
theorem dL_stands_15 : decode cL_stands 15 = .ok (.istore 5, 2) := by decide +kernel
theorem dL_stands_17 : decode cL_stands 17 = .ok (.aload_n 0, 1) := by decide +kernel
theorem dL_stands_18 : decode cL_stands 18 = .ok (.bipush 8, 2) := by decide +kernel
theorem dL_stands_20 : decode cL_stands 20 = .ok (.invokevirtual 94, 3) := by decide +kernel
theorem dL_stands_23 : decode cL_stands 23 = .ok (.istore 6, 2) := by decide +kernel
theorem dL_stands_25 : decode cL_stands 25 = .ok (.aload_n 0, 1) := by decide +kernel
theorem dL_stands_26 : decode cL_stands 26 = .ok (.invokevirtual 185, 3) := by decide +kernel
theorem dL_stands_29 : decode cL_stands 29 = .ok (.iconst (-1), 1) := by decide +kernel
theorem dL_stands_30 : decode cL_stands 30 = .ok (.if_icmp .ne 7, 3) := by decide +kernel
theorem dL_stands_33 : decode cL_stands 33 = .ok (.iconst 1, 1) := by decide +kernel
theorem dL_stands_34 : decode cL_stands 34 = .ok (.goto 4, 3) := by decide +kernel
theorem dL_stands_37 : decode cL_stands 37 = .ok (.iconst 0, 1) := by decide +kernel
theorem dL_stands_38 : decode cL_stands 38 = .ok (.iload_n 1, 1) := by decide +kernel
theorem dL_stands_39 : decode cL_stands 39 = .ok (.aload_n 0, 1) := by decide +kernel
theorem dL_stands_40 : decode cL_stands 40 = .ok (.iconst 5, 1) := by decide +kernel
theorem dL_stands_41 : decode cL_stands 41 = .ok (.invokevirtual 94, 3) := by decide +kernel
theorem dL_stands_44 : decode cL_stands 44 = .ok (.if_icmp .ne 7, 3) := by decide +kernel
theorem dL_stands_47 : decode cL_stands 47 = .ok (.iconst 1, 1) := by decide +kernel
theorem dL_stands_48 : decode cL_stands 48 = .ok (.goto 4, 3) := by decide +kernel
theorem dL_stands_51 : decode cL_stands 51 = .ok (.iconst 0, 1) := by decide +kernel
theorem dL_stands_52 : decode cL_stands 52 = .ok (.if_icmp .ne 18, 3) := by decide +kernel
theorem dL_stands_55 : decode cL_stands 55 = .ok (.aload_n 0, 1) := by decide +kernel
theorem dL_stands_56 : decode cL_stands 56 = .ok (.invokevirtual 185, 3) := by decide +kernel
theorem dL_stands_59 : decode cL_stands 59 = .ok (.ifCond .lt 13, 3) := by decide +kernel
theorem dL_stands_62 : decode cL_stands 62 = .ok (.aload_n 0, 1) := by decide +kernel
theorem dL_stands_63 : decode cL_stands 63 = .ok (.invokevirtual 185, 3) := by decide +kernel
theorem dL_stands_66 : decode cL_stands 66 = .ok (.iload_n 1, 1) := by decide +kernel
theorem dL_stands_67 : decode cL_stands 67 = .ok (.if_icmp .eq 5, 3) := by decide +kernel
theorem dL_stands_70 : decode cL_stands 70 = .ok (.iconst 0, 1) := by decide +kernel
theorem dL_stands_71 : decode cL_stands 71 = .ok (.ireturn, 1) := by decide +kernel
theorem dL_stands_72 : decode cL_stands 72 = .ok (.iconst 0, 1) := by decide +kernel
theorem dL_stands_73 : decode cL_stands 73 = .ok (.istore 7, 2) := by decide +kernel
theorem dL_stands_75 : decode cL_stands 75 = .ok (.iload 7, 2) := by decide +kernel
theorem dL_stands_77 : decode cL_stands 77 = .ok (.aload_n 0, 1) := by decide +kernel
theorem dL_stands_78 : decode cL_stands 78 = .ok (.iconst 5, 1) := by decide +kernel
theorem dL_stands_79 : decode cL_stands 79 = .ok (.invokevirtual 94, 3) := by decide +kernel
theorem dL_stands_82 : decode cL_stands 82 = .ok (.if_icmp .ge 419, 3) := by decide +kernel
theorem dL_stands_85 : decode cL_stands 85 = .ok (.aload_n 0, 1) := by decide +kernel
theorem dL_stands_86 : decode cL_stands 86 = .ok (.iload 7, 2) := by decide +kernel
theorem dL_stands_88 : decode cL_stands 88 = .ok (.iconst 3, 1) := by decide +kernel
theorem dL_stands_89 : decode cL_stands 89 = .ok (.invokevirtual 171, 3) := by decide +kernel
theorem dL_stands_92 : decode cL_stands 92 = .ok (.istore 8, 2) := by decide +kernel
theorem dL_stands_94 : decode cL_stands 94 = .ok (.aload_n 0, 1) := by decide +kernel
theorem dL_stands_95 : decode cL_stands 95 = .ok (.iload 7, 2) := by decide +kernel
theorem dL_stands_97 : decode cL_stands 97 = .ok (.iconst 2, 1) := by decide +kernel
theorem dL_stands_98 : decode cL_stands 98 = .ok (.invokevirtual 171, 3) := by decide +kernel
theorem dL_stands_101 : decode cL_stands 101 = .ok (.istore 9, 2) := by decide +kernel
theorem dL_stands_103 : decode cL_stands 103 = .ok (.iload 8, 2) := by decide +kernel
theorem dL_stands_105 : decode cL_stands 105 = .ok (.ifCond .lt 7, 3) := by decide +kernel
theorem dL_stands_108 : decode cL_stands 108 = .ok (.iconst 1, 1) := by decide +kernel
theorem dL_stands_109 : decode cL_stands 109 = .ok (.goto 4, 3) := by decide +kernel
theorem dL_stands_112 : decode cL_stands 112 = .ok (.iconst 0, 1) := by decide +kernel
theorem dL_stands_113 : decode cL_stands 113 = .ok (.iload 7, 2) := by decide +kernel
theorem dL_stands_115 : decode cL_stands 115 = .ok (.iload_n 1, 1) := by decide +kernel
theorem dL_stands_116 : decode cL_stands 116 = .ok (.if_icmp .ge 7, 3) := by decide +kernel
theorem dL_stands_119 : decode cL_stands 119 = .ok (.iconst 1, 1) := by decide +kernel
theorem dL_stands_120 : decode cL_stands 120 = .ok (.goto 4, 3) := by decide +kernel
theorem dL_stands_123 : decode cL_stands 123 = .ok (.iconst 0, 1) := by decide +kernel
theorem dL_stands_124 : decode cL_stands 124 = .ok (.if_icmp .ne 27, 3) := by decide +kernel
theorem dL_stands_127 : decode cL_stands 127 = .ok (.iload 9, 2) := by decide +kernel
theorem dL_stands_129 : decode cL_stands 129 = .ok (.ifCond .lt 7, 3) := by decide +kernel
theorem dL_stands_132 : decode cL_stands 132 = .ok (.iconst 1, 1) := by decide +kernel
theorem dL_stands_133 : decode cL_stands 133 = .ok (.goto 4, 3) := by decide +kernel
theorem dL_stands_136 : decode cL_stands 136 = .ok (.iconst 0, 1) := by decide +kernel
theorem dL_stands_137 : decode cL_stands 137 = .ok (.iload 7, 2) := by decide +kernel
theorem dL_stands_139 : decode cL_stands 139 = .ok (.iload_n 1, 1) := by decide +kernel
theorem dL_stands_140 : decode cL_stands 140 = .ok (.if_icmp .ge 7, 3) := by decide +kernel
theorem dL_stands_143 : decode cL_stands 143 = .ok (.iconst 1, 1) := by decide +kernel
theorem dL_stands_144 : decode cL_stands 144 = .ok (.goto 4, 3) := by decide +kernel
theorem dL_stands_147 : decode cL_stands 147 = .ok (.iconst 0, 1) := by decide +kernel
theorem dL_stands_148 : decode cL_stands 148 = .ok (.if_icmp .eq 5, 3) := by decide +kernel
theorem dL_stands_151 : decode cL_stands 151 = .ok (.iconst 0, 1) := by decide +kernel
theorem dL_stands_152 : decode cL_stands 152 = .ok (.ireturn, 1) := by decide +kernel
theorem dL_stands_153 : decode cL_stands 153 = .ok (.iload 7, 2) := by decide +kernel
theorem dL_stands_155 : decode cL_stands 155 = .ok (.iload_n 1, 1) := by decide +kernel
theorem dL_stands_156 : decode cL_stands 156 = .ok (.if_icmp .lt 25, 3) := by decide +kernel
theorem dL_stands_159 : decode cL_stands 159 = .ok (.aload_n 0, 1) := by decide +kernel
theorem dL_stands_160 : decode cL_stands 160 = .ok (.iload 7, 2) := by decide +kernel
theorem dL_stands_162 : decode cL_stands 162 = .ok (.iconst 4, 1) := by decide +kernel
theorem dL_stands_163 : decode cL_stands 163 = .ok (.invokevirtual 171, 3) := by decide +kernel
theorem dL_stands_166 : decode cL_stands 166 = .ok (.ifCond .ne 13, 3) := by decide +kernel
theorem dL_stands_169 : decode cL_stands 169 = .ok (.aload_n 0, 1) := by decide +kernel
theorem dL_stands_170 : decode cL_stands 170 = .ok (.iload 7, 2) := by decide +kernel
theorem dL_stands_172 : decode cL_stands 172 = .ok (.iconst 5, 1) := by decide +kernel
theorem dL_stands_173 : decode cL_stands 173 = .ok (.invokevirtual 171, 3) := by decide +kernel
theorem dL_stands_176 : decode cL_stands 176 = .ok (.ifCond .eq 319, 3) := by decide +kernel
theorem dL_stands_179 : decode cL_stands 179 = .ok (.iconst 0, 1) := by decide +kernel
theorem dL_stands_180 : decode cL_stands 180 = .ok (.ireturn, 1) := by decide +kernel
theorem dL_stands_181 : decode cL_stands 181 = .ok (.iconst 0, 1) := by decide +kernel
theorem dL_stands_182 : decode cL_stands 182 = .ok (.istore 10, 2) := by decide +kernel
theorem dL_stands_184 : decode cL_stands 184 = .ok (.iconst 0, 1) := by decide +kernel
theorem dL_stands_185 : decode cL_stands 185 = .ok (.istore 11, 2) := by decide +kernel
theorem dL_stands_187 : decode cL_stands 187 = .ok (.iconst 0, 1) := by decide +kernel
theorem dL_stands_188 : decode cL_stands 188 = .ok (.istore 12, 2) := by decide +kernel
theorem dL_stands_190 : decode cL_stands 190 = .ok (.iload 12, 2) := by decide +kernel
theorem dL_stands_192 : decode cL_stands 192 = .ok (.aload_n 0, 1) := by decide +kernel
theorem dL_stands_193 : decode cL_stands 193 = .ok (.iload 7, 2) := by decide +kernel
theorem dL_stands_195 : decode cL_stands 195 = .ok (.iconst 1, 1) := by decide +kernel
theorem dL_stands_196 : decode cL_stands 196 = .ok (.invokevirtual 171, 3) := by decide +kernel
theorem dL_stands_199 : decode cL_stands 199 = .ok (.if_icmp .ge 140, 3) := by decide +kernel
theorem dL_stands_202 : decode cL_stands 202 = .ok (.aload_n 0, 1) := by decide +kernel
theorem dL_stands_203 : decode cL_stands 203 = .ok (.iload 7, 2) := by decide +kernel
theorem dL_stands_205 : decode cL_stands 205 = .ok (.iload 12, 2) := by decide +kernel
theorem dL_stands_207 : decode cL_stands 207 = .ok (.invokevirtual 173, 3) := by decide +kernel
theorem dL_stands_210 : decode cL_stands 210 = .ok (.istore 13, 2) := by decide +kernel
theorem dL_stands_212 : decode cL_stands 212 = .ok (.aload_n 0, 1) := by decide +kernel
theorem dL_stands_213 : decode cL_stands 213 = .ok (.iload 8, 2) := by decide +kernel
theorem dL_stands_215 : decode cL_stands 215 = .ok (.iload 12, 2) := by decide +kernel
theorem dL_stands_217 : decode cL_stands 217 = .ok (.iadd, 1) := by decide +kernel
theorem dL_stands_218 : decode cL_stands 218 = .ok (.iload 9, 2) := by decide +kernel
theorem dL_stands_220 : decode cL_stands 220 = .ok (.invokevirtual 178, 3) := by decide +kernel
theorem dL_stands_223 : decode cL_stands 223 = .ok (.iload 13, 2) := by decide +kernel
theorem dL_stands_225 : decode cL_stands 225 = .ok (.if_icmp .ne 19, 3) := by decide +kernel
theorem dL_stands_228 : decode cL_stands 228 = .ok (.aload_n 0, 1) := by decide +kernel
theorem dL_stands_229 : decode cL_stands 229 = .ok (.iload 8, 2) := by decide +kernel
theorem dL_stands_231 : decode cL_stands 231 = .ok (.iload 12, 2) := by decide +kernel
theorem dL_stands_233 : decode cL_stands 233 = .ok (.iadd, 1) := by decide +kernel
theorem dL_stands_234 : decode cL_stands 234 = .ok (.iload 9, 2) := by decide +kernel
theorem dL_stands_236 : decode cL_stands 236 = .ok (.invokevirtual 188, 3) := by decide +kernel
theorem dL_stands_239 : decode cL_stands 239 = .ok (.iload 7, 2) := by decide +kernel
theorem dL_stands_241 : decode cL_stands 241 = .ok (.if_icmp .eq 5, 3) := by decide +kernel
theorem dL_stands_244 : decode cL_stands 244 = .ok (.iconst 0, 1) := by decide +kernel
theorem dL_stands_245 : decode cL_stands 245 = .ok (.ireturn, 1) := by decide +kernel
theorem dL_stands_246 : decode cL_stands 246 = .ok (.aload_n 0, 1) := by decide +kernel
theorem dL_stands_247 : decode cL_stands 247 = .ok (.iload 8, 2) := by decide +kernel
theorem dL_stands_249 : decode cL_stands 249 = .ok (.iload 12, 2) := by decide +kernel
theorem dL_stands_251 : decode cL_stands 251 = .ok (.iadd, 1) := by decide +kernel
theorem dL_stands_252 : decode cL_stands 252 = .ok (.iload 9, 2) := by decide +kernel
theorem dL_stands_254 : decode cL_stands 254 = .ok (.invokestatic 191, 3) := by decide +kernel
theorem dL_stands_257 : decode cL_stands 257 = .ok (.ifCond .eq 13, 3) := by decide +kernel
theorem dL_stands_260 : decode cL_stands 260 = .ok (.iconst 2, 1) := by decide +kernel
theorem dL_stands_261 : decode cL_stands 261 = .ok (.iload 13, 2) := by decide +kernel
theorem dL_stands_263 : decode cL_stands 263 = .ok (.invokestatic 194, 3) := by decide +kernel
theorem dL_stands_266 : decode cL_stands 266 = .ok (.imul, 1) := by decide +kernel
theorem dL_stands_267 : decode cL_stands 267 = .ok (.goto 8, 3) := by decide +kernel
theorem dL_stands_270 : decode cL_stands 270 = .ok (.iload 13, 2) := by decide +kernel
theorem dL_stands_272 : decode cL_stands 272 = .ok (.invokestatic 194, 3) := by decide +kernel
theorem dL_stands_275 : decode cL_stands 275 = .ok (.istore 14, 2) := by decide +kernel
theorem dL_stands_277 : decode cL_stands 277 = .ok (.iload 10, 2) := by decide +kernel
theorem dL_stands_279 : decode cL_stands 279 = .ok (.iload 14, 2) := by decide +kernel
theorem dL_stands_281 : decode cL_stands 281 = .ok (.iadd, 1) := by decide +kernel
theorem dL_stands_282 : decode cL_stands 282 = .ok (.istore 10, 2) := by decide +kernel
theorem dL_stands_284 : decode cL_stands 284 = .ok (.iload 5, 2) := by decide +kernel
theorem dL_stands_286 : decode cL_stands 286 = .ok (.iload 14, 2) := by decide +kernel
theorem dL_stands_288 : decode cL_stands 288 = .ok (.iload 13, 2) := by decide +kernel
theorem dL_stands_290 : decode cL_stands 290 = .ok (.invokestatic 194, 3) := by decide +kernel
theorem dL_stands_293 : decode cL_stands 293 = .ok (.isub, 1) := by decide +kernel
theorem dL_stands_294 : decode cL_stands 294 = .ok (.iadd, 1) := by decide +kernel
theorem dL_stands_295 : decode cL_stands 295 = .ok (.istore 5, 2) := by decide +kernel
theorem dL_stands_297 : decode cL_stands 297 = .ok (.iload 11, 2) := by decide +kernel
theorem dL_stands_299 : decode cL_stands 299 = .ok (.iload_n 2, 1) := by decide +kernel
theorem dL_stands_300 : decode cL_stands 300 = .ok (.iload 6, 2) := by decide +kernel
theorem dL_stands_302 : decode cL_stands 302 = .ok (.if_icmp .ge 7, 3) := by decide +kernel
theorem dL_stands_305 : decode cL_stands 305 = .ok (.iconst 1, 1) := by decide +kernel
theorem dL_stands_306 : decode cL_stands 306 = .ok (.goto 4, 3) := by decide +kernel
theorem dL_stands_309 : decode cL_stands 309 = .ok (.iconst 0, 1) := by decide +kernel
theorem dL_stands_310 : decode cL_stands 310 = .ok (.iadd, 1) := by decide +kernel
theorem dL_stands_311 : decode cL_stands 311 = .ok (.istore 11, 2) := by decide +kernel
theorem dL_stands_313 : decode cL_stands 313 = .ok (.iload 4, 2) := by decide +kernel
theorem dL_stands_315 : decode cL_stands 315 = .ok (.iload_n 2, 1) := by decide +kernel
theorem dL_stands_316 : decode cL_stands 316 = .ok (.iload 6, 2) := by decide +kernel
theorem dL_stands_318 : decode cL_stands 318 = .ok (.if_icmp .ge 7, 3) := by decide +kernel
theorem dL_stands_321 : decode cL_stands 321 = .ok (.iconst 0, 1) := by decide +kernel
theorem dL_stands_322 : decode cL_stands 322 = .ok (.goto 5, 3) := by decide +kernel
theorem dL_stands_325 : decode cL_stands 325 = .ok (.iload 14, 2) := by decide +kernel
theorem dL_stands_327 : decode cL_stands 327 = .ok (.iadd, 1) := by decide +kernel
theorem dL_stands_328 : decode cL_stands 328 = .ok (.istore 4, 2) := by decide +kernel
theorem dL_stands_330 : decode cL_stands 330 = .ok (.iinc 2 1, 3) := by decide +kernel
theorem dL_stands_333 : decode cL_stands 333 = .ok (.iinc 12 1, 3) := by decide +kernel
theorem dL_stands_336 : decode cL_stands 336 = .ok (.goto (-146), 3) := by decide +kernel
theorem dL_stands_339 : decode cL_stands 339 = .ok (.iload_n 3, 1) := by decide +kernel
theorem dL_stands_340 : decode cL_stands 340 = .ok (.iload 10, 2) := by decide +kernel
theorem dL_stands_342 : decode cL_stands 342 = .ok (.iadd, 1) := by decide +kernel
theorem dL_stands_343 : decode cL_stands 343 = .ok (.istore_n 3, 1) := by decide +kernel
theorem dL_stands_344 : decode cL_stands 344 = .ok (.aload_n 0, 1) := by decide +kernel
theorem dL_stands_345 : decode cL_stands 345 = .ok (.iload 7, 2) := by decide +kernel
theorem dL_stands_347 : decode cL_stands 347 = .ok (.iconst 4, 1) := by decide +kernel
theorem dL_stands_348 : decode cL_stands 348 = .ok (.invokevirtual 171, 3) := by decide +kernel
theorem dL_stands_351 : decode cL_stands 351 = .ok (.iload 10, 2) := by decide +kernel
theorem dL_stands_353 : decode cL_stands 353 = .ok (.if_icmp .ne 15, 3) := by decide +kernel
theorem dL_stands_356 : decode cL_stands 356 = .ok (.aload_n 0, 1) := by decide +kernel
theorem dL_stands_357 : decode cL_stands 357 = .ok (.iload 7, 2) := by decide +kernel
theorem dL_stands_359 : decode cL_stands 359 = .ok (.iconst 5, 1) := by decide +kernel
theorem dL_stands_360 : decode cL_stands 360 = .ok (.invokevirtual 171, 3) := by decide +kernel
theorem dL_stands_363 : decode cL_stands 363 = .ok (.iload 11, 2) := by decide +kernel
theorem dL_stands_365 : decode cL_stands 365 = .ok (.if_icmp .eq 5, 3) := by decide +kernel
theorem dL_stands_368 : decode cL_stands 368 = .ok (.iconst 0, 1) := by decide +kernel
theorem dL_stands_369 : decode cL_stands 369 = .ok (.ireturn, 1) := by decide +kernel
theorem dL_stands_370 : decode cL_stands 370 = .ok (.iload 7, 2) := by decide +kernel
theorem dL_stands_372 : decode cL_stands 372 = .ok (.ifCond .le 26, 3) := by decide +kernel
theorem dL_stands_375 : decode cL_stands 375 = .ok (.aload_n 0, 1) := by decide +kernel
theorem dL_stands_376 : decode cL_stands 376 = .ok (.iload 7, 2) := by decide +kernel
theorem dL_stands_378 : decode cL_stands 378 = .ok (.iconst 1, 1) := by decide +kernel
theorem dL_stands_379 : decode cL_stands 379 = .ok (.isub, 1) := by decide +kernel
theorem dL_stands_380 : decode cL_stands 380 = .ok (.iconst 0, 1) := by decide +kernel
theorem dL_stands_381 : decode cL_stands 381 = .ok (.invokevirtual 171, 3) := by decide +kernel
theorem dL_stands_384 : decode cL_stands 384 = .ok (.aload_n 0, 1) := by decide +kernel
theorem dL_stands_385 : decode cL_stands 385 = .ok (.iload 7, 2) := by decide +kernel
theorem dL_stands_387 : decode cL_stands 387 = .ok (.iconst 0, 1) := by decide +kernel
theorem dL_stands_388 : decode cL_stands 388 = .ok (.invokevirtual 171, 3) := by decide +kernel
theorem dL_stands_391 : decode cL_stands 391 = .ok (.if_icmp .ne 7, 3) := by decide +kernel
theorem dL_stands_394 : decode cL_stands 394 = .ok (.iconst 1, 1) := by decide +kernel
theorem dL_stands_395 : decode cL_stands 395 = .ok (.goto 4, 3) := by decide +kernel
theorem dL_stands_398 : decode cL_stands 398 = .ok (.iconst 0, 1) := by decide +kernel
theorem dL_stands_399 : decode cL_stands 399 = .ok (.istore 12, 2) := by decide +kernel
theorem dL_stands_401 : decode cL_stands 401 = .ok (.iload 7, 2) := by decide +kernel
theorem dL_stands_403 : decode cL_stands 403 = .ok (.ifCond .le 15, 3) := by decide +kernel
theorem dL_stands_406 : decode cL_stands 406 = .ok (.aload_n 0, 1) := by decide +kernel
theorem dL_stands_407 : decode cL_stands 407 = .ok (.iload 7, 2) := by decide +kernel
theorem dL_stands_409 : decode cL_stands 409 = .ok (.iconst 1, 1) := by decide +kernel
theorem dL_stands_410 : decode cL_stands 410 = .ok (.isub, 1) := by decide +kernel
theorem dL_stands_411 : decode cL_stands 411 = .ok (.iconst 2, 1) := by decide +kernel
theorem dL_stands_412 : decode cL_stands 412 = .ok (.invokevirtual 171, 3) := by decide +kernel
theorem dL_stands_415 : decode cL_stands 415 = .ok (.goto 4, 3) := by decide +kernel
theorem dL_stands_418 : decode cL_stands 418 = .ok (.iconst 0, 1) := by decide +kernel
theorem dL_stands_419 : decode cL_stands 419 = .ok (.istore 13, 2) := by decide +kernel
theorem dL_stands_421 : decode cL_stands 421 = .ok (.iload 12, 2) := by decide +kernel
theorem dL_stands_423 : decode cL_stands 423 = .ok (.ifCond .eq 45, 3) := by decide +kernel
theorem dL_stands_426 : decode cL_stands 426 = .ok (.iload 9, 2) := by decide +kernel
theorem dL_stands_428 : decode cL_stands 428 = .ok (.iload 13, 2) := by decide +kernel
theorem dL_stands_430 : decode cL_stands 430 = .ok (.if_icmp .lt 36, 3) := by decide +kernel
theorem dL_stands_433 : decode cL_stands 433 = .ok (.iload 9, 2) := by decide +kernel
theorem dL_stands_435 : decode cL_stands 435 = .ok (.iload 13, 2) := by decide +kernel
theorem dL_stands_437 : decode cL_stands 437 = .ok (.if_icmp .ne 31, 3) := by decide +kernel
theorem dL_stands_440 : decode cL_stands 440 = .ok (.iload 8, 2) := by decide +kernel
theorem dL_stands_442 : decode cL_stands 442 = .ok (.aload_n 0, 1) := by decide +kernel
theorem dL_stands_443 : decode cL_stands 443 = .ok (.iload 7, 2) := by decide +kernel
theorem dL_stands_445 : decode cL_stands 445 = .ok (.iconst 1, 1) := by decide +kernel
theorem dL_stands_446 : decode cL_stands 446 = .ok (.isub, 1) := by decide +kernel
theorem dL_stands_447 : decode cL_stands 447 = .ok (.iconst 3, 1) := by decide +kernel
theorem dL_stands_448 : decode cL_stands 448 = .ok (.invokevirtual 171, 3) := by decide +kernel
theorem dL_stands_451 : decode cL_stands 451 = .ok (.aload_n 0, 1) := by decide +kernel
theorem dL_stands_452 : decode cL_stands 452 = .ok (.iload 7, 2) := by decide +kernel
theorem dL_stands_454 : decode cL_stands 454 = .ok (.iconst 1, 1) := by decide +kernel
theorem dL_stands_455 : decode cL_stands 455 = .ok (.isub, 1) := by decide +kernel
theorem dL_stands_456 : decode cL_stands 456 = .ok (.iconst 1, 1) := by decide +kernel
theorem dL_stands_457 : decode cL_stands 457 = .ok (.invokevirtual 171, 3) := by decide +kernel
theorem dL_stands_460 : decode cL_stands 460 = .ok (.iadd, 1) := by decide +kernel
theorem dL_stands_461 : decode cL_stands 461 = .ok (.iconst 1, 1) := by decide +kernel
theorem dL_stands_462 : decode cL_stands 462 = .ok (.iadd, 1) := by decide +kernel
theorem dL_stands_463 : decode cL_stands 463 = .ok (.if_icmp .ge 5, 3) := by decide +kernel
theorem dL_stands_466 : decode cL_stands 466 = .ok (.iconst 0, 1) := by decide +kernel
theorem dL_stands_467 : decode cL_stands 467 = .ok (.ireturn, 1) := by decide +kernel
theorem dL_stands_468 : decode cL_stands 468 = .ok (.iload 7, 2) := by decide +kernel
theorem dL_stands_470 : decode cL_stands 470 = .ok (.ifCond .le 25, 3) := by decide +kernel
theorem dL_stands_473 : decode cL_stands 473 = .ok (.iload 12, 2) := by decide +kernel
theorem dL_stands_475 : decode cL_stands 475 = .ok (.ifCond .ne 20, 3) := by decide +kernel
theorem dL_stands_478 : decode cL_stands 478 = .ok (.iload 9, 2) := by decide +kernel
theorem dL_stands_480 : decode cL_stands 480 = .ok (.iload 13, 2) := by decide +kernel
theorem dL_stands_482 : decode cL_stands 482 = .ok (.aload_n 0, 1) := by decide +kernel
theorem dL_stands_483 : decode cL_stands 483 = .ok (.iconst 3, 1) := by decide +kernel
theorem dL_stands_484 : decode cL_stands 484 = .ok (.invokevirtual 94, 3) := by decide +kernel
theorem dL_stands_487 : decode cL_stands 487 = .ok (.iadd, 1) := by decide +kernel
theorem dL_stands_488 : decode cL_stands 488 = .ok (.iconst 1, 1) := by decide +kernel
theorem dL_stands_489 : decode cL_stands 489 = .ok (.iadd, 1) := by decide +kernel
theorem dL_stands_490 : decode cL_stands 490 = .ok (.if_icmp .ge 5, 3) := by decide +kernel
theorem dL_stands_493 : decode cL_stands 493 = .ok (.iconst 0, 1) := by decide +kernel
theorem dL_stands_494 : decode cL_stands 494 = .ok (.ireturn, 1) := by decide +kernel
theorem dL_stands_495 : decode cL_stands 495 = .ok (.iinc 7 1, 3) := by decide +kernel
theorem dL_stands_498 : decode cL_stands 498 = .ok (.goto (-423), 3) := by decide +kernel
theorem dL_stands_501 : decode cL_stands 501 = .ok (.iconst 0, 1) := by decide +kernel
theorem dL_stands_502 : decode cL_stands 502 = .ok (.istore 7, 2) := by decide +kernel
theorem dL_stands_504 : decode cL_stands 504 = .ok (.iconst 0, 1) := by decide +kernel
theorem dL_stands_505 : decode cL_stands 505 = .ok (.istore 8, 2) := by decide +kernel
theorem dL_stands_507 : decode cL_stands 507 = .ok (.iconst 0, 1) := by decide +kernel
theorem dL_stands_508 : decode cL_stands 508 = .ok (.istore 9, 2) := by decide +kernel
theorem dL_stands_510 : decode cL_stands 510 = .ok (.iload 9, 2) := by decide +kernel
theorem dL_stands_512 : decode cL_stands 512 = .ok (.aload_n 0, 1) := by decide +kernel
theorem dL_stands_513 : decode cL_stands 513 = .ok (.iconst 1, 1) := by decide +kernel
theorem dL_stands_514 : decode cL_stands 514 = .ok (.invokevirtual 94, 3) := by decide +kernel
theorem dL_stands_517 : decode cL_stands 517 = .ok (.if_icmp .ge 108, 3) := by decide +kernel
theorem dL_stands_520 : decode cL_stands 520 = .ok (.iconst 0, 1) := by decide +kernel
theorem dL_stands_521 : decode cL_stands 521 = .ok (.istore 10, 2) := by decide +kernel
theorem dL_stands_523 : decode cL_stands 523 = .ok (.iconst 0, 1) := by decide +kernel
theorem dL_stands_524 : decode cL_stands 524 = .ok (.istore 11, 2) := by decide +kernel
theorem dL_stands_526 : decode cL_stands 526 = .ok (.iload 11, 2) := by decide +kernel
theorem dL_stands_528 : decode cL_stands 528 = .ok (.aload_n 0, 1) := by decide +kernel
theorem dL_stands_529 : decode cL_stands 529 = .ok (.iconst 0, 1) := by decide +kernel
theorem dL_stands_530 : decode cL_stands 530 = .ok (.invokevirtual 94, 3) := by decide +kernel
theorem dL_stands_533 : decode cL_stands 533 = .ok (.if_icmp .ge 73, 3) := by decide +kernel
theorem dL_stands_536 : decode cL_stands 536 = .ok (.iload 7, 2) := by decide +kernel
theorem dL_stands_538 : decode cL_stands 538 = .ok (.aload_n 0, 1) := by decide +kernel
theorem dL_stands_539 : decode cL_stands 539 = .ok (.iload 11, 2) := by decide +kernel
theorem dL_stands_541 : decode cL_stands 541 = .ok (.iload 9, 2) := by decide +kernel
theorem dL_stands_543 : decode cL_stands 543 = .ok (.invokevirtual 178, 3) := by decide +kernel
theorem dL_stands_546 : decode cL_stands 546 = .ok (.ifCond .le 7, 3) := by decide +kernel
theorem dL_stands_549 : decode cL_stands 549 = .ok (.iconst 1, 1) := by decide +kernel
theorem dL_stands_550 : decode cL_stands 550 = .ok (.goto 4, 3) := by decide +kernel
theorem dL_stands_553 : decode cL_stands 553 = .ok (.iconst 0, 1) := by decide +kernel
theorem dL_stands_554 : decode cL_stands 554 = .ok (.iadd, 1) := by decide +kernel
theorem dL_stands_555 : decode cL_stands 555 = .ok (.istore 7, 2) := by decide +kernel
theorem dL_stands_557 : decode cL_stands 557 = .ok (.iload 8, 2) := by decide +kernel
theorem dL_stands_559 : decode cL_stands 559 = .ok (.aload_n 0, 1) := by decide +kernel
theorem dL_stands_560 : decode cL_stands 560 = .ok (.iload 11, 2) := by decide +kernel
theorem dL_stands_562 : decode cL_stands 562 = .ok (.iload 9, 2) := by decide +kernel
theorem dL_stands_564 : decode cL_stands 564 = .ok (.invokevirtual 178, 3) := by decide +kernel
theorem dL_stands_567 : decode cL_stands 567 = .ok (.iconst (-1), 1) := by decide +kernel
theorem dL_stands_568 : decode cL_stands 568 = .ok (.if_icmp .ne 7, 3) := by decide +kernel
theorem dL_stands_571 : decode cL_stands 571 = .ok (.iconst 1, 1) := by decide +kernel
theorem dL_stands_572 : decode cL_stands 572 = .ok (.goto 4, 3) := by decide +kernel
theorem dL_stands_575 : decode cL_stands 575 = .ok (.iconst 0, 1) := by decide +kernel
theorem dL_stands_576 : decode cL_stands 576 = .ok (.iadd, 1) := by decide +kernel
theorem dL_stands_577 : decode cL_stands 577 = .ok (.istore 8, 2) := by decide +kernel
theorem dL_stands_579 : decode cL_stands 579 = .ok (.iload 10, 2) := by decide +kernel
theorem dL_stands_581 : decode cL_stands 581 = .ok (.aload_n 0, 1) := by decide +kernel
theorem dL_stands_582 : decode cL_stands 582 = .ok (.iload 11, 2) := by decide +kernel
theorem dL_stands_584 : decode cL_stands 584 = .ok (.iload 9, 2) := by decide +kernel
theorem dL_stands_586 : decode cL_stands 586 = .ok (.invokevirtual 178, 3) := by decide +kernel
theorem dL_stands_589 : decode cL_stands 589 = .ok (.ifCond .ne 7, 3) := by decide +kernel
theorem dL_stands_592 : decode cL_stands 592 = .ok (.iconst 1, 1) := by decide +kernel
theorem dL_stands_593 : decode cL_stands 593 = .ok (.goto 4, 3) := by decide +kernel
theorem dL_stands_596 : decode cL_stands 596 = .ok (.iconst 0, 1) := by decide +kernel
theorem dL_stands_597 : decode cL_stands 597 = .ok (.iadd, 1) := by decide +kernel
theorem dL_stands_598 : decode cL_stands 598 = .ok (.istore 10, 2) := by decide +kernel
theorem dL_stands_600 : decode cL_stands 600 = .ok (.iinc 11 1, 3) := by decide +kernel
theorem dL_stands_603 : decode cL_stands 603 = .ok (.goto (-77), 3) := by decide +kernel
theorem dL_stands_606 : decode cL_stands 606 = .ok (.aload_n 0, 1) := by decide +kernel
theorem dL_stands_607 : decode cL_stands 607 = .ok (.iload 9, 2) := by decide +kernel
theorem dL_stands_609 : decode cL_stands 609 = .ok (.invokevirtual 197, 3) := by decide +kernel
theorem dL_stands_612 : decode cL_stands 612 = .ok (.iload 10, 2) := by decide +kernel
theorem dL_stands_614 : decode cL_stands 614 = .ok (.if_icmp .eq 5, 3) := by decide +kernel
theorem dL_stands_617 : decode cL_stands 617 = .ok (.iconst 0, 1) := by decide +kernel
theorem dL_stands_618 : decode cL_stands 618 = .ok (.ireturn, 1) := by decide +kernel
theorem dL_stands_619 : decode cL_stands 619 = .ok (.iinc 9 1, 3) := by decide +kernel
theorem dL_stands_622 : decode cL_stands 622 = .ok (.goto (-112), 3) := by decide +kernel
theorem dL_stands_625 : decode cL_stands 625 = .ok (.iload 7, 2) := by decide +kernel
theorem dL_stands_627 : decode cL_stands 627 = .ok (.iload_n 2, 1) := by decide +kernel
theorem dL_stands_628 : decode cL_stands 628 = .ok (.if_icmp .ne 47, 3) := by decide +kernel
theorem dL_stands_631 : decode cL_stands 631 = .ok (.aload_n 0, 1) := by decide +kernel
theorem dL_stands_632 : decode cL_stands 632 = .ok (.bipush 7, 2) := by decide +kernel
theorem dL_stands_634 : decode cL_stands 634 = .ok (.invokevirtual 94, 3) := by decide +kernel
theorem dL_stands_637 : decode cL_stands 637 = .ok (.iload_n 2, 1) := by decide +kernel
theorem dL_stands_638 : decode cL_stands 638 = .ok (.if_icmp .ne 37, 3) := by decide +kernel
theorem dL_stands_641 : decode cL_stands 641 = .ok (.iload 8, 2) := by decide +kernel
theorem dL_stands_643 : decode cL_stands 643 = .ok (.aload_n 0, 1) := by decide +kernel
theorem dL_stands_644 : decode cL_stands 644 = .ok (.iconst 2, 1) := by decide +kernel
theorem dL_stands_645 : decode cL_stands 645 = .ok (.invokevirtual 94, 3) := by decide +kernel
theorem dL_stands_648 : decode cL_stands 648 = .ok (.if_icmp .ne 27, 3) := by decide +kernel
theorem dL_stands_651 : decode cL_stands 651 = .ok (.iload 6, 2) := by decide +kernel
theorem dL_stands_653 : decode cL_stands 653 = .ok (.iload_n 2, 1) := by decide +kernel
theorem dL_stands_654 : decode cL_stands 654 = .ok (.if_icmp .gt 21, 3) := by decide +kernel
theorem dL_stands_657 : decode cL_stands 657 = .ok (.aload_n 0, 1) := by decide +kernel
theorem dL_stands_658 : decode cL_stands 658 = .ok (.invokevirtual 200, 3) := by decide +kernel
theorem dL_stands_661 : decode cL_stands 661 = .ok (.iload 4, 2) := by decide +kernel
theorem dL_stands_663 : decode cL_stands 663 = .ok (.if_icmp .ne 12, 3) := by decide +kernel
theorem dL_stands_666 : decode cL_stands 666 = .ok (.aload_n 0, 1) := by decide +kernel
theorem dL_stands_667 : decode cL_stands 667 = .ok (.invokevirtual 203, 3) := by decide +kernel
theorem dL_stands_670 : decode cL_stands 670 = .ok (.iload 5, 2) := by decide +kernel
theorem dL_stands_672 : decode cL_stands 672 = .ok (.if_icmp .eq 5, 3) := by decide +kernel
theorem dL_stands_675 : decode cL_stands 675 = .ok (.iconst 0, 1) := by decide +kernel
theorem dL_stands_676 : decode cL_stands 676 = .ok (.ireturn, 1) := by decide +kernel
theorem dL_stands_677 : decode cL_stands 677 = .ok (.aload_n 0, 1) := by decide +kernel
theorem dL_stands_678 : decode cL_stands 678 = .ok (.invokevirtual 206, 3) := by decide +kernel
theorem dL_stands_681 : decode cL_stands 681 = .ok (.iload_n 2, 1) := by decide +kernel
theorem dL_stands_682 : decode cL_stands 682 = .ok (.ifCond .ne 7, 3) := by decide +kernel
theorem dL_stands_685 : decode cL_stands 685 = .ok (.dconst 0, 1) := by decide +kernel
theorem dL_stands_686 : decode cL_stands 686 = .ok (.goto 8, 3) := by decide +kernel
theorem dL_stands_689 : decode cL_stands 689 = .ok (.iload_n 3, 1) := by decide +kernel
theorem dL_stands_690 : decode cL_stands 690 = .ok (.i2d, 1) := by decide +kernel
theorem dL_stands_691 : decode cL_stands 691 = .ok (.iload_n 2, 1) := by decide +kernel
theorem dL_stands_692 : decode cL_stands 692 = .ok (.i2d, 1) := by decide +kernel
theorem dL_stands_693 : decode cL_stands 693 = .ok (.ddiv, 1) := by decide +kernel
theorem dL_stands_694 : decode cL_stands 694 = .ok (.dcmp .l, 1) := by decide +kernel
theorem dL_stands_695 : decode cL_stands 695 = .ok (.ifCond .ne 25, 3) := by decide +kernel
theorem dL_stands_698 : decode cL_stands 698 = .ok (.aload_n 0, 1) := by decide +kernel
theorem dL_stands_699 : decode cL_stands 699 = .ok (.invokevirtual 210, 3) := by decide +kernel
theorem dL_stands_702 : decode cL_stands 702 = .ok (.iload_n 2, 1) := by decide +kernel
theorem dL_stands_703 : decode cL_stands 703 = .ok (.ifCond .ne 7, 3) := by decide +kernel
theorem dL_stands_706 : decode cL_stands 706 = .ok (.fconst 1, 1) := by decide +kernel
theorem dL_stands_707 : decode cL_stands 707 = .ok (.goto 9, 3) := by decide +kernel
theorem dL_stands_710 : decode cL_stands 710 = .ok (.iload 6, 2) := by decide +kernel
theorem dL_stands_712 : decode cL_stands 712 = .ok (.i2f, 1) := by decide +kernel
theorem dL_stands_713 : decode cL_stands 713 = .ok (.iload_n 2, 1) := by decide +kernel
theorem dL_stands_714 : decode cL_stands 714 = .ok (.i2f, 1) := by decide +kernel
theorem dL_stands_715 : decode cL_stands 715 = .ok (.fdiv, 1) := by decide +kernel
theorem dL_stands_716 : decode cL_stands 716 = .ok (.fcmp .l, 1) := by decide +kernel
theorem dL_stands_717 : decode cL_stands 717 = .ok (.ifCond .eq 5, 3) := by decide +kernel
theorem dL_stands_720 : decode cL_stands 720 = .ok (.iconst 0, 1) := by decide +kernel
theorem dL_stands_721 : decode cL_stands 721 = .ok (.ireturn, 1) := by decide +kernel
theorem dL_stands_722 : decode cL_stands 722 = .ok (.aload_n 0, 1) := by decide +kernel
theorem dL_stands_723 : decode cL_stands 723 = .ok (.bipush 9, 2) := by decide +kernel
theorem dL_stands_725 : decode cL_stands 725 = .ok (.invokevirtual 94, 3) := by decide +kernel
theorem dL_stands_728 : decode cL_stands 728 = .ok (.ifCond .lt 22, 3) := by decide +kernel
theorem dL_stands_731 : decode cL_stands 731 = .ok (.aload_n 0, 1) := by decide +kernel
theorem dL_stands_732 : decode cL_stands 732 = .ok (.bipush 9, 2) := by decide +kernel
theorem dL_stands_734 : decode cL_stands 734 = .ok (.invokevirtual 94, 3) := by decide +kernel
theorem dL_stands_737 : decode cL_stands 737 = .ok (.aload_n 0, 1) := by decide +kernel
theorem dL_stands_738 : decode cL_stands 738 = .ok (.bipush 10, 2) := by decide +kernel
theorem dL_stands_740 : decode cL_stands 740 = .ok (.invokevirtual 94, 3) := by decide +kernel
theorem dL_stands_743 : decode cL_stands 743 = .ok (.if_icmp .gt 7, 3) := by decide +kernel
theorem dL_stands_746 : decode cL_stands 746 = .ok (.iconst 1, 1) := by decide +kernel
theorem dL_stands_747 : decode cL_stands 747 = .ok (.goto 4, 3) := by decide +kernel
theorem dL_stands_750 : decode cL_stands 750 = .ok (.iconst 0, 1) := by decide +kernel
theorem dL_stands_751 : decode cL_stands 751 = .ok (.ireturn, 1) := by decide +kernel
theorem dL_law_0 : decode cL_law 0 = .ok (.new 25, 3) := by decide +kernel
theorem dL_law_3 : decode cL_law 3 = .ok (.dup, 1) := by decide +kernel
theorem dL_law_4 : decode cL_law 4 = .ok (.invokespecial 214, 3) := by decide +kernel
theorem dL_law_7 : decode cL_law 7 = .ok (.astore_n 1, 1) := by decide +kernel
theorem dL_law_8 : decode cL_law 8 = .ok (.aload_n 1, 1) := by decide +kernel
theorem dL_law_9 : decode cL_law 9 = .ok (.aload_n 0, 1) := by decide +kernel
theorem dL_law_10 : decode cL_law 10 = .ok (.invokestatic 215, 3) := by decide +kernel
theorem dL_law_13 : decode cL_law 13 = .ok (.ifCond .eq 10, 3) := by decide +kernel
theorem dL_law_16 : decode cL_law 16 = .ok (.aload_n 1, 1) := by decide +kernel
theorem dL_law_17 : decode cL_law 17 = .ok (.invokestatic 218, 3) := by decide +kernel
theorem dL_law_20 : decode cL_law 20 = .ok (.ifCond .ne 5, 3) := by decide +kernel
theorem dL_law_23 : decode cL_law 23 = .ok (.iconst 0, 1) := by decide +kernel
theorem dL_law_24 : decode cL_law 24 = .ok (.ireturn, 1) := by decide +kernel
theorem dL_law_25 : decode cL_law 25 = .ok (.bipush 50, 2) := by decide +kernel
theorem dL_law_27 : decode cL_law 27 = .ok (.istore_n 2, 1) := by decide +kernel
theorem dL_law_28 : decode cL_law 28 = .ok (.iload_n 2, 1) := by decide +kernel
theorem dL_law_29 : decode cL_law 29 = .ok (.iconst 2, 1) := by decide +kernel
theorem dL_law_30 : decode cL_law 30 = .ok (.iadd, 1) := by decide +kernel
theorem dL_law_31 : decode cL_law 31 = .ok (.sipush 200, 3) := by decide +kernel
theorem dL_law_34 : decode cL_law 34 = .ok (.if_icmp .ge 200, 3) := by decide +kernel
theorem dL_law_37 : decode cL_law 37 = .ok (.iconst 0, 1) := by decide +kernel
theorem dL_law_38 : decode cL_law 38 = .ok (.istore_n 3, 1) := by decide +kernel
theorem dL_law_39 : decode cL_law 39 = .ok (.iload_n 3, 1) := by decide +kernel
theorem dL_law_40 : decode cL_law 40 = .ok (.aload_n 1, 1) := by decide +kernel
theorem dL_law_41 : decode cL_law 41 = .ok (.bipush 6, 2) := by decide +kernel
theorem dL_law_43 : decode cL_law 43 = .ok (.invokevirtual 94, 3) := by decide +kernel
theorem dL_law_46 : decode cL_law 46 = .ok (.if_icmp .ge 18, 3) := by decide +kernel
theorem dL_law_49 : decode cL_law 49 = .ok (.aload_n 1, 1) := by decide +kernel
theorem dL_law_50 : decode cL_law 50 = .ok (.iload_n 3, 1) := by decide +kernel
theorem dL_law_51 : decode cL_law 51 = .ok (.iconst 5, 1) := by decide +kernel
theorem dL_law_52 : decode cL_law 52 = .ok (.invokevirtual 171, 3) := by decide +kernel
theorem dL_law_55 : decode cL_law 55 = .ok (.ifCond .le 9, 3) := by decide +kernel
theorem dL_law_58 : decode cL_law 58 = .ok (.iinc 3 1, 3) := by decide +kernel
theorem dL_law_61 : decode cL_law 61 = .ok (.goto (-22), 3) := by decide +kernel
theorem dL_law_64 : decode cL_law 64 = .ok (.iload_n 3, 1) := by decide +kernel
theorem dL_law_65 : decode cL_law 65 = .ok (.newarray .int, 2) := by decide +kernel
theorem dL_law_67 : decode cL_law 67 = .ok (.astore 4, 2) := by decide +kernel
theorem dL_law_69 : decode cL_law 69 = .ok (.iload_n 3, 1) := by decide +kernel
theorem dL_law_70 : decode cL_law 70 = .ok (.newarray .int, 2) := by decide +kernel
theorem dL_law_72 : decode cL_law 72 = .ok (.astore 5, 2) := by decide +kernel
theorem dL_law_74 : decode cL_law 74 = .ok (.iload_n 3, 1) := by decide +kernel
theorem dL_law_75 : decode cL_law 75 = .ok (.newarray .int, 2) := by decide +kernel
theorem dL_law_77 : decode cL_law 77 = .ok (.astore 6, 2) := by decide +kernel
theorem dL_law_79 : decode cL_law 79 = .ok (.iconst 0, 1) := by decide +kernel
theorem dL_law_80 : decode cL_law 80 = .ok (.istore 7, 2) := by decide +kernel
theorem dL_law_82 : decode cL_law 82 = .ok (.iload 7, 2) := by decide +kernel
theorem dL_law_84 : decode cL_law 84 = .ok (.iload_n 3, 1) := by decide +kernel
theorem dL_law_85 : decode cL_law 85 = .ok (.if_icmp .ge 45, 3) := by decide +kernel
theorem dL_law_88 : decode cL_law 88 = .ok (.aload 4, 2) := by decide +kernel
theorem dL_law_90 : decode cL_law 90 = .ok (.iload 7, 2) := by decide +kernel
theorem dL_law_92 : decode cL_law 92 = .ok (.aload_n 1, 1) := by decide +kernel
theorem dL_law_93 : decode cL_law 93 = .ok (.iload 7, 2) := by decide +kernel
theorem dL_law_95 : decode cL_law 95 = .ok (.iconst 3, 1) := by decide +kernel
theorem dL_law_96 : decode cL_law 96 = .ok (.invokevirtual 171, 3) := by decide +kernel
theorem dL_law_99 : decode cL_law 99 = .ok (.iastore, 1) := by decide +kernel
theorem dL_law_100 : decode cL_law 100 = .ok (.aload 5, 2) := by decide +kernel
theorem dL_law_102 : decode cL_law 102 = .ok (.iload 7, 2) := by decide +kernel
theorem dL_law_104 : decode cL_law 104 = .ok (.aload_n 1, 1) := by decide +kernel
theorem dL_law_105 : decode cL_law 105 = .ok (.iload 7, 2) := by decide +kernel
theorem dL_law_107 : decode cL_law 107 = .ok (.iconst 2, 1) := by decide +kernel
theorem dL_law_108 : decode cL_law 108 = .ok (.invokevirtual 171, 3) := by decide +kernel
theorem dL_law_111 : decode cL_law 111 = .ok (.iastore, 1) := by decide +kernel
theorem dL_law_112 : decode cL_law 112 = .ok (.aload 6, 2) := by decide +kernel
theorem dL_law_114 : decode cL_law 114 = .ok (.iload 7, 2) := by decide +kernel
theorem dL_law_116 : decode cL_law 116 = .ok (.aload_n 1, 1) := by decide +kernel
theorem dL_law_117 : decode cL_law 117 = .ok (.iload 7, 2) := by decide +kernel
theorem dL_law_119 : decode cL_law 119 = .ok (.iconst 0, 1) := by decide +kernel
theorem dL_law_120 : decode cL_law 120 = .ok (.invokevirtual 173, 3) := by decide +kernel
theorem dL_law_123 : decode cL_law 123 = .ok (.iastore, 1) := by decide +kernel
theorem dL_law_124 : decode cL_law 124 = .ok (.iinc 7 1, 3) := by decide +kernel
theorem dL_law_127 : decode cL_law 127 = .ok (.goto (-45), 3) := by decide +kernel
theorem dL_law_130 : decode cL_law 130 = .ok (.aload_n 1, 1) := by decide +kernel
theorem dL_law_131 : decode cL_law 131 = .ok (.bipush 8, 2) := by decide +kernel
theorem dL_law_133 : decode cL_law 133 = .ok (.invokevirtual 94, 3) := by decide +kernel
theorem dL_law_136 : decode cL_law 136 = .ok (.istore 7, 2) := by decide +kernel
theorem dL_law_138 : decode cL_law 138 = .ok (.aload_n 1, 1) := by decide +kernel
theorem dL_law_139 : decode cL_law 139 = .ok (.aload_n 0, 1) := by decide +kernel
theorem dL_law_140 : decode cL_law 140 = .ok (.iload_n 2, 1) := by decide +kernel
theorem dL_law_141 : decode cL_law 141 = .ok (.invokestatic 222, 3) := by decide +kernel
theorem dL_law_144 : decode cL_law 144 = .ok (.istore 8, 2) := by decide +kernel
theorem dL_law_146 : decode cL_law 146 = .ok (.aload_n 1, 1) := by decide +kernel
theorem dL_law_147 : decode cL_law 147 = .ok (.invokestatic 218, 3) := by decide +kernel
theorem dL_law_150 : decode cL_law 150 = .ok (.ifCond .eq 14, 3) := by decide +kernel
theorem dL_law_153 : decode cL_law 153 = .ok (.aload_n 1, 1) := by decide +kernel
theorem dL_law_154 : decode cL_law 154 = .ok (.bipush 8, 2) := by decide +kernel
theorem dL_law_156 : decode cL_law 156 = .ok (.invokevirtual 94, 3) := by decide +kernel
theorem dL_law_159 : decode cL_law 159 = .ok (.iload 7, 2) := by decide +kernel
theorem dL_law_161 : decode cL_law 161 = .ok (.if_icmp .ge 5, 3) := by decide +kernel
theorem dL_law_164 : decode cL_law 164 = .ok (.iconst 0, 1) := by decide +kernel
theorem dL_law_165 : decode cL_law 165 = .ok (.ireturn, 1) := by decide +kernel
theorem dL_law_166 : decode cL_law 166 = .ok (.iconst 0, 1) := by decide +kernel
theorem dL_law_167 : decode cL_law 167 = .ok (.istore 9, 2) := by decide +kernel
theorem dL_law_169 : decode cL_law 169 = .ok (.iload 9, 2) := by decide +kernel
theorem dL_law_171 : decode cL_law 171 = .ok (.iload_n 3, 1) := by decide +kernel
theorem dL_law_172 : decode cL_law 172 = .ok (.if_icmp .ge 56, 3) := by decide +kernel
theorem dL_law_175 : decode cL_law 175 = .ok (.aload_n 1, 1) := by decide +kernel
theorem dL_law_176 : decode cL_law 176 = .ok (.iload 9, 2) := by decide +kernel
theorem dL_law_178 : decode cL_law 178 = .ok (.iconst 3, 1) := by decide +kernel
theorem dL_law_179 : decode cL_law 179 = .ok (.invokevirtual 171, 3) := by decide +kernel
theorem dL_law_182 : decode cL_law 182 = .ok (.aload 4, 2) := by decide +kernel
theorem dL_law_184 : decode cL_law 184 = .ok (.iload 9, 2) := by decide +kernel
theorem dL_law_186 : decode cL_law 186 = .ok (.iaload, 1) := by decide +kernel
theorem dL_law_187 : decode cL_law 187 = .ok (.if_icmp .ne 33, 3) := by decide +kernel
theorem dL_law_190 : decode cL_law 190 = .ok (.aload_n 1, 1) := by decide +kernel
theorem dL_law_191 : decode cL_law 191 = .ok (.iload 9, 2) := by decide +kernel
theorem dL_law_193 : decode cL_law 193 = .ok (.iconst 2, 1) := by decide +kernel
theorem dL_law_194 : decode cL_law 194 = .ok (.invokevirtual 171, 3) := by decide +kernel
theorem dL_law_197 : decode cL_law 197 = .ok (.aload 5, 2) := by decide +kernel
theorem dL_law_199 : decode cL_law 199 = .ok (.iload 9, 2) := by decide +kernel
theorem dL_law_201 : decode cL_law 201 = .ok (.iaload, 1) := by decide +kernel
theorem dL_law_202 : decode cL_law 202 = .ok (.if_icmp .ne 18, 3) := by decide +kernel
theorem dL_law_205 : decode cL_law 205 = .ok (.aload_n 1, 1) := by decide +kernel
theorem dL_law_206 : decode cL_law 206 = .ok (.iload 9, 2) := by decide +kernel
theorem dL_law_208 : decode cL_law 208 = .ok (.iconst 0, 1) := by decide +kernel
theorem dL_law_209 : decode cL_law 209 = .ok (.invokevirtual 173, 3) := by decide +kernel
theorem dL_law_212 : decode cL_law 212 = .ok (.aload 6, 2) := by decide +kernel
theorem dL_law_214 : decode cL_law 214 = .ok (.iload 9, 2) := by decide +kernel
theorem dL_law_216 : decode cL_law 216 = .ok (.iaload, 1) := by decide +kernel
theorem dL_law_217 : decode cL_law 217 = .ok (.if_icmp .eq 5, 3) := by decide +kernel
theorem dL_law_220 : decode cL_law 220 = .ok (.iconst 0, 1) := by decide +kernel
theorem dL_law_221 : decode cL_law 221 = .ok (.ireturn, 1) := by decide +kernel
theorem dL_law_222 : decode cL_law 222 = .ok (.iinc 9 1, 3) := by decide +kernel
theorem dL_law_225 : decode cL_law 225 = .ok (.goto (-56), 3) := by decide +kernel
theorem dL_law_228 : decode cL_law 228 = .ok (.iinc 2 3, 3) := by decide +kernel
theorem dL_law_231 : decode cL_law 231 = .ok (.goto (-203), 3) := by decide +kernel
theorem dL_law_234 : decode cL_law 234 = .ok (.iconst 1, 1) := by decide +kernel
theorem dL_law_235 : decode cL_law 235 = .ok (.ireturn, 1) := by decide +kernel
end
