section
-- ===== PART A: goes FIRST, ahead of the names: the tables' words, and 'selects' of the private methods out of them =====
/-- a private method of a class that the tables say can be made, by its rows of tables_1 -/
def lw_okq (q : MethodName × Nat) : Prop := (q.1.cls ≠ "java/lang/invoke/MethodHandle" ∧ q.1.cls ≠ "java/lang/invoke/VarHandle") ∧ Cond.instantiable q.1.cls q.2 ∈ tables_1 ∧ Cond.privateMethod q.1 ∈ tables_1 ∧ Cond.instanceMethod q.1 ∈ tables_1
theorem lw_p0 : lw_okq (⟨"Cubecaller", "existing", "(I)LCubecaller$Dimension;"⟩, 7) := ⟨⟨by decide +kernel, by decide +kernel⟩, List.mem_of_getElem? (i := 23) (by decide +kernel), List.mem_of_getElem? (i := 388) (by decide +kernel), List.mem_of_getElem? (i := 389) (by decide +kernel)⟩
theorem lw_p1 : lw_okq (⟨"java/lang/Throwable", "fillInStackTrace", "(I)Ljava/lang/Throwable;"⟩, 6) := ⟨⟨by decide +kernel, by decide +kernel⟩, List.mem_of_getElem? (i := 430) (by decide +kernel), List.mem_of_getElem? (i := 428) (by decide +kernel), List.mem_of_getElem? (i := 429) (by decide +kernel)⟩
theorem lw_p2 : lw_okq (⟨"Cubecaller$Dimension", "addKind", "(I)I"⟩, 16) := ⟨⟨by decide +kernel, by decide +kernel⟩, List.mem_of_getElem? (i := 37) (by decide +kernel), List.mem_of_getElem? (i := 519) (by decide +kernel), List.mem_of_getElem? (i := 520) (by decide +kernel)⟩
theorem lw_p3 : lw_okq (⟨"Cubecaller$Dimension", "isBridgeSeen", "(I)Z"⟩, 16) := ⟨⟨by decide +kernel, by decide +kernel⟩, List.mem_of_getElem? (i := 37) (by decide +kernel), List.mem_of_getElem? (i := 558) (by decide +kernel), List.mem_of_getElem? (i := 559) (by decide +kernel)⟩
theorem lw_p4 : lw_okq (⟨"Cubecaller$Dimension", "standsFor", "(II)Z"⟩, 16) := ⟨⟨by decide +kernel, by decide +kernel⟩, List.mem_of_getElem? (i := 37) (by decide +kernel), List.mem_of_getElem? (i := 562) (by decide +kernel), List.mem_of_getElem? (i := 563) (by decide +kernel)⟩
theorem lw_p5 : lw_okq (⟨"Cubecaller$Dimension", "weighRow", "(IILCubecaller$TimeOrder;)V"⟩, 16) := ⟨⟨by decide +kernel, by decide +kernel⟩, List.mem_of_getElem? (i := 37) (by decide +kernel), List.mem_of_getElem? (i := 566) (by decide +kernel), List.mem_of_getElem? (i := 567) (by decide +kernel)⟩
theorem lw_p6 : lw_okq (⟨"Cubecaller$Dimension", "weightOver", "(IIII)I"⟩, 16) := ⟨⟨by decide +kernel, by decide +kernel⟩, List.mem_of_getElem? (i := 37) (by decide +kernel), List.mem_of_getElem? (i := 570) (by decide +kernel), List.mem_of_getElem? (i := 571) (by decide +kernel)⟩
theorem lw_p7 : lw_okq (⟨"Cubecaller$Dimension", "weightByBridge", "(III)I"⟩, 16) := ⟨⟨by decide +kernel, by decide +kernel⟩, List.mem_of_getElem? (i := 37) (by decide +kernel), List.mem_of_getElem? (i := 574) (by decide +kernel), List.mem_of_getElem? (i := 575) (by decide +kernel)⟩
theorem lw_p8 : lw_okq (⟨"Cubecaller", "needMeasure", "(I)V"⟩, 7) := ⟨⟨by decide +kernel, by decide +kernel⟩, List.mem_of_getElem? (i := 23) (by decide +kernel), List.mem_of_getElem? (i := 586) (by decide +kernel), List.mem_of_getElem? (i := 587) (by decide +kernel)⟩
theorem lw_p9 : lw_okq (⟨"Cubecaller", "existingCell", "(IIII)I"⟩, 7) := ⟨⟨by decide +kernel, by decide +kernel⟩, List.mem_of_getElem? (i := 23) (by decide +kernel), List.mem_of_getElem? (i := 677) (by decide +kernel), List.mem_of_getElem? (i := 678) (by decide +kernel)⟩
theorem lw_p10 : lw_okq (⟨"Cubecaller", "dropFor", "(II)V"⟩, 7) := ⟨⟨by decide +kernel, by decide +kernel⟩, List.mem_of_getElem? (i := 23) (by decide +kernel), List.mem_of_getElem? (i := 701) (by decide +kernel), List.mem_of_getElem? (i := 702) (by decide +kernel)⟩
theorem lw_p11 : lw_okq (⟨"Cubecaller$KeptResults", "has", "(I)Z"⟩, 5) := ⟨⟨by decide +kernel, by decide +kernel⟩, List.mem_of_getElem? (i := 238) (by decide +kernel), List.mem_of_getElem? (i := 709) (by decide +kernel), List.mem_of_getElem? (i := 710) (by decide +kernel)⟩
theorem lw_p12 : lw_okq (⟨"Cubecaller", "setNumber", "(II)Z"⟩, 7) := ⟨⟨by decide +kernel, by decide +kernel⟩, List.mem_of_getElem? (i := 23) (by decide +kernel), List.mem_of_getElem? (i := 751) (by decide +kernel), List.mem_of_getElem? (i := 752) (by decide +kernel)⟩
theorem lw_p13 : lw_okq (⟨"Cubecaller$FactRows", "has", "(I)Z"⟩, 9) := ⟨⟨by decide +kernel, by decide +kernel⟩, List.mem_of_getElem? (i := 201) (by decide +kernel), List.mem_of_getElem? (i := 759) (by decide +kernel), List.mem_of_getElem? (i := 760) (by decide +kernel)⟩
theorem lw_p14 : lw_okq (⟨"Cubecaller$Dimension", "isAsked", "(III)Z"⟩, 16) := ⟨⟨by decide +kernel, by decide +kernel⟩, List.mem_of_getElem? (i := 37) (by decide +kernel), List.mem_of_getElem? (i := 786) (by decide +kernel), List.mem_of_getElem? (i := 787) (by decide +kernel)⟩
theorem lw_p15 : lw_okq (⟨"Cubecaller$Dimension", "isLeaf", "(I)Z"⟩, 16) := ⟨⟨by decide +kernel, by decide +kernel⟩, List.mem_of_getElem? (i := 37) (by decide +kernel), List.mem_of_getElem? (i := 790) (by decide +kernel), List.mem_of_getElem? (i := 791) (by decide +kernel)⟩
def lw_privs_1 : List (MethodName × Nat) := [(⟨"Cubecaller", "existing", "(I)LCubecaller$Dimension;"⟩, 7), (⟨"java/lang/Throwable", "fillInStackTrace", "(I)Ljava/lang/Throwable;"⟩, 6), (⟨"Cubecaller$Dimension", "addKind", "(I)I"⟩, 16), (⟨"Cubecaller$Dimension", "isBridgeSeen", "(I)Z"⟩, 16), (⟨"Cubecaller$Dimension", "standsFor", "(II)Z"⟩, 16), (⟨"Cubecaller$Dimension", "weighRow", "(IILCubecaller$TimeOrder;)V"⟩, 16), (⟨"Cubecaller$Dimension", "weightOver", "(IIII)I"⟩, 16), (⟨"Cubecaller$Dimension", "weightByBridge", "(III)I"⟩, 16), (⟨"Cubecaller", "needMeasure", "(I)V"⟩, 7), (⟨"Cubecaller", "existingCell", "(IIII)I"⟩, 7), (⟨"Cubecaller", "dropFor", "(II)V"⟩, 7), (⟨"Cubecaller$KeptResults", "has", "(I)Z"⟩, 5), (⟨"Cubecaller", "setNumber", "(II)Z"⟩, 7), (⟨"Cubecaller$FactRows", "has", "(I)Z"⟩, 9), (⟨"Cubecaller$Dimension", "isAsked", "(III)Z"⟩, 16), (⟨"Cubecaller$Dimension", "isLeaf", "(I)Z"⟩, 16)]
theorem lw_r1 : ∀ q ∈ lw_privs_1, lw_okq q := List.forall_mem_cons.mpr ⟨lw_p0, List.forall_mem_cons.mpr ⟨lw_p1, List.forall_mem_cons.mpr ⟨lw_p2, List.forall_mem_cons.mpr ⟨lw_p3, List.forall_mem_cons.mpr ⟨lw_p4, List.forall_mem_cons.mpr ⟨lw_p5, List.forall_mem_cons.mpr ⟨lw_p6, List.forall_mem_cons.mpr ⟨lw_p7, List.forall_mem_cons.mpr ⟨lw_p8, List.forall_mem_cons.mpr ⟨lw_p9, List.forall_mem_cons.mpr ⟨lw_p10, List.forall_mem_cons.mpr ⟨lw_p11, List.forall_mem_cons.mpr ⟨lw_p12, List.forall_mem_cons.mpr ⟨lw_p13, List.forall_mem_cons.mpr ⟨lw_p14, List.forall_mem_cons.mpr ⟨lw_p15, fun _ h => absurd h List.not_mem_nil⟩⟩⟩⟩⟩⟩⟩⟩⟩⟩⟩⟩⟩⟩⟩⟩
theorem lw_p16 : lw_okq (⟨"Cubecaller$Reckoner", "valueOf", "(II)J"⟩, 14) := ⟨⟨by decide +kernel, by decide +kernel⟩, List.mem_of_getElem? (i := 284) (by decide +kernel), List.mem_of_getElem? (i := 820) (by decide +kernel), List.mem_of_getElem? (i := 821) (by decide +kernel)⟩
theorem lw_p17 : lw_okq (⟨"Cubecaller$Reckoner", "plainValue", "(I)J"⟩, 14) := ⟨⟨by decide +kernel, by decide +kernel⟩, List.mem_of_getElem? (i := 284) (by decide +kernel), List.mem_of_getElem? (i := 826) (by decide +kernel), List.mem_of_getElem? (i := 827) (by decide +kernel)⟩
theorem lw_p18 : lw_okq (⟨"Cubecaller$Reckoner", "meansNothing", "(I)Z"⟩, 14) := ⟨⟨by decide +kernel, by decide +kernel⟩, List.mem_of_getElem? (i := 284) (by decide +kernel), List.mem_of_getElem? (i := 830) (by decide +kernel), List.mem_of_getElem? (i := 831) (by decide +kernel)⟩
theorem lw_p19 : lw_okq (⟨"Cubecaller$Reckoner", "ofGathered", "(I)J"⟩, 14) := ⟨⟨by decide +kernel, by decide +kernel⟩, List.mem_of_getElem? (i := 284) (by decide +kernel), List.mem_of_getElem? (i := 850) (by decide +kernel), List.mem_of_getElem? (i := 851) (by decide +kernel)⟩
theorem lw_p20 : lw_okq (⟨"Cubecaller$Reckoner", "different", "()J"⟩, 14) := ⟨⟨by decide +kernel, by decide +kernel⟩, List.mem_of_getElem? (i := 284) (by decide +kernel), List.mem_of_getElem? (i := 870) (by decide +kernel), List.mem_of_getElem? (i := 871) (by decide +kernel)⟩
theorem lw_p21 : lw_okq (⟨"Cubecaller$Reckoner", "lastPlace", "()I"⟩, 14) := ⟨⟨by decide +kernel, by decide +kernel⟩, List.mem_of_getElem? (i := 284) (by decide +kernel), List.mem_of_getElem? (i := 875) (by decide +kernel), List.mem_of_getElem? (i := 876) (by decide +kernel)⟩
theorem lw_p22 : lw_okq (⟨"Cubecaller$Reckoner", "sum", "(I)J"⟩, 14) := ⟨⟨by decide +kernel, by decide +kernel⟩, List.mem_of_getElem? (i := 284) (by decide +kernel), List.mem_of_getElem? (i := 882) (by decide +kernel), List.mem_of_getElem? (i := 883) (by decide +kernel)⟩
theorem lw_p23 : lw_okq (⟨"Cubecaller$Reckoner", "formulaValue", "(III)J"⟩, 14) := ⟨⟨by decide +kernel, by decide +kernel⟩, List.mem_of_getElem? (i := 284) (by decide +kernel), List.mem_of_getElem? (i := 887) (by decide +kernel), List.mem_of_getElem? (i := 888) (by decide +kernel)⟩
theorem lw_p24 : lw_okq (⟨"Cubecaller$Reckoner", "toDate", "(II)J"⟩, 14) := ⟨⟨by decide +kernel, by decide +kernel⟩, List.mem_of_getElem? (i := 284) (by decide +kernel), List.mem_of_getElem? (i := 895) (by decide +kernel), List.mem_of_getElem? (i := 896) (by decide +kernel)⟩
theorem lw_p25 : lw_okq (⟨"Cubecaller$Reckoner", "back", "(III)J"⟩, 14) := ⟨⟨by decide +kernel, by decide +kernel⟩, List.mem_of_getElem? (i := 284) (by decide +kernel), List.mem_of_getElem? (i := 903) (by decide +kernel), List.mem_of_getElem? (i := 904) (by decide +kernel)⟩
theorem lw_p26 : lw_okq (⟨"Cubecaller$Reckoner", "rank", "(LCubecaller$Dimension;IIJ)V"⟩, 14) := ⟨⟨by decide +kernel, by decide +kernel⟩, List.mem_of_getElem? (i := 284) (by decide +kernel), List.mem_of_getElem? (i := 922) (by decide +kernel), List.mem_of_getElem? (i := 923) (by decide +kernel)⟩
theorem lw_p27 : lw_okq (⟨"Cubecaller$Spread", "leaveRest", "(J)V"⟩, 5) := ⟨⟨by decide +kernel, by decide +kernel⟩, List.mem_of_getElem? (i := 262) (by decide +kernel), List.mem_of_getElem? (i := 1087) (by decide +kernel), List.mem_of_getElem? (i := 1088) (by decide +kernel)⟩
theorem lw_p28 : lw_okq (⟨"Cubecaller$Spread", "byWeights", "(J)V"⟩, 5) := ⟨⟨by decide +kernel, by decide +kernel⟩, List.mem_of_getElem? (i := 262) (by decide +kernel), List.mem_of_getElem? (i := 1091) (by decide +kernel), List.mem_of_getElem? (i := 1092) (by decide +kernel)⟩
theorem lw_p29 : lw_okq (⟨"Cubecaller$Spread", "greatestRemainder", "()I"⟩, 5) := ⟨⟨by decide +kernel, by decide +kernel⟩, List.mem_of_getElem? (i := 262) (by decide +kernel), List.mem_of_getElem? (i := 1095) (by decide +kernel), List.mem_of_getElem? (i := 1096) (by decide +kernel)⟩
theorem lw_p30 : lw_okq (⟨"Cubecaller$Spread", "equally", "()V"⟩, 5) := ⟨⟨by decide +kernel, by decide +kernel⟩, List.mem_of_getElem? (i := 262) (by decide +kernel), List.mem_of_getElem? (i := 1100) (by decide +kernel), List.mem_of_getElem? (i := 1101) (by decide +kernel)⟩
theorem lw_p31 : lw_okq (⟨"Cubecaller", "writeShares", "()I"⟩, 7) := ⟨⟨by decide +kernel, by decide +kernel⟩, List.mem_of_getElem? (i := 23) (by decide +kernel), List.mem_of_getElem? (i := 1110) (by decide +kernel), List.mem_of_getElem? (i := 1111) (by decide +kernel)⟩
def lw_privs_2 : List (MethodName × Nat) := [(⟨"Cubecaller$Reckoner", "valueOf", "(II)J"⟩, 14), (⟨"Cubecaller$Reckoner", "plainValue", "(I)J"⟩, 14), (⟨"Cubecaller$Reckoner", "meansNothing", "(I)Z"⟩, 14), (⟨"Cubecaller$Reckoner", "ofGathered", "(I)J"⟩, 14), (⟨"Cubecaller$Reckoner", "different", "()J"⟩, 14), (⟨"Cubecaller$Reckoner", "lastPlace", "()I"⟩, 14), (⟨"Cubecaller$Reckoner", "sum", "(I)J"⟩, 14), (⟨"Cubecaller$Reckoner", "formulaValue", "(III)J"⟩, 14), (⟨"Cubecaller$Reckoner", "toDate", "(II)J"⟩, 14), (⟨"Cubecaller$Reckoner", "back", "(III)J"⟩, 14), (⟨"Cubecaller$Reckoner", "rank", "(LCubecaller$Dimension;IIJ)V"⟩, 14), (⟨"Cubecaller$Spread", "leaveRest", "(J)V"⟩, 5), (⟨"Cubecaller$Spread", "byWeights", "(J)V"⟩, 5), (⟨"Cubecaller$Spread", "greatestRemainder", "()I"⟩, 5), (⟨"Cubecaller$Spread", "equally", "()V"⟩, 5), (⟨"Cubecaller", "writeShares", "()I"⟩, 7)]
theorem lw_r2 : ∀ q ∈ lw_privs_2, lw_okq q := List.forall_mem_cons.mpr ⟨lw_p16, List.forall_mem_cons.mpr ⟨lw_p17, List.forall_mem_cons.mpr ⟨lw_p18, List.forall_mem_cons.mpr ⟨lw_p19, List.forall_mem_cons.mpr ⟨lw_p20, List.forall_mem_cons.mpr ⟨lw_p21, List.forall_mem_cons.mpr ⟨lw_p22, List.forall_mem_cons.mpr ⟨lw_p23, List.forall_mem_cons.mpr ⟨lw_p24, List.forall_mem_cons.mpr ⟨lw_p25, List.forall_mem_cons.mpr ⟨lw_p26, List.forall_mem_cons.mpr ⟨lw_p27, List.forall_mem_cons.mpr ⟨lw_p28, List.forall_mem_cons.mpr ⟨lw_p29, List.forall_mem_cons.mpr ⟨lw_p30, List.forall_mem_cons.mpr ⟨lw_p31, fun _ h => absurd h List.not_mem_nil⟩⟩⟩⟩⟩⟩⟩⟩⟩⟩⟩⟩⟩⟩⟩⟩
def lw_privs : List (MethodName × Nat) := lw_privs_1 ++ (lw_privs_2)
def lw_tbl : List Cond := k2_sels lw_privs ++ tables_1
theorem lw_privs_ok : ∀ q ∈ lw_privs, lw_okq q := by
  show ∀ q ∈ lw_privs_1 ++ (lw_privs_2), lw_okq q
  exact List.forall_mem_append.mpr ⟨lw_r1, lw_r2⟩
end
section
/-! ===== BEGIN words of one list among another's, by their places ===== -/
theorem goodIn_r {big : List Cond} (ws : List Cond) (ps : List Nat) (hp : ws = ps.filterMap (fun i => big[i]?)) (h : ws.all goodWord = true) : GoodIn big ws := by
  intro w hw
  have h1 := List.all_eq_true.mp h w hw
  rw [hp] at hw
  obtain ⟨i, -, hi⟩ := List.mem_filterMap.mp hw
  have hm : w ∈ big := by first | exact List.mem_of_getElem? hi | exact List.getElem?_mem hi
  exact ⟨hm, good_of_word h1⟩
theorem goodIn_app {big a b : List Cond} (ha : GoodIn big a) (hb : GoodIn big b) : GoodIn big (a ++ b) := fun w h => (List.mem_append.mp h).elim (ha w) (hb w)
theorem goodIn_ca {big a b : List Cond} {c : Cond} (ha : GoodIn big (c :: a)) (hb : GoodIn big b) : GoodIn big (c :: (a ++ b)) := fun w h => (List.mem_cons.mp h).elim (fun e => ha w (List.mem_cons.mpr (Or.inl e))) (fun h => (List.mem_append.mp h).elim (fun h => ha w (List.mem_cons.mpr (Or.inr h))) (hb w))
theorem goodIn_sub {big ws : List Cond} (hm : ∀ w ∈ ws, w ∈ big) (h : ws.all goodWord = true) : GoodIn big ws := fun w hw => ⟨hm w hw, good_of_word (List.all_eq_true.mp h w hw)⟩
/-! ===== END ===== -/
/-! ===== BEGIN exceptions that leave a method, and their catching by the caller (launches without stack traces) ===== -/
section VXA
/-! The laws vx_back, vx_callV, vx_callS, vx_callSW, vx_throw0, vx_throwS follow proofs of the library, with one case more: JvmDerived/Free/Laws.lean (Back.of_free), Shelf42/LK1.lean (callV, callS), Shelf/KitTraced.lean (throwNew0V, throwNewS). -/
/-- where a method has thrown q: the class by its name, the cell, what was written, the world -/
def vx_T (XC : String → State → State → Prop) (st : State) (q : Addr) (t : State) (mc ms : Nat) (free : Addr → Prop) : Prop :=
  ∃ (E : String) (ce : Cell) (L : List Loc), XC E st t ∧ t.heap[q]? = some ce ∧ ce.vm = .none ∧ st.vm.findClass E = some ce.cls ∧ st.WarmedH t.vm ∧ st.sameButNew ({ t with vm := st.vm } : State) L mc ms ∧ ∀ z ∈ L, free z.base
def vx_Q (Qc : Array Value → State → Outcome → State → Prop) (XC : String → State → State → Prop) (mc ms : Nat) (free : Addr → Prop) : Array Value → State → Outcome → State → Prop := fun a st o t =>
  (Qc a st o t ∧ ∃ L, FrameEnd st o t L mc ms ∧ ∀ q ∈ L, free q.base) ∨ ∃ q, o = .threw q ∧ vx_T XC st q t mc ms free
/-- a callee that returns or throws -/
def vx_Met (l : Launch) (y : MethodName) (ws : List Cond) (rm : Room) (Pc : Array Value → State → Prop) (Qc : Array Value → State → Outcome → State → Prop) (XC : String → State → State → Prop) (mc ms : Nat) (free : Addr → Prop) : Prop :=
  MetFree l y (headSpec ws rm) Pc (fun _ _ _ _ _ => True) (vx_Q Qc XC mc ms free)
def vx_Post (XC : String → State → State → Prop) (mc ms : Nat) (free : Addr → Prop) : Pt → Array Value → Addr → Pt → Prop := fun A a q B =>
  ∃ (g : JFrame) (mk : MethodId) (t : State) (L : List Loc) (E : String) (ce : Cell), B.U.heap = t.heap ∧ B.U.vm = t.vm ∧ XC E (A.U.calling g mk a) t ∧ t.heap[q]? = some ce ∧ ce.vm = .none ∧ A.U.vm.findClass E = some ce.cls ∧ B.locs = A.locs ++ L ∧ (∀ z ∈ L, free z.base) ∧ B.cells = A.cells + mc ∧ B.slots = A.slots + ms
def vx_Back (l : Launch) (R : Room) (p : Program) (e : Env) (below : List Frame) (s : State) (sargs : Array Value) (y : MethodName) (len W9 : Nat)
    (Pre : Pt → Array Value → Prop) (Post : Pt → Array Value → Option Value → Pt → Prop) (PostX : Pt → Array Value → Addr → Pt → Prop) : Prop :=
  ∀ (m : MethodId) (meth : Method) (c : Code) (A : Pt) (g : JFrame) (ig : Instr) (mk : MethodId) (a : Array Value),
    Stand p l e R s m sargs below meth c A.U A.locs A.cells A.slots → g.method = m → g.locals.size = c.maxLocals → decode c.code g.pc = .ok (ig, len) →
    2 * g.monitorRoom + (g.stack.map fun v => v.category).sum ≤ W9 → A.U.methodNamed? y = some mk → Pre A a →
    (∃ (v : Option Value) (B : Pt), Stand p l e R s m sargs below meth c B.U B.locs B.cells B.slots ∧ Post A a v B ∧
      Steps p.tables e below (doInvoke e (A.U.setTop g) [] mk a).1 (B.U.setTop { g with pc := g.pc + len, stack := v.toList ++ g.stack })) ∨
    (∃ (q : Addr) (B : Pt), Stand p l e R s m sargs below meth c B.U B.locs B.cells B.slots ∧ PostX A a q B ∧
      Steps p.tables e below (doInvoke e (A.U.setTop g) [] mk a).1 ((B.U.setTop g).pushFrame (.throwing q)))
section Payer
variable {l : Launch} {R : Room} {p : Program} {e : Env} {below : List Frame} {s : State} {sargs : Array Value} {y : MethodName} {len W9 : Nat}
theorem vx_back {ws : List Cond} {rm : Room} {Pc : Array Value → State → Prop} {Qc : Array Value → State → Outcome → State → Prop} {XC : String → State → State → Prop} {mc ms : Nat} {free : Addr → Prop} {bytes : ByteArray} {maxL : Nat} {ret : Option FieldType}
    (hM : vx_Met l y ws rm Pc Qc XC mc ms free) (hblind : FrameBlind Pc) (hrc : rm.cells = mc) (hrs : rm.slots = ms)
    (hframes : rm.frames + 1 ≤ R.frames) (hlocals : W9 + (maxL + 11) + rm.locals ≤ R.locals)
    (hws : ∀ w ∈ ws, ∀ a' U, s.WarmedH U.vm → w.before a' U = true) (hcode : Cond.code y bytes maxL ret ∈ ws) (hinit : ∀ a' U, s.WarmedH U.vm → (Cond.initialized y.cls).before a' U = true) :
    vx_Back l R p e below s sargs y len W9 (PreOf R mc ms Pc) (PostOf Qc mc ms free) (vx_Post XC mc ms free) := by
  intro m meth c A g ig mk a X hg hsize hdg hW hn hp
  have h1 : (headSpec ws rm).pre.before a A.U = true := atoms_intro fun w hw => hws w hw _ _ X.warmed
  have h2 : (Cond.code y bytes maxL ret).before a A.U = true := hws _ hcode _ _ X.warmed
  have h3 : (Cond.initialized y.cls).before a A.U = true := hinit _ _ X.warmed
  have h4 : A.cells + (headSpec ws rm).room.cells ≤ R.cells := by rw [show (headSpec ws rm).room.cells = mc from hrc]; exact hp.1
  have h5 : A.slots + (headSpec ws rm).room.slots ≤ R.slots := by rw [show (headSpec ws rm).room.slots = ms from hrs]; exact hp.2.1
  have hPc : Pc a (A.U.calling g mk a) := hblind _ _ _ _ hp.2.2
  obtain ⟨U, Ls, c0, s0⟩ := A
  dsimp only [Pt.U, Pt.locs, Pt.cells, Pt.slots] at h1 h2 h3 h4 h5 X hn hPc ⊢
  obtain ⟨methY, cY, hmY, hcY, -, hlY, -, -, -, -⟩ := Cond.code_spec hn h2
  obtain ⟨kY, hkY, -⟩ := className_of_methodNamed hn
  have hinitY : kY.init = .initialized := Cond.initialized_spec (findClass_of_methodNamed hn) hkY h3
  have h : At U g.method c below := by rw [hg]; exact X.here
  have hlocals9 : W9 + (maxL + 11) + (headSpec ws rm).room.locals ≤ R.locals := hlocals
  have happ : (headSpec ws rm).appliesLoose y e.platform (U.calling g mk a) = true :=
    Spec.appliesLoose_calling (g := g) h hdg hn hkY hinitY
      (X.room_calling (g := g) (R' := (headSpec ws rm).room) hsize hmY hcY hframes (by rw [hlY]; omega) h4 h5) h1
  obtain ⟨mid, hmid⟩ := h.above
  have hfr : (U.setTop g).frames = (.java g :: mid) ++ below := by rw [State.frames_setTop' g h.top, hmid]; rfl
  obtain ⟨o, s₂, hsteps, -, hend, hq⟩ := Steps.callFree hM p X.admits X.cas X.clock (acts := []) hfr happ hPc trivial
  have hq' : vx_Q Qc XC mc ms free a (U.calling g mk a) o s₂ := hq
  rw [State.frames_setTop' g h.top] at hend
  obtain ⟨g₀, hg0⟩ := Option.isSome_iff_exists.mp h.top
  obtain ⟨r, hr⟩ := State.topJava?_eq_some.mp hg0
  have hr' : (({ U with heap := s₂.heap, slotsUsed := s₂.slotsUsed } : State).setVm s₂.vm).frames = .java g₀ :: r := hr
  rcases hq' with ⟨hqc, L, hfe, hL⟩ | ⟨q, rfl, E, ce, L, hx, hce, hcv, hcl, hW₂, hsm, hL⟩
  · obtain ⟨⟨v, rfl⟩, hW₂, e2, q2, q3, q4, q5, q6⟩ := id hfe
    have e3 : s₂ = ({ (U.calling g mk a).setFrames s₂.frames with heap := s₂.heap, slotsUsed := s₂.slotsUsed } : State).setVm s₂.vm := by
      have : s₂ = ({ s₂ with vm := (U.calling g mk a).vm } : State).setVm s₂.vm := rfl
      rw [e2] at this
      exact this
    obtain ⟨c₂, i₂, len₂, hc₂, hd₂, hf₂⟩ := hend
    have hW' : U.WarmedH s₂.vm := hW₂
    have hcc : c₂ = c := by
      have h1 : s₂.code? g.method = U.code? g.method := by
        rw [State.code?_eq, State.code?_eq, hW'.alike.method?]
      exact Option.some.inj (hc₂.symm.trans (h1.trans h.code))
    subst hcc
    have hlen : len₂ = len := by rw [hdg] at hd₂; cases hd₂; rfl
    subst hlen
    have hs₂ : s₂ = (({ U with heap := s₂.heap, slotsUsed := s₂.slotsUsed } : State).setVm s₂.vm).setTop { g with pc := g.pc + len₂, stack := v.toList ++ g.stack } := by
      refine e3.trans ?_
      rw [hf₂, State.calling_eq h.top, State.setFrames_setFrames, State.setTop_of_frames _ hr', hr]
      rfl
    have hsame : U.sameButNew ({ U with heap := s₂.heap, slotsUsed := s₂.slotsUsed } : State) L mc ms := by
      refine ⟨?_, q2, q3, q4, q5, q6⟩
      obtain ⟨t, ht, -⟩ := State.frames_cons hr
      show ({ U with heap := s₂.heap, slotsUsed := s₂.slotsUsed } : State) = { U.setFrames U.frames with heap := s₂.heap, slotsUsed := s₂.slotsUsed }
      rw [State.setFrames_self ht]
    subst hg
    refine Or.inl ⟨v, ⟨(({ U with heap := s₂.heap, slotsUsed := s₂.slotsUsed } : State).setVm s₂.vm), Ls ++ L, c0 + mc, s0 + ms⟩,
      ⟨X.admits, X.cas, X.clock, X.frames, X.room, X.hears, X.method, X.code, (X.here.setHeapUsed s₂.heap s₂.slotsUsed).setVm hW'.alike, X.tail, State.WarmedH.trans X.warmed hW', X.limits, X.bytes, X.same.trans (hsame.setVm s.vm)⟩,
      ⟨g, mk, s₂, L, rfl, rfl, hqc, rfl, hL, rfl, rfl⟩, ?_⟩
    show Steps p.tables e below _ ((({ U with heap := s₂.heap, slotsUsed := s₂.slotsUsed } : State).setVm s₂.vm).setTop { g with pc := g.pc + len₂, stack := v.toList ++ g.stack })
    rw [← hs₂]
    exact hsteps
  · obtain ⟨e2, q2, q3, q4, q5, q6⟩ := id hsm
    have e3 : s₂ = ({ (U.calling g mk a).setFrames s₂.frames with heap := s₂.heap, slotsUsed := s₂.slotsUsed } : State).setVm s₂.vm := by
      have : s₂ = ({ s₂ with vm := (U.calling g mk a).vm } : State).setVm s₂.vm := rfl
      rw [e2] at this
      exact this
    have hf₂ : s₂.frames = .throwing q :: .java g :: U.frames.tail := hend
    have hW' : U.WarmedH s₂.vm := hW₂
    have hs₂ : s₂ = ((({ U with heap := s₂.heap, slotsUsed := s₂.slotsUsed } : State).setVm s₂.vm).setTop g).pushFrame (.throwing q) := by
      refine e3.trans ?_
      rw [hf₂, State.calling_eq h.top, State.setFrames_setFrames, State.pushFrame, State.frames_setTop _ hr', State.setTop_of_frames _ hr', State.setFrames_setFrames, hr]
      rfl
    have hsame : U.sameButNew ({ U with heap := s₂.heap, slotsUsed := s₂.slotsUsed } : State) L mc ms := by
      refine ⟨?_, q2, q3, q4, q5, q6⟩
      obtain ⟨t, ht, -⟩ := State.frames_cons hr
      show ({ U with heap := s₂.heap, slotsUsed := s₂.slotsUsed } : State) = { U.setFrames U.frames with heap := s₂.heap, slotsUsed := s₂.slotsUsed }
      rw [State.setFrames_self ht]
    subst hg
    refine Or.inr ⟨q, ⟨(({ U with heap := s₂.heap, slotsUsed := s₂.slotsUsed } : State).setVm s₂.vm), Ls ++ L, c0 + mc, s0 + ms⟩,
      ⟨X.admits, X.cas, X.clock, X.frames, X.room, X.hears, X.method, X.code, (X.here.setHeapUsed s₂.heap s₂.slotsUsed).setVm hW'.alike, X.tail, State.WarmedH.trans X.warmed hW', X.limits, X.bytes, X.same.trans (hsame.setVm s.vm)⟩,
      ⟨g, mk, s₂, L, E, ce, rfl, rfl, hx, hce, hcv, hcl, rfl, hL, rfl, rfl⟩, ?_⟩
    show Steps p.tables e below _ (((({ U with heap := s₂.heap, slotsUsed := s₂.slotsUsed } : State).setVm s₂.vm).setTop g).pushFrame (.throwing q))
    rw [← hs₂]
    exact hsteps
end Payer
section Calls
variable {p : Program} {l : Launch} {e : Env} {R : Room} {s : State} {m : MethodId} {args : Array Value} {below : List Frame} {meth : Method} {c : Code} {T : State} {locs : List Loc} {cells slots : Nat}
theorem vx_callV (X : Stand p l e R s m args below meth c T locs cells slots) (hexec : p.tables.exec = Jvm.exec) {own C : String} {index : Nat} {y : MethodName} {bytes : ByteArray} {maxL : Nat} {ret : Option FieldType}
    (hown : s.vm.findClass own = some m.cls) (hlink : (Cond.methodLink own index y).before args s = true) (hinst : (Cond.instanceMethod y).before args s = true) (hsel : (Cond.selects C y y).before args s = true)
    (hcode : (Cond.code y bytes maxL ret).before args s = true) (hy : y.cls ≠ "java/lang/invoke/MethodHandle" ∧ y.cls ≠ "java/lang/invoke/VarHandle")
    {W9 : Nat} {Pre : Pt → Array Value → Prop} {Post : Pt → Array Value → Option Value → Pt → Prop} {PostX : Pt → Array Value → Addr → Pt → Prop} (hK : vx_Back l R p e below s args y 3 W9 Pre Post PostX)
    {b : Addr} {cellB : Cell} (hcell : T.heap[b]? = some cellB) (hobj : cellB.vm.isStatics = false) (hcls : s.vm.findClass C = some cellB.cls)
    {g : JFrame} (hg : g.method = m) (hsize : g.locals.size = c.maxLocals) {argsL rest : List Value} (hlen : ∀ sig, parseMethodDescriptor y.desc = some sig → argsL.length = sig.parameters.length)
    (hstack : g.stack = argsL.reverse ++ .ref b :: rest) (hW : 2 * g.monitorRoom + (rest.map fun v => v.category).sum ≤ W9) (hdg : decode c.code g.pc = .ok (.invokevirtual index, 3))
    (hpre : ∀ vm₁, s.WarmedH vm₁ → Pre ⟨T.setVm vm₁, locs, cells, slots⟩ (Value.ref b :: argsL).toArray) :
    (∃ (v : Option Value) (vm₁ : Vm) (B : Pt), s.WarmedH vm₁ ∧ Stand p l e R s m args below meth c B.U B.locs B.cells B.slots ∧ Post ⟨T.setVm vm₁, locs, cells, slots⟩ (Value.ref b :: argsL).toArray v B ∧
      ∀ target, Steps p.tables e below (B.U.setTop { g with pc := g.pc + 3, stack := v.toList ++ rest }) target → Steps p.tables e below (T.setTop g) target) ∨
    (∃ (q : Addr) (vm₁ : Vm) (B : Pt), s.WarmedH vm₁ ∧ Stand p l e R s m args below meth c B.U B.locs B.cells B.slots ∧ PostX ⟨T.setVm vm₁, locs, cells, slots⟩ (Value.ref b :: argsL).toArray q B ∧
      Steps p.tables e below (T.setTop g) ((B.U.setTop { g with stack := rest }).pushFrame (.throwing q))) := by
  obtain ⟨mk, methM, hnamed, hmethM, hstM, habM⟩ := Cond.instanceMethod_spec hinst
  obtain ⟨methM', cM, hmethM', -, -, -, -, -, -, hsigM⟩ := Cond.code_spec hnamed hcode
  cases hmethM.symm.trans hmethM'
  obtain ⟨c2, r2, m2, q1, q2, q3, q4, kP, hkP, hkPi⟩ := Cond.selects_spec hsel
  cases hcls.symm.trans q1
  cases (State.methodFound?_of_named hnamed hy).symm.trans q2
  cases hnamed.symm.trans q3
  have hselP : selectMethod e.platform s.vm cellB.cls mk = .method mk := by rw [Launch.admits_selectMethod X.admits]; exact q4
  obtain ⟨vm₁, X₁, hstep₁⟩ := X.invokevirtual hexec hown hlink hnamed hmethM hstM hkP hkPi hy (a := b) (cell := cellB) hcell
    (fun z h => by rw [h] at hobj; cases hobj) hselP hmethM habM hkP hkPi (g := g) hg (argsL := argsL) (rest := rest) (hlen _ hsigM) hstack hdg
  rcases hK m meth c ⟨T.setVm vm₁, locs, cells, slots⟩ { g with stack := rest } (.invokevirtual index) mk (Value.ref b :: argsL).toArray X₁ hg hsize hdg hW (X₁.named hnamed) (hpre vm₁ X₁.warmed) with ⟨v, B, X', hpost, hsteps⟩ | ⟨q, B, X', hpost, hsteps⟩
  · exact Or.inl ⟨v, vm₁, B, X₁.warmed, X', hpost, fun target h => hstep₁ _ fun acts => by rw [doInvoke_state]; exact hsteps.trans h⟩
  · exact Or.inr ⟨q, vm₁, B, X₁.warmed, X', hpost, hstep₁ _ fun acts => by rw [doInvoke_state]; exact hsteps⟩
theorem vx_callS (X : Stand p l e R s m args below meth c T locs cells slots) (hexec : p.tables.exec = Jvm.exec) {own : String} {index : Nat} {y : MethodName} {bytes : ByteArray} {maxL : Nat} {ret : Option FieldType}
    (hown : s.vm.findClass own = some m.cls) (hlink : (Cond.methodLink own index y).before args s = true) (hstat : (Cond.static y).before args s = true) (hinit : (Cond.initialized y.cls).before args s = true)
    (hcode : (Cond.code y bytes maxL ret).before args s = true) (hy : y.cls ≠ "java/lang/invoke/MethodHandle" ∧ y.cls ≠ "java/lang/invoke/VarHandle")
    {W9 : Nat} {Pre : Pt → Array Value → Prop} {Post : Pt → Array Value → Option Value → Pt → Prop} {PostX : Pt → Array Value → Addr → Pt → Prop} (hK : vx_Back l R p e below s args y 3 W9 Pre Post PostX)
    {g : JFrame} (hg : g.method = m) (hsize : g.locals.size = c.maxLocals) {argsL rest : List Value} (hlen : ∀ sig, parseMethodDescriptor y.desc = some sig → argsL.length = sig.parameters.length)
    (hstack : g.stack = argsL.reverse ++ rest) (hW : 2 * g.monitorRoom + (rest.map fun v => v.category).sum ≤ W9) (hdg : decode c.code g.pc = .ok (.invokestatic index, 3))
    (hpre : ∀ vm₁, s.WarmedH vm₁ → Pre ⟨T.setVm vm₁, locs, cells, slots⟩ argsL.toArray) :
    (∃ (v : Option Value) (vm₁ : Vm) (B : Pt), s.WarmedH vm₁ ∧ Stand p l e R s m args below meth c B.U B.locs B.cells B.slots ∧ Post ⟨T.setVm vm₁, locs, cells, slots⟩ argsL.toArray v B ∧
      ∀ target, Steps p.tables e below (B.U.setTop { g with pc := g.pc + 3, stack := v.toList ++ rest }) target → Steps p.tables e below (T.setTop g) target) ∨
    (∃ (q : Addr) (vm₁ : Vm) (B : Pt), s.WarmedH vm₁ ∧ Stand p l e R s m args below meth c B.U B.locs B.cells B.slots ∧ PostX ⟨T.setVm vm₁, locs, cells, slots⟩ argsL.toArray q B ∧
      Steps p.tables e below (T.setTop g) ((B.U.setTop { g with stack := rest }).pushFrame (.throwing q))) := by
  obtain ⟨mk, hnamed⟩ := Cond.code_named hcode
  obtain ⟨methM, cM, hmethM, -, -, -, -, -, -, hsigM⟩ := Cond.code_spec hnamed hcode
  have hstatic : methM.isStatic = true := Cond.static_spec hnamed hmethM hstat
  obtain ⟨kP, hkP, -⟩ := className_of_methodNamed hnamed
  have hinitP : kP.init = .initialized := Cond.initialized_spec (findClass_of_methodNamed hnamed) hkP hinit
  obtain ⟨vm₁, X₁, hstep₁⟩ := X.invokestatic hexec hown hlink hnamed hmethM hstatic hkP hinitP hy (g := g) hg (argsL := argsL) (rest := rest) (hlen _ hsigM) hstack hdg
  rcases hK m meth c ⟨T.setVm vm₁, locs, cells, slots⟩ { g with stack := rest } (.invokestatic index) mk argsL.toArray X₁ hg hsize hdg hW (X₁.named hnamed) (hpre vm₁ X₁.warmed) with ⟨v, B, X', hpost, hsteps⟩ | ⟨q, B, X', hpost, hsteps⟩
  · exact Or.inl ⟨v, vm₁, B, X₁.warmed, X', hpost, fun target h => hstep₁ _ fun acts => by rw [doInvoke_state]; exact hsteps.trans h⟩
  · exact Or.inr ⟨q, vm₁, B, X₁.warmed, X', hpost, hstep₁ _ fun acts => by rw [doInvoke_state]; exact hsteps⟩
end Calls
theorem vx_cls {s : State} {T : State} {vm₁ : Vm} {E : String} {k : ClassId} (hW : s.WarmedH vm₁) (h : (T.setVm vm₁).vm.findClass E = some k) : s.vm.findClass E = some k := by
  have h1 : vm₁.findClass E = some k := h
  rw [hW.alike.findClass] at h1
  exact h1
/-- the method's frame g, with q thrown over it -/
def vx_W (p : Program) (l : Launch) (e : Env) (R : Room) (s : State) (m : MethodId) (args : Array Value) (below : List Frame) (meth : Method) (c : Code) (H : Heap) (locs : List Loc) (cells slots : Nat) (Q : State → Prop) (g : JFrame) (q : Addr) : Prop :=
  ∀ T : State, T.heap = H → Stand p l e R s m args below meth c T locs cells slots → ∃ t, Steps p.tables e below ((T.setTop g).pushFrame (.throwing q)) t ∧ Q t
def vx_Run (p : Program) (l : Launch) (e : Env) (R : Room) (s : State) (m : MethodId) (args : Array Value) (below : List Frame) (meth : Method) (c : Code) (H : Heap) (locs : List Loc) (cells slots mc ms : Nat) (g : JFrame) (rest : List Value) (Qa : State → Outcome → State → Prop) (XC : String → State → State → Prop) (free : Addr → Prop) : Prop :=
  ∀ T : State, T.heap = H → Stand p l e R s m args below meth c T locs cells slots →
    (∃ (v : Option Value) (st₀ t T' : State) (L : List Loc), st₀.heap = H ∧ Stand p l e R s m args below meth c T' (locs ++ L) (cells + mc) (slots + ms) ∧ (∀ q ∈ L, free q.base) ∧ T'.heap = t.heap ∧ T'.vm = t.vm ∧ Qa st₀ (.returned v) t ∧
      Goes p e below T g T' { g with pc := g.pc + 3, stack := v.toList ++ rest }) ∨
    (∃ (q : Addr) (st₀ t T' : State) (L : List Loc) (E : String) (ce : Cell), st₀.heap = H ∧ Stand p l e R s m args below meth c T' (locs ++ L) (cells + mc) (slots + ms) ∧ (∀ z ∈ L, free z.base) ∧ T'.heap = t.heap ∧ T'.vm = t.vm ∧ XC E st₀ t ∧ t.heap[q]? = some ce ∧ ce.vm = .none ∧ s.vm.findClass E = some ce.cls ∧
      Steps p.tables e below (T.setTop g) ((T'.setTop { g with stack := rest }).pushFrame (.throwing q)))
def vx_X {S : Type} (px : S → Prop) (B : String → S → State → Prop) (A : Nat → Prop) : String → State → State → Prop := fun E st t => ∃ u : S, px u ∧ B E u t ∧ va_F A st t
section Runs
variable {p : Program} {l : Launch} {e : Env} {R : Room} {s : State} {m : MethodId} {args : Array Value} {below : List Frame} {meth : Method} {c : Code} {H : Heap} {locs : List Loc} {cells slots : Nat}
variable {y : MethodName} {bytes cc : ByteArray} {maxL nL mc ms n index : Nat} {ret : Option FieldType} {ws : List Cond} {rm : Room} {Pc : Array Value → State → Prop} {Qc : Array Value → State → Outcome → State → Prop} {XC : String → State → State → Prop} {free : Addr → Prop} {Ts : List Cond} {own C : String} {b : Addr} {As rest : List Value} {g : JFrame}
theorem vx_callBack (cb : CallB R s args own index y bytes maxL ret ws rm mc ms n) (hM : vx_Met l y ws rm Pc Qc XC mc ms free) (hbl : FrameBlind Pc) : vx_Back l R p e below s args y 3 8 (PreOf R mc ms Pc) (PostOf Qc mc ms free) (vx_Post XC mc ms free) := by
  obtain ⟨hrc, hrs, hfr, hlo, hws, hcw, -, hini, -⟩ := cb
  exact vx_back (bytes := bytes) (maxL := maxL) (ret := ret) hM hbl hrc hrs hfr hlo hws hcw (fun a' U hW => word_at hW (Or.inl (by first | rfl | simp [Cond.onTables, Cond.keeps, Cond.steady])) hini)
theorem vx_runV (S : CallFix p m c cc nL s args Ts own) (hM : vx_Met l y ws rm Pc Qc XC mc ms free) (cw : CallW R s args own C index y bytes maxL ret ws rm mc ms n) (hp : PreV s H C b Pc As)
    (hg : g.method = m) (hn : As.length = n) (hsize : g.locals.size = nL) (hstack : g.stack = As.reverse ++ .ref b :: rest) (hW : 2 * g.monitorRoom + (rest.map fun v => v.category).sum ≤ 8) (hdg : decode cc g.pc = .ok (.invokevirtual index, 3)) (hf : cells + mc ≤ R.cells ∧ slots + ms ≤ R.slots) :
    vx_Run p l e R s m args below meth c H locs cells slots mc ms g rest (Qc (Value.ref b :: As).toArray) XC free := by
  have hK : vx_Back l R p e below s args y 3 8 (PreOf R mc ms Pc) (PostOf Qc mc ms free) (vx_Post XC mc ms free) := vx_callBack cw.1 hM hp.1
  obtain ⟨⟨-, -, -, -, -, -, hcode, -, hy, hlen, hl⟩, hin, hse⟩ := cw
  obtain ⟨hx, hb, hml, ho, -⟩ := S
  obtain ⟨-, ⟨cellB, hcB, hoB, hclB⟩, hPc⟩ := hp
  intro T hT X
  rcases vx_callV X hx (C := C) (bytes := bytes) (maxL := maxL) (ret := ret) ho hl hin hse hcode hy hK (by rw [hT]; exact hcB) hoB hclB hg (hsize.trans hml.symm) (argsL := As) (rest := rest) (fun sig h => hn.trans (hlen sig h)) hstack hW (by rw [hb]; exact hdg)
    (fun vm₁ hW₁ => ⟨hf.1, hf.2, hPc (T.setVm vm₁) hT hW₁⟩) with ⟨v, vm₁, ⟨U', l2, c2, s2⟩, hW₁, X', ⟨g', mk, t, L, e1, e2, hq, h1, hL, h2, h3⟩, st⟩ | ⟨q, vm₁, ⟨U', l2, c2, s2⟩, hW₁, X', ⟨g', mk, t, L, E, ce, e1, e2, hq, hce, hcv, hcl, h1, hL, h2, h3⟩, st⟩
  · dsimp only [Pt.U, Pt.locs, Pt.cells, Pt.slots] at X' e1 e2 h1 h2 h3 st
    subst h1; subst h2; subst h3
    exact Or.inl ⟨v, (T.setVm vm₁).calling g' mk (Value.ref b :: As).toArray, t, U', L, hT, X', hL, e1, e2, hq, st⟩
  · dsimp only [Pt.U, Pt.locs, Pt.cells, Pt.slots] at X' e1 e2 h1 h2 h3 st hcl
    subst h1; subst h2; subst h3
    exact Or.inr ⟨q, (T.setVm vm₁).calling g' mk (Value.ref b :: As).toArray, t, U', L, E, ce, hT, X', hL, e1, e2, hq, hce, hcv, vx_cls hW₁ hcl, st⟩
theorem vx_runS (S : CallFix p m c cc nL s args Ts own) (hM : vx_Met l y ws rm Pc Qc XC mc ms free) (cw : CallB R s args own index y bytes maxL ret ws rm mc ms n ∧ (Cond.static y).before args s = true) (hp : PreS s H Pc As)
    (hg : g.method = m) (hn : As.length = n) (hsize : g.locals.size = nL) (hstack : g.stack = As.reverse ++ rest) (hW : 2 * g.monitorRoom + (rest.map fun v => v.category).sum ≤ 8) (hdg : decode cc g.pc = .ok (.invokestatic index, 3)) (hf : cells + mc ≤ R.cells ∧ slots + ms ≤ R.slots) :
    vx_Run p l e R s m args below meth c H locs cells slots mc ms g rest (Qc As.toArray) XC free := by
  have hK : vx_Back l R p e below s args y 3 8 (PreOf R mc ms Pc) (PostOf Qc mc ms free) (vx_Post XC mc ms free) := vx_callBack cw.1 hM hp.1
  obtain ⟨⟨-, -, -, -, -, -, hcode, hini, hy, hlen, hl⟩, hstt⟩ := cw
  obtain ⟨hx, hb, hml, ho, -⟩ := S
  intro T hT X
  rcases vx_callS X hx (bytes := bytes) (maxL := maxL) (ret := ret) ho hl hstt hini hcode hy hK hg (hsize.trans hml.symm) (argsL := As) (rest := rest) (fun sig h => hn.trans (hlen sig h)) hstack hW (by rw [hb]; exact hdg)
    (fun vm₁ hW₁ => ⟨hf.1, hf.2, hp.2 (T.setVm vm₁) hT hW₁⟩) with ⟨v, vm₁, ⟨U', l2, c2, s2⟩, hW₁, X', ⟨g', mk, t, L, e1, e2, hq, h1, hL, h2, h3⟩, st⟩ | ⟨q, vm₁, ⟨U', l2, c2, s2⟩, hW₁, X', ⟨g', mk, t, L, E, ce, e1, e2, hq, hce, hcv, hcl, h1, hL, h2, h3⟩, st⟩
  · dsimp only [Pt.U, Pt.locs, Pt.cells, Pt.slots] at X' e1 e2 h1 h2 h3 st
    subst h1; subst h2; subst h3
    exact Or.inl ⟨v, (T.setVm vm₁).calling g' mk As.toArray, t, U', L, hT, X', hL, e1, e2, hq, st⟩
  · dsimp only [Pt.U, Pt.locs, Pt.cells, Pt.slots] at X' e1 e2 h1 h2 h3 st hcl
    subst h1; subst h2; subst h3
    exact Or.inr ⟨q, (T.setVm vm₁).calling g' mk As.toArray, t, U', L, E, ce, hT, X', hL, e1, e2, hq, hce, hcv, vx_cls hW₁ hcl, st⟩
end Runs
section Rows
variable {p : Program} {l : Launch} {e : Env} {R : Room} {s : State} {m : MethodId} {args : Array Value} {below : List Frame} {meth : Method} {c : Code} {H : Heap} {locs : List Loc} {cells slots : Nat} {Q : State → Prop}
variable {mc ms : Nat} {free : Addr → Prop} {A0 A1 : Nat → Prop} {H0 : Heap} {a : Array Value} {pc : Nat} {ls : Array Slot} {st0 rest : List Value}
theorem vx_keep {st₀ t T' : State} {L : List Loc} (h0 : st₀.heap = H) (e1 : T'.heap = t.heap) (hS : va_S A0 H0 H locs) (hA : ∀ q, q < H.size → A1 q → A0 q) (hf : ∀ q, free q → A0 q) (hL : ∀ q ∈ L, free q.base) (hF : va_F A1 st₀ t) :
    H.size ≤ T'.heap.size ∧ (∀ q : Nat, q < H.size → ¬ A1 q → T'.heap[q]? = H[q]?) ∧ va_S A0 H0 T'.heap (locs ++ L) := by
  obtain ⟨hz, hk⟩ := hF
  rw [h0] at hz hk
  exact ⟨by rw [e1]; exact hz, fun q h1 h2 => by rw [e1]; exact hk q h1 h2,
    ⟨Nat.le_trans hS.1 (by rw [e1]; exact hz), fun q h1 h2 => by rw [e1, hk q (Nat.lt_of_lt_of_le h1 hS.1) (fun z => h2 (hA q (Nat.lt_of_lt_of_le h1 hS.1) z))]; exact hS.2.1 q h1 h2, fun q hq => by
      rcases List.mem_append.mp hq with h | h
      · exact hS.2.2 q h
      · exact hf _ (hL q h)⟩⟩
theorem vx_calli {S SX : Type} {post : Int32 → S → Prop} {px : SX → Prop} {B : S → State → Prop} {BX : String → SX → State → Prop} {AX : Nat → Prop} (hr : vx_Run p l e R s m args below meth c H locs cells slots mc ms (F0 m pc ls st0) rest (va_Qi post B A1 a) (vx_X px BX AX) free) (hS : va_S A0 H0 H locs) (hA : ∀ q, q < H.size → A1 q → A0 q) (hf : ∀ q, free q → A0 q) (hAX : ∀ q, q < H.size → AX q → A0 q)
    (kx : ∀ (E : String) (ce : Cell) (q9 : Addr) (u : SX) (t : State) (H1 : Heap) (locs1 : List Loc), t.heap = H1 → s.vm.Alike t.vm → px u → BX E u t → H.size ≤ H1.size → (∀ q : Nat, q < H.size → ¬ AX q → H1[q]? = H[q]?) → va_S A0 H0 H1 locs1 → H1[q9]? = some ce → ce.vm = .none → s.vm.findClass E = some ce.cls → vx_W p l e R s m args below meth c H1 locs1 (cells + mc) (slots + ms) Q (F0 m pc ls rest) q9)
    (kk : ∀ (r : Int32) (u : S) (t : State) (H1 : Heap) (locs1 : List Loc), t.heap = H1 → s.vm.Alike t.vm → post r u → B u t → H.size ≤ H1.size → (∀ q : Nat, q < H.size → ¬ A1 q → H1[q]? = H[q]?) → va_S A0 H0 H1 locs1 → W p l e R s m args below meth c H1 locs1 (cells + mc) (slots + ms) Q (F0 m (pc + 3) ls (.int r :: rest))) : W p l e R s m args below meth c H locs cells slots Q (F0 m pc ls st0) := by
  intro T hT X
  rcases hr T hT X with ⟨v, st₀, t, T', L, h0, X', hL, e1, e2, ⟨⟨r, u, hv, hp, hb⟩, hF⟩, st⟩ | ⟨q, st₀, t, T', L, E, ce, h0, X', hL, e1, e2, ⟨u, hp, hb, hF⟩, hce, hcv, hcl, st⟩
  · cases hv
    obtain ⟨k1, k2, k3⟩ := vx_keep h0 e1 hS hA hf hL hF
    obtain ⟨t2, a1, b1⟩ := kk r u t T'.heap (locs ++ L) e1.symm (by rw [← e2]; exact X'.warmed.alike) hp hb k1 k2 k3 T' rfl X'
    exact ⟨t2, st t2 a1, b1⟩
  · obtain ⟨k1, k2, k3⟩ := vx_keep h0 e1 hS hAX hf hL hF
    obtain ⟨t2, a1, b1⟩ := kx E ce q u t T'.heap (locs ++ L) e1.symm (by rw [← e2]; exact X'.warmed.alike) hp hb k1 k2 k3 (by rw [e1]; exact hce) hcv hcl T' rfl X'
    exact ⟨t2, st.trans a1, b1⟩
theorem vx_calll {S SX : Type} {post : Int64 → S → Prop} {px : SX → Prop} {B : S → State → Prop} {BX : String → SX → State → Prop} {AX : Nat → Prop} (hr : vx_Run p l e R s m args below meth c H locs cells slots mc ms (F0 m pc ls st0) rest (va_Ql post B A1 a) (vx_X px BX AX) free) (hS : va_S A0 H0 H locs) (hA : ∀ q, q < H.size → A1 q → A0 q) (hf : ∀ q, free q → A0 q) (hAX : ∀ q, q < H.size → AX q → A0 q)
    (kx : ∀ (E : String) (ce : Cell) (q9 : Addr) (u : SX) (t : State) (H1 : Heap) (locs1 : List Loc), t.heap = H1 → s.vm.Alike t.vm → px u → BX E u t → H.size ≤ H1.size → (∀ q : Nat, q < H.size → ¬ AX q → H1[q]? = H[q]?) → va_S A0 H0 H1 locs1 → H1[q9]? = some ce → ce.vm = .none → s.vm.findClass E = some ce.cls → vx_W p l e R s m args below meth c H1 locs1 (cells + mc) (slots + ms) Q (F0 m pc ls rest) q9)
    (kk : ∀ (r : Int64) (u : S) (t : State) (H1 : Heap) (locs1 : List Loc), t.heap = H1 → s.vm.Alike t.vm → post r u → B u t → H.size ≤ H1.size → (∀ q : Nat, q < H.size → ¬ A1 q → H1[q]? = H[q]?) → va_S A0 H0 H1 locs1 → W p l e R s m args below meth c H1 locs1 (cells + mc) (slots + ms) Q (F0 m (pc + 3) ls (.long r :: rest))) : W p l e R s m args below meth c H locs cells slots Q (F0 m pc ls st0) := by
  intro T hT X
  rcases hr T hT X with ⟨v, st₀, t, T', L, h0, X', hL, e1, e2, ⟨⟨r, u, hv, hp, hb⟩, hF⟩, st⟩ | ⟨q, st₀, t, T', L, E, ce, h0, X', hL, e1, e2, ⟨u, hp, hb, hF⟩, hce, hcv, hcl, st⟩
  · cases hv
    obtain ⟨k1, k2, k3⟩ := vx_keep h0 e1 hS hA hf hL hF
    obtain ⟨t2, a1, b1⟩ := kk r u t T'.heap (locs ++ L) e1.symm (by rw [← e2]; exact X'.warmed.alike) hp hb k1 k2 k3 T' rfl X'
    exact ⟨t2, st t2 a1, b1⟩
  · obtain ⟨k1, k2, k3⟩ := vx_keep h0 e1 hS hAX hf hL hF
    obtain ⟨t2, a1, b1⟩ := kx E ce q u t T'.heap (locs ++ L) e1.symm (by rw [← e2]; exact X'.warmed.alike) hp hb k1 k2 k3 (by rw [e1]; exact hce) hcv hcl T' rfl X'
    exact ⟨t2, st.trans a1, b1⟩
theorem vx_callf {S SX : Type} {post : UInt32 → S → Prop} {px : SX → Prop} {B : S → State → Prop} {BX : String → SX → State → Prop} {AX : Nat → Prop} (hr : vx_Run p l e R s m args below meth c H locs cells slots mc ms (F0 m pc ls st0) rest (va_Qf post B A1 a) (vx_X px BX AX) free) (hS : va_S A0 H0 H locs) (hA : ∀ q, q < H.size → A1 q → A0 q) (hf : ∀ q, free q → A0 q) (hAX : ∀ q, q < H.size → AX q → A0 q)
    (kx : ∀ (E : String) (ce : Cell) (q9 : Addr) (u : SX) (t : State) (H1 : Heap) (locs1 : List Loc), t.heap = H1 → s.vm.Alike t.vm → px u → BX E u t → H.size ≤ H1.size → (∀ q : Nat, q < H.size → ¬ AX q → H1[q]? = H[q]?) → va_S A0 H0 H1 locs1 → H1[q9]? = some ce → ce.vm = .none → s.vm.findClass E = some ce.cls → vx_W p l e R s m args below meth c H1 locs1 (cells + mc) (slots + ms) Q (F0 m pc ls rest) q9)
    (kk : ∀ (r : UInt32) (u : S) (t : State) (H1 : Heap) (locs1 : List Loc), t.heap = H1 → s.vm.Alike t.vm → post r u → B u t → H.size ≤ H1.size → (∀ q : Nat, q < H.size → ¬ A1 q → H1[q]? = H[q]?) → va_S A0 H0 H1 locs1 → W p l e R s m args below meth c H1 locs1 (cells + mc) (slots + ms) Q (F0 m (pc + 3) ls (.float r :: rest))) : W p l e R s m args below meth c H locs cells slots Q (F0 m pc ls st0) := by
  intro T hT X
  rcases hr T hT X with ⟨v, st₀, t, T', L, h0, X', hL, e1, e2, ⟨⟨r, u, hv, hp, hb⟩, hF⟩, st⟩ | ⟨q, st₀, t, T', L, E, ce, h0, X', hL, e1, e2, ⟨u, hp, hb, hF⟩, hce, hcv, hcl, st⟩
  · cases hv
    obtain ⟨k1, k2, k3⟩ := vx_keep h0 e1 hS hA hf hL hF
    obtain ⟨t2, a1, b1⟩ := kk r u t T'.heap (locs ++ L) e1.symm (by rw [← e2]; exact X'.warmed.alike) hp hb k1 k2 k3 T' rfl X'
    exact ⟨t2, st t2 a1, b1⟩
  · obtain ⟨k1, k2, k3⟩ := vx_keep h0 e1 hS hAX hf hL hF
    obtain ⟨t2, a1, b1⟩ := kx E ce q u t T'.heap (locs ++ L) e1.symm (by rw [← e2]; exact X'.warmed.alike) hp hb k1 k2 k3 (by rw [e1]; exact hce) hcv hcl T' rfl X'
    exact ⟨t2, st.trans a1, b1⟩
theorem vx_calld {S SX : Type} {post : UInt64 → S → Prop} {px : SX → Prop} {B : S → State → Prop} {BX : String → SX → State → Prop} {AX : Nat → Prop} (hr : vx_Run p l e R s m args below meth c H locs cells slots mc ms (F0 m pc ls st0) rest (va_Qd post B A1 a) (vx_X px BX AX) free) (hS : va_S A0 H0 H locs) (hA : ∀ q, q < H.size → A1 q → A0 q) (hf : ∀ q, free q → A0 q) (hAX : ∀ q, q < H.size → AX q → A0 q)
    (kx : ∀ (E : String) (ce : Cell) (q9 : Addr) (u : SX) (t : State) (H1 : Heap) (locs1 : List Loc), t.heap = H1 → s.vm.Alike t.vm → px u → BX E u t → H.size ≤ H1.size → (∀ q : Nat, q < H.size → ¬ AX q → H1[q]? = H[q]?) → va_S A0 H0 H1 locs1 → H1[q9]? = some ce → ce.vm = .none → s.vm.findClass E = some ce.cls → vx_W p l e R s m args below meth c H1 locs1 (cells + mc) (slots + ms) Q (F0 m pc ls rest) q9)
    (kk : ∀ (r : UInt64) (u : S) (t : State) (H1 : Heap) (locs1 : List Loc), t.heap = H1 → s.vm.Alike t.vm → post r u → B u t → H.size ≤ H1.size → (∀ q : Nat, q < H.size → ¬ A1 q → H1[q]? = H[q]?) → va_S A0 H0 H1 locs1 → W p l e R s m args below meth c H1 locs1 (cells + mc) (slots + ms) Q (F0 m (pc + 3) ls (.double r :: rest))) : W p l e R s m args below meth c H locs cells slots Q (F0 m pc ls st0) := by
  intro T hT X
  rcases hr T hT X with ⟨v, st₀, t, T', L, h0, X', hL, e1, e2, ⟨⟨r, u, hv, hp, hb⟩, hF⟩, st⟩ | ⟨q, st₀, t, T', L, E, ce, h0, X', hL, e1, e2, ⟨u, hp, hb, hF⟩, hce, hcv, hcl, st⟩
  · cases hv
    obtain ⟨k1, k2, k3⟩ := vx_keep h0 e1 hS hA hf hL hF
    obtain ⟨t2, a1, b1⟩ := kk r u t T'.heap (locs ++ L) e1.symm (by rw [← e2]; exact X'.warmed.alike) hp hb k1 k2 k3 T' rfl X'
    exact ⟨t2, st t2 a1, b1⟩
  · obtain ⟨k1, k2, k3⟩ := vx_keep h0 e1 hS hAX hf hL hF
    obtain ⟨t2, a1, b1⟩ := kx E ce q u t T'.heap (locs ++ L) e1.symm (by rw [← e2]; exact X'.warmed.alike) hp hb k1 k2 k3 (by rw [e1]; exact hce) hcv hcl T' rfl X'
    exact ⟨t2, st.trans a1, b1⟩
theorem vx_callv {S SX : Type} {post : S → Prop} {px : SX → Prop} {B : S → State → Prop} {BX : String → SX → State → Prop} {AX : Nat → Prop} (hr : vx_Run p l e R s m args below meth c H locs cells slots mc ms (F0 m pc ls st0) rest (va_Qv post B A1 a) (vx_X px BX AX) free) (hS : va_S A0 H0 H locs) (hA : ∀ q, q < H.size → A1 q → A0 q) (hf : ∀ q, free q → A0 q) (hAX : ∀ q, q < H.size → AX q → A0 q)
    (kx : ∀ (E : String) (ce : Cell) (q9 : Addr) (u : SX) (t : State) (H1 : Heap) (locs1 : List Loc), t.heap = H1 → s.vm.Alike t.vm → px u → BX E u t → H.size ≤ H1.size → (∀ q : Nat, q < H.size → ¬ AX q → H1[q]? = H[q]?) → va_S A0 H0 H1 locs1 → H1[q9]? = some ce → ce.vm = .none → s.vm.findClass E = some ce.cls → vx_W p l e R s m args below meth c H1 locs1 (cells + mc) (slots + ms) Q (F0 m pc ls rest) q9)
    (kk : ∀ (u : S) (t : State) (H1 : Heap) (locs1 : List Loc), t.heap = H1 → s.vm.Alike t.vm → post u → B u t → H.size ≤ H1.size → (∀ q : Nat, q < H.size → ¬ A1 q → H1[q]? = H[q]?) → va_S A0 H0 H1 locs1 → W p l e R s m args below meth c H1 locs1 (cells + mc) (slots + ms) Q (F0 m (pc + 3) ls (rest))) : W p l e R s m args below meth c H locs cells slots Q (F0 m pc ls st0) := by
  intro T hT X
  rcases hr T hT X with ⟨v, st₀, t, T', L, h0, X', hL, e1, e2, ⟨⟨u, hv, hp, hb⟩, hF⟩, st⟩ | ⟨q, st₀, t, T', L, E, ce, h0, X', hL, e1, e2, ⟨u, hp, hb, hF⟩, hce, hcv, hcl, st⟩
  · cases hv
    obtain ⟨k1, k2, k3⟩ := vx_keep h0 e1 hS hA hf hL hF
    obtain ⟨t2, a1, b1⟩ := kk u t T'.heap (locs ++ L) e1.symm (by rw [← e2]; exact X'.warmed.alike) hp hb k1 k2 k3 T' rfl X'
    exact ⟨t2, st t2 a1, b1⟩
  · obtain ⟨k1, k2, k3⟩ := vx_keep h0 e1 hS hAX hf hL hF
    obtain ⟨t2, a1, b1⟩ := kx E ce q u t T'.heap (locs ++ L) e1.symm (by rw [← e2]; exact X'.warmed.alike) hp hb k1 k2 k3 (by rw [e1]; exact hce) hcv hcl T' rfl X'
    exact ⟨t2, st.trans a1, b1⟩
/-- caught by the row x of this method's table; the rows ahead don't take it -/
theorem vx_catch {own name : String} {E : String} {ce : Cell} {q : Addr} (hown : s.vm.findClass own = some m.cls) (pre : List ExceptionTableEntry) (x : ExceptionTableEntry) (suf : List ExceptionTableEntry) (hsplit : c.exceptionTable.toList = pre ++ x :: suf)
    (hpass : ∀ z ∈ pre, covers z pc = false ∨ (z.catchType ≠ 0 ∧ ∃ nm : String, (Cond.classLink own z.catchType nm).before args s = true ∧ va_Nc E nm s)) (hx : covers x pc = true) (h0 : x.catchType ≠ 0)
    (hlink : (Cond.classLink own x.catchType name).before args s = true) (hcast : (Cond.castable E name).before args s = true) (hcell : H[q]? = some ce) (hv : ce.vm = .none) (hcl : s.vm.findClass E = some ce.cls)
    (kk : W p l e R s m args below meth c H locs cells slots Q (F0 m x.handlerPc ls [.ref q])) : vx_W p l e R s m args below meth c H locs cells slots Q (F0 m pc ls rest) q := by
  intro T hT X
  have hpl : e.platform.magicAccessors = ({} : Platform).magicAccessors := by rw [X.admits.platform]
  obtain ⟨c3, c4, hc3, hc4, hasg⟩ := Cond.castable_spec hcast
  cases Option.some.inj (hc3.symm.trans hcl)
  obtain ⟨c5, hc5, hcl5⟩ := Cond.classLink_spec hown hlink e.platform hpl
  cases Option.some.inj (hc4.symm.trans hc5)
  obtain ⟨vm', X', st⟩ := X.thenCaughtThrough q (g := F0 m pc ls rest) rfl (Steps.refl _) (by rw [hT]; exact hcell) (by rw [hv]; rfl) (by obtain ⟨k9, h9, -⟩ := Vm.findClass_spec hcl; exact ⟨k9, h9⟩) pre x suf hsplit
    (fun z hz => by
      rcases hpass z hz with h | ⟨hz0, nm, hl1, hn1⟩
      · exact Or.inl h
      · obtain ⟨c6, hc6, hcl6⟩ := Cond.classLink_spec hown hl1 e.platform hpl
        obtain ⟨a8, b8, h1, h2, h3⟩ := hn1
        cases Option.some.inj (h1.symm.trans hcl)
        cases Option.some.inj (h2.symm.trans hc6)
        exact Or.inr ⟨hz0, _, hcl6, h3⟩) hx (Or.inr ⟨h0, c4, hcl5, hasg⟩)
  obtain ⟨t, a1, b1⟩ := kk (T.setVm vm') hT X'
  exact ⟨t, st.trans a1, b1⟩
end Rows
section Ends
variable {p : Program} {l : Launch} {e : Env} {R : Room} {s : State} {m : MethodId} {args : Array Value} {below : List Frame} {meth : Method} {c : Code} {H : Heap} {locs : List Loc} {cells slots : Nat} {Q : State → Prop}
variable {mc ms : Nat} {free : Addr → Prop} {A0 A1 : Nat → Prop} {H0 : Heap} {a : Array Value} {ls : Array Slot} {st0 rest : List Value}
variable {Qc : Array Value → State → Outcome → State → Prop} {XC : String → State → State → Prop}
/-- what a body that may throw owes at its end -/
def vx_MQ (below : List Frame) (Qc : Array Value → State → Outcome → State → Prop) (XC : String → State → State → Prop) (a : Array Value) (s : State) (mc ms : Nat) (free : Addr → Prop) : State → Prop := fun t =>
  ∃ o, t.status = .running ∧ Ended t below o ∧ vx_Q Qc XC mc ms free a s o t
theorem vx_ret {g : JFrame} {mc ms : Nat} (k : W p l e R s m args below meth c H locs cells slots (MQ below Qc args s mc ms free) g) : W p l e R s m args below meth c H locs cells slots (vx_MQ below Qc XC args s mc ms free) g := by
  intro T hT X
  obtain ⟨t, a1, o, b1, b2, b3, b4⟩ := k T hT X
  exact ⟨t, a1, o, b1, b2, Or.inl ⟨b3, b4⟩⟩
/-- not caught here: it goes on to the caller -/
theorem vx_widen {g : JFrame} {q : Addr} {k n : Nat} (h1 : cells ≤ k) (h2 : slots ≤ n) (kk : vx_W p l e R s m args below meth c H locs k n Q g q) : vx_W p l e R s m args below meth c H locs cells slots Q g q := fun T hT X => kk T hT (stand_widen X h1 h2)
theorem vx_out {pc : Nat} {E : String} {ce : Cell} {q : Addr} {mc ms : Nat} (hout : ∀ x ∈ c.exceptionTable.toList, covers x pc = false) (hlocks : meth.locks = false) (hcell : H[q]? = some ce) (hv : ce.vm = .none) (hcl : s.vm.findClass E = some ce.cls)
    (hx : ∀ t : State, t.heap = H → s.vm.Alike t.vm → XC E s t) (hf : ∀ z ∈ locs, free z.base) (hc : cells ≤ mc) (hs : slots ≤ ms) :
    vx_W p l e R s m args below meth c H locs cells slots (vx_MQ below Qc XC args s mc ms free) (F0 m pc ls rest) q := by
  intro T hT X
  obtain ⟨st1, hrun, hend, hW, hsm⟩ := X.leaveThrown q (g := F0 m pc ls rest) rfl rfl rfl hout hlocks
  have hcell9 : (T.setFrames (.throwing q :: below)).heap[q]? = some ce := by
    show T.heap[q]? = some ce
    rw [hT]; exact hcell
  exact ⟨_, st1, .threw q, hrun, hend, Or.inr ⟨q, rfl, E, ce, locs, hx _ hT hW.alike, hcell9, hv, hcl, hW, hsm.mono hc hs, hf⟩⟩
theorem vx_frame {U : State} {k n : Nat} (h : s.sameButNew ({ U with vm := s.vm } : State) locs k n) : s.heap.size ≤ U.heap.size ∧ ∀ q : Nat, q < s.heap.size → (∀ z ∈ locs, z.base ≠ q) → U.heap[q]? = s.heap[q]? := by
  obtain ⟨-, h2, -, -, -, h6⟩ := h
  refine ⟨h2, fun q hq hz => ?_⟩
  obtain ⟨c9, e1, e2, e3, e4⟩ := h6 q _ (Array.getElem?_eq_getElem hq)
  have hs : c9.slots = (s.heap[q]).slots := Array.ext_getElem? fun i => e4 i fun hm => hz _ hm rfl
  have h9 : c9 = s.heap[q] := by
    rw [hs] at e2
    exact e2
  have e5 : U.heap[q]? = some c9 := e1
  rw [e5, h9, Array.getElem?_eq_getElem hq]
/-- the words of a throw but the four that speak of the heap -/
def vx_no (w : Cond) : Bool := decide (w ≠ .isRef (.static Bundle.tN "UNASSIGNED_STACK" Bundle.steD)) && decide (w ≠ .isRef (.static Bundle.tN "SUPPRESSED_SENTINEL" Bundle.listD)) && decide (w ≠ .laysStatic Bundle.tN "UNASSIGNED_STACK" Bundle.steD) && decide (w ≠ .laysStatic Bundle.tN "SUPPRESSED_SENTINEL" Bundle.listD)
def vx_at0 (own : String) (ic : Nat) (X : String) (names : List String) : List Cond := (Bundle.ownAtoms0 own ic X names).filter vx_no
def vx_atS (own : String) (ic : Nat) (X : String) (names : List String) : List Cond := (Bundle.ownAtoms own ic X names).filter vx_no
/-- a word that the tables alone decide, or a good one -/
def vx_ot (w : Cond) : Bool := w.onTables || goodWord w
theorem vx_ot_at {args a' : Array Value} {s U : State} {w : Cond} (hW : s.WarmedH U.vm) (hvm : s.vm = U.vm) (hg : vx_ot w = true) (h : w.before args s = true) : w.before a' U = true := by
  simp only [vx_ot, Bool.or_eq_true] at hg
  rcases hg with hg | hg
  · exact va_tabs hg hvm h
  · exact word_at hW (good_of_word hg) h
/-- a list's words: the good ones out of the method's own list, the others by premises of their own -/
theorem vx_hat {args : Array Value} {s : State} {L B : List Cond} (h1 : ∀ w ∈ L.filter goodWord, w.before args s = true) (h2 : ∀ w ∈ L.filter (fun w => !goodWord w), w ∈ B) (h3 : ∀ w ∈ B, w.before args s = true) : ∀ w ∈ L, w.before args s = true := by
  intro w hw
  by_cases g : goodWord w = true
  · exact h1 w (List.mem_filter.mpr ⟨hw, g⟩)
  · refine h3 w (h2 w (List.mem_filter.mpr ⟨hw, ?_⟩))
    show (!goodWord w) = true
    cases hgw : goodWord w
    · rfl
    · exact absurd hgw g
theorem vx_c {args : Array Value} {s : State} {w : Cond} {B : List Cond} (h : w.before args s = true) (t : ∀ w ∈ B, w.before args s = true) : ∀ w' ∈ w :: B, w'.before args s = true := fun w' h' => (List.mem_cons.mp h').elim (fun e => by rw [e]; exact h) (t w')
theorem vx_n {args : Array Value} {s : State} : ∀ w ∈ ([] : List Cond), w.before args s = true := fun _ h => nomatch h
theorem vx_own {args : Array Value} {s : State} {L : List Cond} (h1 : ∀ w ∈ L.filter vx_no, w.before args s = true)
    (hU : (Cond.isRef (.static Bundle.tN "UNASSIGNED_STACK" Bundle.steD)).before args s = true) (hN : (Cond.isRef (.static Bundle.tN "SUPPRESSED_SENTINEL" Bundle.listD)).before args s = true)
    (lU : (Cond.laysStatic Bundle.tN "UNASSIGNED_STACK" Bundle.steD).before args s = true) (lN : (Cond.laysStatic Bundle.tN "SUPPRESSED_SENTINEL" Bundle.listD).before args s = true) : ∀ w ∈ L, w.before args s = true := by
  intro w hw
  by_cases e1 : w = .isRef (.static Bundle.tN "UNASSIGNED_STACK" Bundle.steD)
  · rw [e1]; exact hU
  · by_cases e2 : w = .isRef (.static Bundle.tN "SUPPRESSED_SENTINEL" Bundle.listD)
    · rw [e2]; exact hN
    · by_cases e3 : w = .laysStatic Bundle.tN "UNASSIGNED_STACK" Bundle.steD
      · rw [e3]; exact lU
      · by_cases e4 : w = .laysStatic Bundle.tN "SUPPRESSED_SENTINEL" Bundle.listD
        · rw [e4]; exact lN
        · exact h1 w (List.mem_filter.mpr ⟨hw, by unfold vx_no; rw [decide_eq_true e1, decide_eq_true e2, decide_eq_true e3, decide_eq_true e4]; rfl⟩)
/-- where a static field lies, its class's statics cell in H -/
def vx_L (C n d : String) (A : Nat → Prop) (U : State) (H : Heap) : Prop := ∃ (c : ClassId) (k : Class) (i : Nat) (f : Field) (a : Nat) (cell : Cell), U.vm.findClass C = some c ∧ U.fieldFound? C n d = some (c, k, i, f) ∧ f.isStatic = true ∧ k.statics = some a ∧ H[a]? = some cell ∧ cell.vm.isStatics = true ∧ cell.cls = c ∧ f.slot < cell.slots.size ∧ k.staticTypes[f.slot]? = some f.type ∧ ¬ A a
theorem vx_L.moved {C n d : String} {A : Nat → Prop} {u U : State} {H : Heap} (hvm : u.vm.Alike U.vm) (h : vx_L C n d A u H) : vx_L C n d A U H := by
  obtain ⟨c, k, i, f, a, cell, h1, h2, h3, h4, h5, h6, h7, h8, h9, h10⟩ := h
  obtain ⟨k', hi', he⟩ := State.fieldFound?_setVm hvm h2
  exact ⟨c, k', i, f, a, cell, by rw [hvm.findClass]; exact h1, hi', h3, by rw [he]; exact h4, h5, h6, h7, h8, by rw [he]; exact h9, h10⟩
theorem vx_L.kept {C n d : String} {A : Nat → Prop} {U : State} {H H1 : Heap} (h : vx_L C n d A U H) (hq : ∀ a : Nat, a < H.size → ¬ A a → H1[a]? = H[a]?) : vx_L C n d A U H1 := by
  obtain ⟨c, k, i, f, a, cell, h1, h2, h3, h4, h5, h6, h7, h8, h9, h10⟩ := h
  exact ⟨c, k, i, f, a, cell, h1, h2, h3, h4, by rw [hq a (Array.getElem?_eq_some_iff.mp h5).1 h10]; exact h5, h6, h7, h8, h9, h10⟩
theorem vx_L.narrow {C n d : String} {A B : Nat → Prop} {U : State} {H : Heap} (h : vx_L C n d A U H) (hAB : ∀ q, B q → A q) : vx_L C n d B U H := by
  obtain ⟨c, k, i, f, a, cell, h1, h2, h3, h4, h5, h6, h7, h8, h9, h10⟩ := h
  exact ⟨c, k, i, f, a, cell, h1, h2, h3, h4, h5, h6, h7, h8, h9, fun z => h10 (hAB _ z)⟩
theorem vx_L.word {C n d : String} {A : Nat → Prop} {s : State} {args : Array Value} (h : vx_L C n d A s s.heap) : (Cond.laysStatic C n d).before args s = true := by
  obtain ⟨c, k, i, f, a, cell, h1, h2, h3, h4, h5, h6, h7, h8, h9, -⟩ := h
  show (Cond.laysStatic C n d).holds args s none s [] = true
  exact Cond.laysStatic_of h1 h2 h3 h4 h5 h6 h7 h8 h9
/-- .. and what it holds: null or some reference -/
def vx_Zq (C n d : String) (A : Nat → Prop) (U : State) (H : Heap) : Prop := va_Zq C n d A U H ∧ vx_L C n d A U H
theorem vx_Zq.moved {C n d : String} {A : Nat → Prop} {u U : State} {H : Heap} (hvm : u.vm.Alike U.vm) (h : vx_Zq C n d A u H) : vx_Zq C n d A U H := ⟨va_Zq.moved hvm h.1, vx_L.moved hvm h.2⟩
theorem vx_Zq.kept {C n d : String} {A : Nat → Prop} {U : State} {H H1 : Heap} (h : vx_Zq C n d A U H) (hq : ∀ a : Nat, a < H.size → ¬ A a → H1[a]? = H[a]?) : vx_Zq C n d A U H1 := ⟨va_Zq.kept h.1 hq, vx_L.kept h.2 hq⟩
theorem vx_Zq.narrow {C n d : String} {A B : Nat → Prop} {U : State} {H : Heap} (h : vx_Zq C n d A U H) (hAB : ∀ q, B q → A q) : vx_Zq C n d B U H := ⟨va_Zq.narrow h.1 hAB, vx_L.narrow h.2 hAB⟩
theorem vx_Zqof {args : Array Value} {s : State} {C n d : String} {A : Nat → Prop} (hl : (Cond.laysStatic C n d).before args s = true) (hini : (Cond.initialized C).before args s = true) (h : (Cond.isRef (.static C n d)).before args s = true) (hA : ∀ a : Nat, a < s.heap.size → ¬ A a) : vx_Zq C n d A s s.heap := by
  refine ⟨va_Zqof hl hini h hA, ?_⟩
  obtain ⟨c, k, i, f, a, cell, h1, h2, h3, h4, h5, h6, h7, h8, h9⟩ := Cond.laysStatic_spec hl
  exact ⟨c, k, i, f, a, cell, h1, h2, h3, h4, h5, h6, h7, h8, h9, hA a (Array.getElem?_eq_some_iff.mp h5).1⟩
theorem vx_isRef {C n d : String} {v : Value} {A : Nat → Prop} {s : State} {args : Array Value} (h : va_Z C n d v A s s.heap) (hv : v.isRef = true) : (Cond.isRef (.static C n d)).before args s = true := by
  obtain ⟨cf, kf, fi, f, a, cell, h1, h2, h3, h4, h5, h6, h7, -⟩ := h
  have he : (Term.static C n d).eval args s none [] s = some v := by
    simp [Term.eval, State.fieldNamed?, h1, h2, h4, h5, h6, h7]
  simp only [Cond.before, Cond.holds, Cond.value, he]
  cases v <;> simp_all [Value.isRef]
theorem vx_isRefq {C n d : String} {A : Nat → Prop} {s : State} {args : Array Value} (h : va_Zq C n d A s s.heap) : (Cond.isRef (.static C n d)).before args s = true := by
  rcases h with h | ⟨t, h⟩
  · exact vx_isRef h rfl
  · exact vx_isRef h rfl
/-- the same frame, seen from here: as if the method were called anew in this heap -/
theorem vx_rebase {T : State} (X : Stand p l e R s m args below meth c T locs cells slots) {R' : Room} (hf : R'.frames ≤ R.frames) (hl : R'.locals ≤ R.locals) (hc : cells + R'.cells ≤ R.cells) (hs : slots + R'.slots ≤ R.slots) :
    Stand p l e R' ((T.setVm s.vm).setFrames (.invoking m args :: below)) m args below meth c T [] 0 0 := by
  have htop : (T.setVm s.vm).topJava?.isSome := X.here.top
  have hF : ((T.setVm s.vm).setFrames (.invoking m args :: below)).frames = .invoking m args :: below := State.frames_setFrames _ (State.cur_lt_of_top htop)
  obtain ⟨g₀, hg0⟩ := Option.isSome_iff_exists.mp htop
  obtain ⟨r, hr⟩ := State.topJava?_eq_some.mp hg0
  have hl9 : e.platform.stackLimits (T.setVm s.vm).me = e.platform.stackLimits s.me := X.limits
  have hb9 : (T.setVm s.vm).me.stackBytes = s.me.stackBytes := X.bytes
  refine ⟨X.admits, X.cas, X.clock, hF, ?_, X.hears, X.method, X.code, X.here, X.tail, X.warmed, ?_, ?_, ?_⟩
  · have h := X.room
    have hU : ((T.setVm s.vm).setFrames (.invoking m args :: below)).localsInUse = s.localsInUse := by
      rw [State.localsInUse_invoking hF (meth := meth) (c := c) X.method X.code, State.localsInUse_invoking X.frames X.method X.code]
    simp only [State.hasRoom, Bool.and_eq_true, decide_eq_true_eq] at h ⊢
    obtain ⟨⟨⟨⟨h1, h2, h3, h4, h5, h6⟩, h7⟩, h8⟩, h9⟩ := h
    rw [X.frames, List.length_cons] at h2 h3
    have q1 := X.heapSize
    have q2 := X.used
    simp only [hF, hU, List.length_cons, State.stackLimits_setFrames, State.stackBytes_setFrames, hl9, hb9]
    refine ⟨⟨⟨⟨by omega, by omega, by omega, by omega, by omega, h6⟩, ?_⟩, ?_⟩, X.book⟩
    · show T.heap.size + R'.cells ≤ e.platform.maxCells
      omega
    · show T.slotsUsed + R'.slots ≤ e.platform.maxSlots
      omega
  · rw [State.stackLimits_setFrames]; rfl
  · rw [State.stackBytes_setFrames]; rfl
  · refine ⟨?_, Nat.le_refl _, Nat.le_refl _, ?_, ?_, fun a c9 h9 => ⟨c9, h9, rfl, rfl, fun _ _ => rfl⟩⟩
    · obtain ⟨t, ht, -⟩ := State.frames_cons hr
      show T.setVm s.vm = { ((T.setVm s.vm).setFrames (.invoking m args :: below)).setFrames (T.setVm s.vm).frames with heap := T.heap, slotsUsed := T.slotsUsed }
      rw [State.setFrames_setFrames, State.setFrames_self ht]
      rfl
    · show T.slotsUsed = T.slotsUsed + ((T.heap.toList.drop T.heap.size).map (·.slots.size)).sum
      rw [List.drop_eq_nil_of_le (Nat.le_of_eq Array.length_toList)]
      rfl
    · show ((T.heap.toList.drop T.heap.size).map (·.slots.size)).sum ≤ 0
      rw [List.drop_eq_nil_of_le (Nat.le_of_eq Array.length_toList)]
      exact Nat.le_refl _
/-- 'throw new E()': new; dup; invokespecial; athrow -/
theorem vx_throw0 {cc : ByteArray} {pc : Nat} (hexec : p.tables.exec = Jvm.exec) (hb : c.code = cc) (hl : l.stackTraces = false) {own cls : String} {names : List String} {ik ic mc ms : Nat} {A : Nat → Prop}
    (hown : s.vm.findClass own = some m.cls) (hcls : Bundle.fit cls = true) (hnames : ∀ n ∈ names, Bundle.fit n = true)
    (hk : (Cond.classLink own ik cls).before args s = true) (hini : (Cond.initialized cls).before args s = true) (hat : ∀ w ∈ vx_at0 own ic cls names, w.before args s = true)
    (hgood : ∀ w ∈ Cond.classLink own ik cls :: Cond.initialized cls :: vx_at0 own ic cls names, vx_ot w = true)
    (hU : vx_Zq Bundle.tN "UNASSIGNED_STACK" Bundle.steD A s s.heap) (hN : vx_Zq Bundle.tN "SUPPRESSED_SENTINEL" Bundle.listD A s s.heap) (hS : va_S A s.heap H locs) (hsize : ls.size = c.maxLocals)
    (d0 : decode cc pc = .ok (.new ik, 3)) (d3 : decode cc (pc + 3) = .ok (.dup, 1)) (d4 : decode cc (pc + 4) = .ok (.invokespecial ic, 3)) (d7 : decode cc (pc + 7) = .ok (.athrow, 1))
    (hout : ∀ x ∈ c.exceptionTable.toList, covers x (pc + 7) = false)
    (hRframes : names.length + 3 < R.frames) (hRlocals : (rest.map fun v => v.category).sum + (13 * (names.length + 1) + 42) ≤ R.locals) (hRcells : cells + 1 ≤ R.cells) (hRslots : slots + 6 ≤ R.slots) (hlocks : meth.locks = false)
    (hx : ∀ t : State, s.vm.Alike t.vm → H.size ≤ t.heap.size → (∀ q : Nat, q < H.size → t.heap[q]? = H[q]?) → XC cls s t)
    (hf : ∀ z ∈ locs, free z.base) (hc : cells + 1 ≤ mc) (hs : slots + 6 ≤ ms) :
    W p l e R s m args below meth c H locs cells slots (vx_MQ below Qc XC args s mc ms free) (F0 m pc ls rest) := by
  intro T hT X
  have htr : e.platform.stackTraces = false := (show e.platform.stackTraces = l.stackTraces by rw [X.admits.platform]).trans hl
  have Y := vx_rebase X (R' := { frames := R.frames, locals := R.locals, cells := 1, slots := 6 }) (Nat.le_refl _) (Nat.le_refl _) hRcells hRslots
  obtain ⟨s', hA⟩ : ∃ z, z = (T.setVm s.vm).setFrames (.invoking m args :: below) := ⟨_, rfl⟩
  rw [← hA] at Y
  have hvm : s'.vm = s.vm := by rw [hA]; rfl
  have hhp : s'.heap = H := by rw [hA]; exact hT
  have hW0 : s.WarmedH s'.vm := by rw [hvm]; exact State.WarmedH.refl s
  have hat' : ∀ w ∈ vx_at0 own ic cls names, w.before args s' = true := fun w hw => vx_ot_at hW0 hvm.symm (hgood w (List.mem_cons_of_mem _ (List.mem_cons_of_mem _ hw))) (hat w hw)
  have hk' : (Cond.classLink own ik cls).before args s' = true := vx_ot_at hW0 hvm.symm (hgood _ List.mem_cons_self) hk
  have hini' : (Cond.initialized cls).before args s' = true := vx_ot_at hW0 hvm.symm (hgood _ (List.mem_cons_of_mem _ List.mem_cons_self)) hini
  have hU' : vx_Zq Bundle.tN "UNASSIGNED_STACK" Bundle.steD A s' s'.heap := by rw [hhp]; exact vx_Zq.moved hW0.alike (hU.kept hS.2.1)
  have hN' : vx_Zq Bundle.tN "SUPPRESSED_SENTINEL" Bundle.listD A s' s'.heap := by rw [hhp]; exact vx_Zq.moved hW0.alike (hN.kept hS.2.1)
  have h : ∀ w ∈ Bundle.ownAtoms0 own ic cls names, w.before args s' = true := vx_own hat' (vx_isRefq hU'.1) (vx_isRefq hN'.1) hU'.2.word hN'.2.word
  have hown' : s'.vm.findClass own = some m.cls := by rw [hvm]; exact hown
  have hins : (Cond.instantiable cls 6).before args s' = true := h _ (by simp [Bundle.ownAtoms0])
  obtain ⟨vm₁, cX, kX, hfX, hkX, -, -, X₁, st1⟩ := Y.newCold hexec (own := own) (C := cls) (index := ik) (n := 6) hown' hk' hins hini'
    (g := F0 m pc ls rest) rfl (by rw [hb]; exact d0) (Nat.le_refl _) (Nat.le_refl _)
  generalize hT1 : (T.setVm vm₁).pushCell { cls := cX, slots := kX.instanceTypes.map defaultValue, vm := .none } = T1 at X₁ st1
  have hcat : (Value.ref T.heap.size).category = 1 := rfl
  have hcellA : T1.heap[T.heap.size]? = some (freshCell cX kX) := by rw [← hT1]; exact State.heap_pushCell_size _ _
  have d3' : decode c.code (pc + 3) = .ok (.dup, 1) := by rw [hb]; exact d3
  obtain ⟨U, hsteps, hrun, hend, hW, hsame, ce, hce, hO⟩ := X₁.ctorThrow0 hexec htr (own := own) (cls := cls) (names := names) (ic := ic) hown' hcls hnames h (fun x hx => nomatch hx) hfX hkX hcellA (by rw [hhp, hT]; exact Nat.le_refl _)
    (g := { method := m, pc := pc + 4, locals := ls, stack := .ref T.heap.size :: .ref T.heap.size :: rest, locked := none }) rfl hsize rfl rfl (rest := rest) rfl
    (by rw [hb]; exact d4) (by rw [hb]; exact d7) hout hRframes (by simp only [List.map_cons, List.sum_cons, hcat]; omega) hlocks
  obtain ⟨f1, f2⟩ := vx_frame hsame
  rw [hhp] at f1 f2
  have hWs : s.WarmedH U.vm := State.WarmedH.trans hW0 hW
  have hcl : s.vm.findClass cls = some ce.cls := by
    have h9 := hO.cls
    rw [hvm] at h9
    exact h9
  have hall : s.sameButNew ({ U with vm := s.vm } : State) locs mc ms := by
    subst hA
    obtain ⟨e1, e2⟩ := hsame
    rw [State.setFrames_setFrames] at e1
    have h2 : (T.setVm s.vm).sameButNew ({ U with vm := s.vm } : State) [] (0 + 1) (0 + 6) := ⟨e1, e2⟩
    have h3 := X.same.trans h2
    rw [List.append_nil] at h3
    exact h3.mono hc hs
  refine ⟨U, ?_, .threw T.heap.size, hrun, hend, Or.inr ⟨T.heap.size, rfl, cls, ce, locs, hx U hWs.alike f1 (fun q hq => f2 q hq (fun z hz => nomatch hz)), hce, hO.vm, hcl, hWs, hall, hf⟩⟩
  refine st1 _ ?_
  show Steps p.tables e below (T1.setTop { method := m, pc := pc + 3, locals := ls, stack := .ref T.heap.size :: rest, locked := none }) _
  jvm_step X₁.here [X₁.here.top, hexec, d3', Value.category]
  exact hsteps
/-- 'throw new E("text")': new; dup; ldc; invokespecial; athrow -/
theorem vx_throwS {cc : ByteArray} {pc : Nat} (hexec : p.tables.exec = Jvm.exec) (hb : c.code = cc) (hl : l.stackTraces = false) {own cls text : String} {names : List String} {ik is ic mc ms sa : Nat} {A : Nat → Prop}
    (hown : s.vm.findClass own = some m.cls) (hcls : Bundle.fit cls = true) (hnames : ∀ n ∈ names, Bundle.fit n = true)
    (hk : (Cond.classLink own ik cls).before args s = true) (hini : (Cond.initialized cls).before args s = true) (hstr : vk_R own is text sa s) (hat : ∀ w ∈ vx_atS own ic cls names, w.before args s = true)
    (hgood : ∀ w ∈ Cond.classLink own ik cls :: Cond.initialized cls :: vx_atS own ic cls names, vx_ot w = true)
    (hU : vx_Zq Bundle.tN "UNASSIGNED_STACK" Bundle.steD A s s.heap) (hN : vx_Zq Bundle.tN "SUPPRESSED_SENTINEL" Bundle.listD A s s.heap) (hS : va_S A s.heap H locs) (hsize : ls.size = c.maxLocals)
    (d0 : decode cc pc = .ok (.new ik, 3)) (d3 : decode cc (pc + 3) = .ok (.dup, 1)) (d4 : decode cc (pc + 4) = .ok (.ldc is, 2)) (d6 : decode cc (pc + 6) = .ok (.invokespecial ic, 3)) (d9 : decode cc (pc + 9) = .ok (.athrow, 1))
    (hout : ∀ x ∈ c.exceptionTable.toList, covers x (pc + 9) = false)
    (hRframes : names.length + 3 < R.frames) (hRlocals : (rest.map fun v => v.category).sum + (13 * (names.length + 1) + 43) ≤ R.locals) (hRcells : cells + 1 ≤ R.cells) (hRslots : slots + 6 ≤ R.slots) (hlocks : meth.locks = false)
    (hx : ∀ t : State, s.vm.Alike t.vm → H.size ≤ t.heap.size → (∀ q : Nat, q < H.size → t.heap[q]? = H[q]?) → XC cls s t)
    (hf : ∀ z ∈ locs, free z.base) (hc : cells + 1 ≤ mc) (hs : slots + 6 ≤ ms) :
    W p l e R s m args below meth c H locs cells slots (vx_MQ below Qc XC args s mc ms free) (F0 m pc ls rest) := by
  intro T hT X
  have htr : e.platform.stackTraces = false := (show e.platform.stackTraces = l.stackTraces by rw [X.admits.platform]).trans hl
  have Y := vx_rebase X (R' := { frames := R.frames, locals := R.locals, cells := 1, slots := 6 }) (Nat.le_refl _) (Nat.le_refl _) hRcells hRslots
  obtain ⟨s', hA⟩ : ∃ z, z = (T.setVm s.vm).setFrames (.invoking m args :: below) := ⟨_, rfl⟩
  rw [← hA] at Y
  have hvm : s'.vm = s.vm := by rw [hA]; rfl
  have hhp : s'.heap = H := by rw [hA]; exact hT
  have hW0 : s.WarmedH s'.vm := by rw [hvm]; exact State.WarmedH.refl s
  have hat' : ∀ w ∈ vx_atS own ic cls names, w.before args s' = true := fun w hw => vx_ot_at hW0 hvm.symm (hgood w (List.mem_cons_of_mem _ (List.mem_cons_of_mem _ hw))) (hat w hw)
  have hk' : (Cond.classLink own ik cls).before args s' = true := vx_ot_at hW0 hvm.symm (hgood _ List.mem_cons_self) hk
  have hini' : (Cond.initialized cls).before args s' = true := vx_ot_at hW0 hvm.symm (hgood _ (List.mem_cons_of_mem _ List.mem_cons_self)) hini
  have hU' : vx_Zq Bundle.tN "UNASSIGNED_STACK" Bundle.steD A s' s'.heap := by rw [hhp]; exact vx_Zq.moved hW0.alike (hU.kept hS.2.1)
  have hN' : vx_Zq Bundle.tN "SUPPRESSED_SENTINEL" Bundle.listD A s' s'.heap := by rw [hhp]; exact vx_Zq.moved hW0.alike (hN.kept hS.2.1)
  have h : ∀ w ∈ Bundle.ownAtoms own ic cls names, w.before args s' = true := vx_own hat' (vx_isRefq hU'.1) (vx_isRefq hN'.1) hU'.2.word hN'.2.word
  have hown' : s'.vm.findClass own = some m.cls := by rw [hvm]; exact hown
  have hins : (Cond.instantiable cls 6).before args s' = true := h _ (by simp [Bundle.ownAtoms])
  obtain ⟨vm₁, cX, kX, hfX, hkX, -, -, X₁, st1⟩ := Y.newCold hexec (own := own) (C := cls) (index := ik) (n := 6) hown' hk' hins hini'
    (g := F0 m pc ls rest) rfl (by rw [hb]; exact d0) (Nat.le_refl _) (Nat.le_refl _)
  generalize hT1 : (T.setVm vm₁).pushCell { cls := cX, slots := kX.instanceTypes.map defaultValue, vm := .none } = T1 at X₁ st1
  have hcat : (Value.ref T.heap.size).category = 1 := rfl
  have hcellA : T1.heap[T.heap.size]? = some (freshCell cX kX) := by rw [← hT1]; exact State.heap_pushCell_size _ _
  have d3' : decode c.code (pc + 3) = .ok (.dup, 1) := by rw [hb]; exact d3
  have d4' : decode c.code (pc + 4) = .ok (.ldc is, 2) := by rw [hb]; exact d4
  have hstr' : vk_R own is text sa s' := vk_R.warm hW0 hstr
  obtain ⟨U, hsteps, hrun, hend, hW, hsame, ce, hce, hO⟩ := X₁.ctorThrowS hexec htr (own := own) (cls := cls) (names := names) (ic := ic) hown' hcls hnames h (fun x hx => nomatch hx) hfX hkX hcellA (by rw [hhp, hT]; exact Nat.le_refl _) (msg := .ref sa) rfl
    (g := { method := m, pc := pc + 6, locals := ls, stack := .ref sa :: .ref T.heap.size :: .ref T.heap.size :: rest, locked := none }) rfl hsize rfl rfl (rest := rest) rfl
    (by rw [hb]; exact d6) (by rw [hb]; exact d9) hout hRframes (by simp only [List.map_cons, List.sum_cons, hcat]; omega) hlocks
  obtain ⟨f1, f2⟩ := vx_frame hsame
  rw [hhp] at f1 f2
  have hWs : s.WarmedH U.vm := State.WarmedH.trans hW0 hW
  have hcl : s.vm.findClass cls = some ce.cls := by
    have h9 := hO.cls
    rw [hvm] at h9
    exact h9
  have hall : s.sameButNew ({ U with vm := s.vm } : State) locs mc ms := by
    subst hA
    obtain ⟨e1, e2⟩ := hsame
    rw [State.setFrames_setFrames] at e1
    have h2 : (T.setVm s.vm).sameButNew ({ U with vm := s.vm } : State) [] (0 + 1) (0 + 6) := ⟨e1, e2⟩
    have h3 := X.same.trans h2
    rw [List.append_nil] at h3
    exact h3.mono hc hs
  refine ⟨U, ?_, .threw T.heap.size, hrun, hend, Or.inr ⟨T.heap.size, rfl, cls, ce, locs, hx U hWs.alike f1 (fun q hq => f2 q hq (fun z hz => nomatch hz)), hce, hO.vm, hcl, hWs, hall, hf⟩⟩
  refine st1 _ ?_
  show Steps p.tables e below (T1.setTop { method := m, pc := pc + 3, locals := ls, stack := .ref T.heap.size :: rest, locked := none }) _
  jvm_step X₁.here [X₁.here.top, hexec, d3', Value.category]
  exact X₁.ldcString hexec (own := own) (text := text) (index := is) (a := sa) hown' hstr'.1 hstr'.2
    (g := { method := m, pc := pc + 4, locals := ls, stack := .ref T.heap.size :: .ref T.heap.size :: rest, locked := none }) rfl d4' _ hsteps
/-- 'throw new E("text")', the text by a wide index -/
theorem vx_throwSW {cc : ByteArray} {pc : Nat} (hexec : p.tables.exec = Jvm.exec) (hb : c.code = cc) (hl : l.stackTraces = false) {own cls text : String} {names : List String} {ik is ic mc ms sa : Nat} {A : Nat → Prop}
    (hown : s.vm.findClass own = some m.cls) (hcls : Bundle.fit cls = true) (hnames : ∀ n ∈ names, Bundle.fit n = true)
    (hk : (Cond.classLink own ik cls).before args s = true) (hini : (Cond.initialized cls).before args s = true) (hstr : vk_R own is text sa s) (hat : ∀ w ∈ vx_atS own ic cls names, w.before args s = true)
    (hgood : ∀ w ∈ Cond.classLink own ik cls :: Cond.initialized cls :: vx_atS own ic cls names, vx_ot w = true)
    (hU : vx_Zq Bundle.tN "UNASSIGNED_STACK" Bundle.steD A s s.heap) (hN : vx_Zq Bundle.tN "SUPPRESSED_SENTINEL" Bundle.listD A s s.heap) (hS : va_S A s.heap H locs) (hsize : ls.size = c.maxLocals)
    (d0 : decode cc pc = .ok (.new ik, 3)) (d3 : decode cc (pc + 3) = .ok (.dup, 1)) (d4 : decode cc (pc + 4) = .ok (.ldc_w is, 3)) (d7 : decode cc (pc + 7) = .ok (.invokespecial ic, 3)) (d10 : decode cc (pc + 10) = .ok (.athrow, 1))
    (hout : ∀ x ∈ c.exceptionTable.toList, covers x (pc + 10) = false)
    (hRframes : names.length + 3 < R.frames) (hRlocals : (rest.map fun v => v.category).sum + (13 * (names.length + 1) + 43) ≤ R.locals) (hRcells : cells + 1 ≤ R.cells) (hRslots : slots + 6 ≤ R.slots) (hlocks : meth.locks = false)
    (hx : ∀ t : State, s.vm.Alike t.vm → H.size ≤ t.heap.size → (∀ q : Nat, q < H.size → t.heap[q]? = H[q]?) → XC cls s t)
    (hf : ∀ z ∈ locs, free z.base) (hc : cells + 1 ≤ mc) (hs : slots + 6 ≤ ms) :
    W p l e R s m args below meth c H locs cells slots (vx_MQ below Qc XC args s mc ms free) (F0 m pc ls rest) := by
  intro T hT X
  have htr : e.platform.stackTraces = false := (show e.platform.stackTraces = l.stackTraces by rw [X.admits.platform]).trans hl
  have Y := vx_rebase X (R' := { frames := R.frames, locals := R.locals, cells := 1, slots := 6 }) (Nat.le_refl _) (Nat.le_refl _) hRcells hRslots
  obtain ⟨s', hA⟩ : ∃ z, z = (T.setVm s.vm).setFrames (.invoking m args :: below) := ⟨_, rfl⟩
  rw [← hA] at Y
  have hvm : s'.vm = s.vm := by rw [hA]; rfl
  have hhp : s'.heap = H := by rw [hA]; exact hT
  have hW0 : s.WarmedH s'.vm := by rw [hvm]; exact State.WarmedH.refl s
  have hat' : ∀ w ∈ vx_atS own ic cls names, w.before args s' = true := fun w hw => vx_ot_at hW0 hvm.symm (hgood w (List.mem_cons_of_mem _ (List.mem_cons_of_mem _ hw))) (hat w hw)
  have hk' : (Cond.classLink own ik cls).before args s' = true := vx_ot_at hW0 hvm.symm (hgood _ List.mem_cons_self) hk
  have hini' : (Cond.initialized cls).before args s' = true := vx_ot_at hW0 hvm.symm (hgood _ (List.mem_cons_of_mem _ List.mem_cons_self)) hini
  have hU' : vx_Zq Bundle.tN "UNASSIGNED_STACK" Bundle.steD A s' s'.heap := by rw [hhp]; exact vx_Zq.moved hW0.alike (hU.kept hS.2.1)
  have hN' : vx_Zq Bundle.tN "SUPPRESSED_SENTINEL" Bundle.listD A s' s'.heap := by rw [hhp]; exact vx_Zq.moved hW0.alike (hN.kept hS.2.1)
  have h : ∀ w ∈ Bundle.ownAtoms own ic cls names, w.before args s' = true := vx_own hat' (vx_isRefq hU'.1) (vx_isRefq hN'.1) hU'.2.word hN'.2.word
  have hown' : s'.vm.findClass own = some m.cls := by rw [hvm]; exact hown
  have hins : (Cond.instantiable cls 6).before args s' = true := h _ (by simp [Bundle.ownAtoms])
  obtain ⟨vm₁, cX, kX, hfX, hkX, -, -, X₁, st1⟩ := Y.newCold hexec (own := own) (C := cls) (index := ik) (n := 6) hown' hk' hins hini'
    (g := F0 m pc ls rest) rfl (by rw [hb]; exact d0) (Nat.le_refl _) (Nat.le_refl _)
  generalize hT1 : (T.setVm vm₁).pushCell { cls := cX, slots := kX.instanceTypes.map defaultValue, vm := .none } = T1 at X₁ st1
  have hcat : (Value.ref T.heap.size).category = 1 := rfl
  have hcellA : T1.heap[T.heap.size]? = some (freshCell cX kX) := by rw [← hT1]; exact State.heap_pushCell_size _ _
  have d3' : decode c.code (pc + 3) = .ok (.dup, 1) := by rw [hb]; exact d3
  have d4' : decode c.code (pc + 4) = .ok (.ldc_w is, 3) := by rw [hb]; exact d4
  have hstr' : vk_R own is text sa s' := vk_R.warm hW0 hstr
  obtain ⟨U, hsteps, hrun, hend, hW, hsame, ce, hce, hO⟩ := X₁.ctorThrowS hexec htr (own := own) (cls := cls) (names := names) (ic := ic) hown' hcls hnames h (fun x hx => nomatch hx) hfX hkX hcellA (by rw [hhp, hT]; exact Nat.le_refl _) (msg := .ref sa) rfl
    (g := { method := m, pc := pc + 7, locals := ls, stack := .ref sa :: .ref T.heap.size :: .ref T.heap.size :: rest, locked := none }) rfl hsize rfl rfl (rest := rest) rfl
    (by rw [hb]; exact d7) (by rw [hb]; exact d10) hout hRframes (by simp only [List.map_cons, List.sum_cons, hcat]; omega) hlocks
  obtain ⟨f1, f2⟩ := vx_frame hsame
  rw [hhp] at f1 f2
  have hWs : s.WarmedH U.vm := State.WarmedH.trans hW0 hW
  have hcl : s.vm.findClass cls = some ce.cls := by
    have h9 := hO.cls
    rw [hvm] at h9
    exact h9
  have hall : s.sameButNew ({ U with vm := s.vm } : State) locs mc ms := by
    subst hA
    obtain ⟨e1, e2⟩ := hsame
    rw [State.setFrames_setFrames] at e1
    have h2 : (T.setVm s.vm).sameButNew ({ U with vm := s.vm } : State) [] (0 + 1) (0 + 6) := ⟨e1, e2⟩
    have h3 := X.same.trans h2
    rw [List.append_nil] at h3
    exact h3.mono hc hs
  refine ⟨U, ?_, .threw T.heap.size, hrun, hend, Or.inr ⟨T.heap.size, rfl, cls, ce, locs, hx U hWs.alike f1 (fun q hq => f2 q hq (fun z hz => nomatch hz)), hce, hO.vm, hcl, hWs, hall, hf⟩⟩
  refine st1 _ ?_
  show Steps p.tables e below (T1.setTop { method := m, pc := pc + 3, locals := ls, stack := .ref T.heap.size :: rest, locked := none }) _
  jvm_step X₁.here [X₁.here.top, hexec, d3', Value.category]
  exact X₁.ldcStringW hexec (own := own) (text := text) (index := is) (a := sa) hown' hstr'.1 hstr'.2
    (g := { method := m, pc := pc + 4, locals := ls, stack := .ref T.heap.size :: .ref T.heap.size :: rest, locked := none }) rfl d4' _ hsteps
end Ends
section Bodies
variable {l : Launch}
theorem vx_ofW {y : MethodName} {ws ws' : List Cond} {rm : Room} {Pc : Array Value → State → Prop} {Qc : Array Value → State → Outcome → State → Prop} {XC : String → State → State → Prop} {mc ms : Nat} {free : Addr → Prop} {cc : ByteArray} {maxL : Nat} {ret : Option FieldType}
    (hy : plainName y.cls = true) (hw : ws = Cond.code y cc maxL ret :: ws')
    (body : ∀ p e s m args below meth c s₁, BodyLoose p l y (headSpec ws rm) cc maxL ret e s m args below meth c s₁ → c.maxLocals = maxL → (∀ x ∈ c.exceptionTable.toList, False) → Pc args s →
      W p l e (headSpec ws rm).room s m args below meth c s.heap [] 0 0 (vx_MQ below Qc XC args s mc ms free) (entryFrame m args maxL)) : vx_Met l y ws rm Pc Qc XC mc ms free := by
  refine MetFree.of_bodyS (code := cc) (maxLocals := maxL) (ret := ret) hy ?_ ?_
  · intro args s m h hn
    obtain ⟨meth, c, h1, h2, h3, h4, h5, h6, -, -⟩ := Cond.code_spec hn (atoms_spec (ws := ws) h _ (by rw [hw]; exact List.mem_cons_self))
    exact ⟨meth, c, h1, h2, h3, h4, h5, h6⟩
  · intro p e s m args below meth c s₁ B hml hP _
    have hh0 : s₁.heap = s.heap := by rw [B.state]; rfl
    have ht : ∀ x ∈ c.exceptionTable.toList, False := by
      obtain ⟨meth9, c9, h1, h2, -, -, -, -, h7, -⟩ := Cond.code_spec B.named (atoms_spec (ws := ws) B.pre _ (by rw [hw]; exact List.mem_cons_self))
      cases Option.some.inj (h1.symm.trans B.method)
      cases Option.some.inj (h2.symm.trans (Stand.of_body B).code)
      intro x hx
      rw [Array.isEmpty_iff.mp h7] at hx
      cases hx
    obtain ⟨t, a1, o, b1, b2, b3⟩ := body p e s m args below meth c s₁ B hml ht hP s₁ hh0 (Stand.of_body B)
    exact ⟨t, o, a1, b1, b2, b3⟩
/-- the table of a body with handlers -/
theorem vx_table {p : Program} {x y : MethodName} {S : Spec} {cc bytes : ByteArray} {maxL maxL' : Nat} {ret ret' : Option FieldType} {e : Env} {s s₁ : State} {m : MethodId} {args : Array Value} {below : List Frame} {meth : Method} {c : Code} {hh : List (Nat × Nat × Nat × Nat)}
    (B : BodyLoose p l y S cc maxL ret e s m args below meth c s₁) (h : (Cond.codeWith y bytes maxL' ret' hh).before args s = true) : c.exceptionTable.toList = tableOf hh := by
  obtain ⟨m9, meth9, c9, hn9, h1, h2, -, -, h6, -⟩ := Cond.codeWith_spec h
  cases Option.some.inj (hn9.symm.trans B.named)
  cases Option.some.inj (h1.symm.trans B.method)
  cases Option.some.inj (h2.symm.trans (Stand.of_body B).code)
  rw [← h6, table_eq]
end Bodies
end VXA
/-! ===== END ===== -/
/-! ===== BEGIN a static call of a method with an exception table ===== -/
section VXS
variable {p : Program} {l : Launch} {e : Env} {R : Room} {s : State} {m : MethodId} {args : Array Value} {below : List Frame} {meth : Method} {c : Code} {T : State} {H : Heap} {locs : List Loc} {cells slots : Nat}
abbrev vx_CSW (R : Room) (s : State) (args : Array Value) (own : String) (index : Nat) (y : MethodName) (bytes : ByteArray) (maxL : Nat) (ret : Option FieldType) (hh : List (Nat × Nat × Nat × Nat)) (ws : List Cond) (rm : Room) (mc ms n : Nat) : Prop :=
  (rm.cells = mc ∧ rm.slots = ms ∧ rm.frames + 1 ≤ R.frames ∧ 8 + (maxL + 11) + rm.locals ≤ R.locals ∧ (∀ w ∈ ws, ∀ (a' : Array Value) (U : State), s.WarmedH U.vm → w.before a' U = true) ∧ Cond.codeWith y bytes maxL ret hh ∈ ws) ∧
  (Cond.codeWith y bytes maxL ret hh).before args s = true ∧ (Cond.initialized y.cls).before args s = true ∧ (y.cls ≠ "java/lang/invoke/MethodHandle" ∧ y.cls ≠ "java/lang/invoke/VarHandle") ∧
  (∀ sig, parseMethodDescriptor y.desc = some sig → n = sig.parameters.length) ∧ (Cond.methodLink own index y).before args s = true ∧ (Cond.static y).before args s = true
theorem vx_cwSW {own : String} {index maxL mc ms : Nat} {y : MethodName} {bytes : ByteArray} {ret : Option FieldType} {hh : List (Nat × Nat × Nat × Nat)} {Ts ws ws' : List Cond} {rm : Room} (n : Nat) (ht : ∀ w ∈ Ts, w.before args s = true) (hT : GoodIn Ts (va_wsS own index y ws)) (hw : ws = Cond.codeWith y bytes maxL ret hh :: ws') (hrc : rm.cells = mc) (hrs : rm.slots = ms)
    (hd : y.cls ≠ "java/lang/invoke/MethodHandle" ∧ y.cls ≠ "java/lang/invoke/VarHandle" ∧ (parseMethodDescriptor y.desc).map (fun d => d.parameters.length) = some n) (hR : rm.frames + 1 ≤ R.frames ∧ 8 + (maxL + 11) + rm.locals ≤ R.locals) :
    vx_CSW R s args own index y bytes maxL ret hh ws rm mc ms n := by
  have ok : ∀ w ∈ va_wsS own index y ws, w.before args s = true := fun w h => ht w (hT w h).1
  have hG : GoodIn Ts ws := fun w h => hT w (by unfold va_wsS; exact List.mem_append_right _ h)
  have hc : Cond.codeWith y bytes maxL ret hh ∈ ws := by rw [hw]; exact List.mem_cons_self
  refine ⟨⟨hrc, hrs, hR.1, hR.2, pay_in ht hG, hc⟩, ht _ (hG _ hc).1, ok _ (by simp [va_wsS]), ⟨hd.1, hd.2.1⟩, fun sig h => ?_, ok _ (by simp [va_wsS]), ok _ (by simp [va_wsS])⟩
  have h2 := hd.2.2
  rw [h] at h2
  exact (Option.some.inj h2).symm
theorem vx_callSW (X : Stand p l e R s m args below meth c T locs cells slots) (hexec : p.tables.exec = Jvm.exec) {own : String} {index : Nat} {y : MethodName} {bytes : ByteArray} {maxL : Nat} {ret : Option FieldType} {hh : List (Nat × Nat × Nat × Nat)}
    (hown : s.vm.findClass own = some m.cls) (hlink : (Cond.methodLink own index y).before args s = true) (hstat : (Cond.static y).before args s = true) (hinit : (Cond.initialized y.cls).before args s = true)
    (hcode : (Cond.codeWith y bytes maxL ret hh).before args s = true) (hy : y.cls ≠ "java/lang/invoke/MethodHandle" ∧ y.cls ≠ "java/lang/invoke/VarHandle")
    {W9 : Nat} {Pre : Pt → Array Value → Prop} {Post : Pt → Array Value → Option Value → Pt → Prop} (hK : Back l R p e below s args y 3 W9 Pre Post)
    {g : JFrame} (hg : g.method = m) (hsize : g.locals.size = c.maxLocals) {argsL rest : List Value} (hlen : ∀ sig, parseMethodDescriptor y.desc = some sig → argsL.length = sig.parameters.length)
    (hstack : g.stack = argsL.reverse ++ rest) (hW : 2 * g.monitorRoom + (rest.map fun v => v.category).sum ≤ W9) (hdg : decode c.code g.pc = .ok (.invokestatic index, 3))
    (hpre : ∀ vm₁, s.WarmedH vm₁ → Pre ⟨T.setVm vm₁, locs, cells, slots⟩ argsL.toArray) :
    ∃ (v : Option Value) (vm₁ : Vm) (B : Pt), s.WarmedH vm₁ ∧ Stand p l e R s m args below meth c B.U B.locs B.cells B.slots ∧ Post ⟨T.setVm vm₁, locs, cells, slots⟩ argsL.toArray v B ∧
      ∀ target, Steps p.tables e below (B.U.setTop { g with pc := g.pc + 3, stack := v.toList ++ rest }) target → Steps p.tables e below (T.setTop g) target := by
  obtain ⟨mk, methM, cM, hnamed, hmethM, -, -, -, -, -, -, hsigM⟩ := Cond.codeWith_spec hcode
  have hstatic : methM.isStatic = true := Cond.static_spec hnamed hmethM hstat
  obtain ⟨kP, hkP, -⟩ := className_of_methodNamed hnamed
  have hinitP : kP.init = .initialized := Cond.initialized_spec (findClass_of_methodNamed hnamed) hkP hinit
  obtain ⟨vm₁, X₁, hstep₁⟩ := X.invokestatic hexec hown hlink hnamed hmethM hstatic hkP hinitP hy (g := g) hg (argsL := argsL) (rest := rest) (hlen _ hsigM) hstack hdg
  obtain ⟨v, B, X', hpost, hsteps⟩ := hK m meth c ⟨T.setVm vm₁, locs, cells, slots⟩ { g with stack := rest } (.invokestatic index) mk argsL.toArray X₁ hg hsize hdg hW (X₁.named hnamed) (hpre vm₁ X₁.warmed)
  exact ⟨v, vm₁, B, X₁.warmed, X', hpost, fun target h => hstep₁ _ fun acts => by rw [doInvoke_state]; exact hsteps.trans h⟩
theorem vx_runSW {y : MethodName} {bytes cc : ByteArray} {maxL nL mc ms n index : Nat} {ret : Option FieldType} {hh : List (Nat × Nat × Nat × Nat)} {ws : List Cond} {rm : Room} {Pc : Array Value → State → Prop} {Qc : Array Value → State → Outcome → State → Prop} {free : Addr → Prop} {Ts : List Cond} {own : String} {As rest : List Value} {g : JFrame}
    (S : CallFix p m c cc nL s args Ts own) (hM : Met l y ws rm Pc Qc mc ms free) (cw : vx_CSW R s args own index y bytes maxL ret hh ws rm mc ms n) (hp : PreS s H Pc As)
    (hg : g.method = m) (hn : As.length = n) (hsize : g.locals.size = nL) (hstack : g.stack = As.reverse ++ rest) (hW : 2 * g.monitorRoom + (rest.map fun v => v.category).sum ≤ 8) (hdg : decode cc g.pc = .ok (.invokestatic index, 3)) (hf : cells + mc ≤ R.cells ∧ slots + ms ≤ R.slots) :
    va_Run p l e R s m args below meth c H locs cells slots mc ms g rest (Qc As.toArray) (free) := by
  obtain ⟨⟨hrc, hrs, hfr, hlo, hws, hcw⟩, hcode, hini, hy, hlen, hl, hstt⟩ := cw
  have hK : Back l R p e below s args y 3 8 (PreOf R mc ms Pc) (PostOf Qc mc ms free) := va_backW (hh := hh) (bytes := bytes) (maxL := maxL) (ret := ret) hM hp.1 hrc hrs hfr hlo hws hcw (fun a' U hW => word_at hW (Or.inl (by first | rfl | simp [Cond.onTables, Cond.keeps, Cond.steady])) hini)
  obtain ⟨hx, hb, hml, ho, -⟩ := S
  intro T hT X
  obtain ⟨v, vm₁, ⟨U', l2, c2, s2⟩, hW₁, X', ⟨g', mk, t, L, e1, e2, hq, h1, hL, h2, h3⟩, st⟩ := vx_callSW X hx (hh := hh) (bytes := bytes) (maxL := maxL) (ret := ret) ho hl hstt hini hcode hy hK hg (hsize.trans hml.symm) (argsL := As) (rest := rest) (fun sig h => hn.trans (hlen sig h)) hstack hW (by rw [hb]; exact hdg)
    (fun vm₁ hW₁ => ⟨hf.1, hf.2, hp.2 (T.setVm vm₁) hT hW₁⟩)
  dsimp only [Pt.U, Pt.locs, Pt.cells, Pt.slots] at X' e1 e2 h1 h2 h3 st
  subst h1; subst h2; subst h3
  exact ⟨v, (T.setVm vm₁).calling g' mk As.toArray, t, U', L, hT, X', hL, e1, e2, hq, st⟩
/-- not caught here, past rows that name other classes: it goes on to the caller -/
theorem vx_outP {p : Program} {l : Launch} {e : Env} {R : Room} {s : State} {m : MethodId} {args : Array Value} {below : List Frame} {meth : Method} {c : Code} {H : Heap} {locs : List Loc} {cells slots : Nat} {free : Addr → Prop} {ls : Array Slot} {rest : List Value} {Qc : Array Value → State → Outcome → State → Prop} {XC : String → State → State → Prop}
    {pc : Nat} {own E : String} {ce : Cell} {q : Addr} {mc ms : Nat} (hown : s.vm.findClass own = some m.cls) (hlocks : meth.locks = false)
    (hpass : ∀ z ∈ c.exceptionTable.toList, covers z pc = false ∨ (z.catchType ≠ 0 ∧ ∃ nm : String, (Cond.classLink own z.catchType nm).before args s = true ∧ va_Nc E nm s)) (hcell : H[q]? = some ce) (hv : ce.vm = .none) (hcl : s.vm.findClass E = some ce.cls)
    (hx : ∀ t : State, t.heap = H → s.vm.Alike t.vm → XC E s t) (hf : ∀ z ∈ locs, free z.base) (hc : cells ≤ mc) (hs : slots ≤ ms) :
    vx_W p l e R s m args below meth c H locs cells slots (vx_MQ below Qc XC args s mc ms free) (F0 m pc ls rest) q := by
  intro T hT X
  have hpl : e.platform.magicAccessors = ({} : Platform).magicAccessors := by rw [X.admits.platform]
  obtain ⟨vm', hW', X', st⟩ := X.outThrough hlocks q (g := F0 m pc ls rest) rfl rfl rfl (cell := ce) (by rw [hT]; exact hcell) (by rw [hv]; rfl)
    (by obtain ⟨k9, h9, -⟩ := Vm.findClass_spec hcl; exact ⟨k9, h9⟩) (fun z hz => by
      rcases hpass z hz with h | ⟨hz0, nm, hl1, hn1⟩
      · exact Or.inl h
      · obtain ⟨c6, hc6, hcl6⟩ := Cond.classLink_spec hown hl1 e.platform hpl
        obtain ⟨a8, b8, h1, h2, h3⟩ := hn1
        cases Option.some.inj (h1.symm.trans hcl)
        cases Option.some.inj (h2.symm.trans hc6)
        exact Or.inr ⟨hz0, _, hcl6, h3⟩)
  obtain ⟨g₀, hfr⟩ := X'.frames_eq
  have hcell9 : ((T.setVm vm').setFrames (.throwing q :: below)).heap[q]? = some ce := by
    show T.heap[q]? = some ce
    rw [hT]; exact hcell
  have hend : Ended ((T.setVm vm').setFrames (.throwing q :: below)) below (.threw q) := State.frames_setFrames _ (State.cur_lt_of_frames hfr)
  refine ⟨(T.setVm vm').setFrames (.throwing q :: below), ?_, .threw q, X'.here.running, hend, Or.inr ⟨q, rfl, E, ce, locs, hx _ hT (X'.ends _).1.alike, hcell9, hv, hcl, (X'.ends _).1, (X'.ends _).2.mono hc hs, hf⟩⟩
  rw [X.pushThrowing_eq]
  exact st
/-- a thing of a world lies in the heap -/
theorem vx_lt {D : va_G} {cl : List vw_C} {ws : va_W} {H1 : Heap} (h : va_P D cl ws H1) {k : Nat} {q : Nat × va_E} (hk : ws[k]? = some q) : q.1 < H1.size := (h k q hk).lt
end VXS
/-! ===== END ===== -/
/-! ===== BEGIN methods with a table of their own: called by a name, returning or throwing ===== -/
section VXH
/-! vx_backW, vx_callVX, vx_callSX, vx_callVW, vx_runVW, vx_runVX, vx_runSX, vx_ofWH follow the same proofs as their sisters above (Free/Laws.lean, Shelf42/LK1.lean); vx_outP calls Shelf42/NT130.lean (outThrough). -/
section
variable {l : Launch} {R : Room} {p : Program} {e : Env} {below : List Frame} {s : State} {sargs : Array Value} {y : MethodName} {len W9 : Nat}
theorem vx_backW {ws : List Cond} {rm : Room} {Pc : Array Value → State → Prop} {Qc : Array Value → State → Outcome → State → Prop} {XC : String → State → State → Prop} {mc ms : Nat} {free : Addr → Prop} {bytes : ByteArray} {maxL : Nat} {ret : Option FieldType} {hh : List (Nat × Nat × Nat × Nat)}
    (hM : vx_Met l y ws rm Pc Qc XC mc ms free) (hblind : FrameBlind Pc) (hrc : rm.cells = mc) (hrs : rm.slots = ms)
    (hframes : rm.frames + 1 ≤ R.frames) (hlocals : W9 + (maxL + 11) + rm.locals ≤ R.locals)
    (hws : ∀ w ∈ ws, ∀ a' U, s.WarmedH U.vm → w.before a' U = true) (hcode : Cond.codeWith y bytes maxL ret hh ∈ ws) (hinit : ∀ a' U, s.WarmedH U.vm → (Cond.initialized y.cls).before a' U = true) :
    vx_Back l R p e below s sargs y len W9 (PreOf R mc ms Pc) (PostOf Qc mc ms free) (vx_Post XC mc ms free) := by
  intro m meth c A g ig mk a X hg hsize hdg hW hn hp
  have h1 : (headSpec ws rm).pre.before a A.U = true := atoms_intro fun w hw => hws w hw _ _ X.warmed
  have h2 : (Cond.codeWith y bytes maxL ret hh).before a A.U = true := hws _ hcode _ _ X.warmed
  have h3 : (Cond.initialized y.cls).before a A.U = true := hinit _ _ X.warmed
  have h4 : A.cells + (headSpec ws rm).room.cells ≤ R.cells := by rw [show (headSpec ws rm).room.cells = mc from hrc]; exact hp.1
  have h5 : A.slots + (headSpec ws rm).room.slots ≤ R.slots := by rw [show (headSpec ws rm).room.slots = ms from hrs]; exact hp.2.1
  have hPc : Pc a (A.U.calling g mk a) := hblind _ _ _ _ hp.2.2
  obtain ⟨U, Ls, c0, s0⟩ := A
  dsimp only [Pt.U, Pt.locs, Pt.cells, Pt.slots] at h1 h2 h3 h4 h5 X hn hPc ⊢
  obtain ⟨m9, methY, cY, hn9, hmY, hcY, -, hlY, -⟩ := Cond.codeWith_spec h2
  cases Option.some.inj (hn9.symm.trans hn)
  obtain ⟨kY, hkY, -⟩ := className_of_methodNamed hn
  have hinitY : kY.init = .initialized := Cond.initialized_spec (findClass_of_methodNamed hn) hkY h3
  have h : At U g.method c below := by rw [hg]; exact X.here
  have hlocals9 : W9 + (maxL + 11) + (headSpec ws rm).room.locals ≤ R.locals := hlocals
  have happ : (headSpec ws rm).appliesLoose y e.platform (U.calling g mk a) = true :=
    Spec.appliesLoose_calling (g := g) h hdg hn hkY hinitY
      (X.room_calling (g := g) (R' := (headSpec ws rm).room) hsize hmY hcY hframes (by rw [hlY]; omega) h4 h5) h1
  obtain ⟨mid, hmid⟩ := h.above
  have hfr : (U.setTop g).frames = (.java g :: mid) ++ below := by rw [State.frames_setTop' g h.top, hmid]; rfl
  obtain ⟨o, s₂, hsteps, -, hend, hq⟩ := Steps.callFree hM p X.admits X.cas X.clock (acts := []) hfr happ hPc trivial
  have hq' : vx_Q Qc XC mc ms free a (U.calling g mk a) o s₂ := hq
  rw [State.frames_setTop' g h.top] at hend
  obtain ⟨g₀, hg0⟩ := Option.isSome_iff_exists.mp h.top
  obtain ⟨r, hr⟩ := State.topJava?_eq_some.mp hg0
  have hr' : (({ U with heap := s₂.heap, slotsUsed := s₂.slotsUsed } : State).setVm s₂.vm).frames = .java g₀ :: r := hr
  rcases hq' with ⟨hqc, L, hfe, hL⟩ | ⟨q, rfl, E, ce, L, hx, hce, hcv, hcl, hW₂, hsm, hL⟩
  · obtain ⟨⟨v, rfl⟩, hW₂, e2, q2, q3, q4, q5, q6⟩ := id hfe
    have e3 : s₂ = ({ (U.calling g mk a).setFrames s₂.frames with heap := s₂.heap, slotsUsed := s₂.slotsUsed } : State).setVm s₂.vm := by
      have : s₂ = ({ s₂ with vm := (U.calling g mk a).vm } : State).setVm s₂.vm := rfl
      rw [e2] at this
      exact this
    obtain ⟨c₂, i₂, len₂, hc₂, hd₂, hf₂⟩ := hend
    have hW' : U.WarmedH s₂.vm := hW₂
    have hcc : c₂ = c := by
      have h1 : s₂.code? g.method = U.code? g.method := by
        rw [State.code?_eq, State.code?_eq, hW'.alike.method?]
      exact Option.some.inj (hc₂.symm.trans (h1.trans h.code))
    subst hcc
    have hlen : len₂ = len := by rw [hdg] at hd₂; cases hd₂; rfl
    subst hlen
    have hs₂ : s₂ = (({ U with heap := s₂.heap, slotsUsed := s₂.slotsUsed } : State).setVm s₂.vm).setTop { g with pc := g.pc + len₂, stack := v.toList ++ g.stack } := by
      refine e3.trans ?_
      rw [hf₂, State.calling_eq h.top, State.setFrames_setFrames, State.setTop_of_frames _ hr', hr]
      rfl
    have hsame : U.sameButNew ({ U with heap := s₂.heap, slotsUsed := s₂.slotsUsed } : State) L mc ms := by
      refine ⟨?_, q2, q3, q4, q5, q6⟩
      obtain ⟨t, ht, -⟩ := State.frames_cons hr
      show ({ U with heap := s₂.heap, slotsUsed := s₂.slotsUsed } : State) = { U.setFrames U.frames with heap := s₂.heap, slotsUsed := s₂.slotsUsed }
      rw [State.setFrames_self ht]
    subst hg
    refine Or.inl ⟨v, ⟨(({ U with heap := s₂.heap, slotsUsed := s₂.slotsUsed } : State).setVm s₂.vm), Ls ++ L, c0 + mc, s0 + ms⟩,
      ⟨X.admits, X.cas, X.clock, X.frames, X.room, X.hears, X.method, X.code, (X.here.setHeapUsed s₂.heap s₂.slotsUsed).setVm hW'.alike, X.tail, State.WarmedH.trans X.warmed hW', X.limits, X.bytes, X.same.trans (hsame.setVm s.vm)⟩,
      ⟨g, mk, s₂, L, rfl, rfl, hqc, rfl, hL, rfl, rfl⟩, ?_⟩
    show Steps p.tables e below _ ((({ U with heap := s₂.heap, slotsUsed := s₂.slotsUsed } : State).setVm s₂.vm).setTop { g with pc := g.pc + len₂, stack := v.toList ++ g.stack })
    rw [← hs₂]
    exact hsteps
  · obtain ⟨e2, q2, q3, q4, q5, q6⟩ := id hsm
    have e3 : s₂ = ({ (U.calling g mk a).setFrames s₂.frames with heap := s₂.heap, slotsUsed := s₂.slotsUsed } : State).setVm s₂.vm := by
      have : s₂ = ({ s₂ with vm := (U.calling g mk a).vm } : State).setVm s₂.vm := rfl
      rw [e2] at this
      exact this
    have hf₂ : s₂.frames = .throwing q :: .java g :: U.frames.tail := hend
    have hW' : U.WarmedH s₂.vm := hW₂
    have hs₂ : s₂ = ((({ U with heap := s₂.heap, slotsUsed := s₂.slotsUsed } : State).setVm s₂.vm).setTop g).pushFrame (.throwing q) := by
      refine e3.trans ?_
      rw [hf₂, State.calling_eq h.top, State.setFrames_setFrames, State.pushFrame, State.frames_setTop _ hr', State.setTop_of_frames _ hr', State.setFrames_setFrames, hr]
      rfl
    have hsame : U.sameButNew ({ U with heap := s₂.heap, slotsUsed := s₂.slotsUsed } : State) L mc ms := by
      refine ⟨?_, q2, q3, q4, q5, q6⟩
      obtain ⟨t, ht, -⟩ := State.frames_cons hr
      show ({ U with heap := s₂.heap, slotsUsed := s₂.slotsUsed } : State) = { U.setFrames U.frames with heap := s₂.heap, slotsUsed := s₂.slotsUsed }
      rw [State.setFrames_self ht]
    subst hg
    refine Or.inr ⟨q, ⟨(({ U with heap := s₂.heap, slotsUsed := s₂.slotsUsed } : State).setVm s₂.vm), Ls ++ L, c0 + mc, s0 + ms⟩,
      ⟨X.admits, X.cas, X.clock, X.frames, X.room, X.hears, X.method, X.code, (X.here.setHeapUsed s₂.heap s₂.slotsUsed).setVm hW'.alike, X.tail, State.WarmedH.trans X.warmed hW', X.limits, X.bytes, X.same.trans (hsame.setVm s.vm)⟩,
      ⟨g, mk, s₂, L, E, ce, rfl, rfl, hx, hce, hcv, hcl, rfl, hL, rfl, rfl⟩, ?_⟩
    show Steps p.tables e below _ (((({ U with heap := s₂.heap, slotsUsed := s₂.slotsUsed } : State).setVm s₂.vm).setTop g).pushFrame (.throwing q))
    rw [← hs₂]
    exact hsteps
end
variable {p : Program} {l : Launch} {e : Env} {R : Room} {s : State} {m : MethodId} {args : Array Value} {below : List Frame} {meth : Method} {c : Code} {T : State} {H : Heap} {locs : List Loc} {cells slots : Nat}
theorem vx_callVX (X : Stand p l e R s m args below meth c T locs cells slots) (hexec : p.tables.exec = Jvm.exec) {own C : String} {index : Nat} {y : MethodName} {bytes : ByteArray} {maxL : Nat} {ret : Option FieldType} {hh : List (Nat × Nat × Nat × Nat)}
    (hown : s.vm.findClass own = some m.cls) (hlink : (Cond.methodLink own index y).before args s = true) (hinst : (Cond.instanceMethod y).before args s = true) (hsel : (Cond.selects C y y).before args s = true)
    (hcode : (Cond.codeWith y bytes maxL ret hh).before args s = true) (hy : y.cls ≠ "java/lang/invoke/MethodHandle" ∧ y.cls ≠ "java/lang/invoke/VarHandle")
    {W9 : Nat} {Pre : Pt → Array Value → Prop} {Post : Pt → Array Value → Option Value → Pt → Prop} {PostX : Pt → Array Value → Addr → Pt → Prop} (hK : vx_Back l R p e below s args y 3 W9 Pre Post PostX)
    {b : Addr} {cellB : Cell} (hcell : T.heap[b]? = some cellB) (hobj : cellB.vm.isStatics = false) (hcls : s.vm.findClass C = some cellB.cls)
    {g : JFrame} (hg : g.method = m) (hsize : g.locals.size = c.maxLocals) {argsL rest : List Value} (hlen : ∀ sig, parseMethodDescriptor y.desc = some sig → argsL.length = sig.parameters.length)
    (hstack : g.stack = argsL.reverse ++ .ref b :: rest) (hW : 2 * g.monitorRoom + (rest.map fun v => v.category).sum ≤ W9) (hdg : decode c.code g.pc = .ok (.invokevirtual index, 3))
    (hpre : ∀ vm₁, s.WarmedH vm₁ → Pre ⟨T.setVm vm₁, locs, cells, slots⟩ (Value.ref b :: argsL).toArray) :
    (∃ (v : Option Value) (vm₁ : Vm) (B : Pt), s.WarmedH vm₁ ∧ Stand p l e R s m args below meth c B.U B.locs B.cells B.slots ∧ Post ⟨T.setVm vm₁, locs, cells, slots⟩ (Value.ref b :: argsL).toArray v B ∧
      ∀ target, Steps p.tables e below (B.U.setTop { g with pc := g.pc + 3, stack := v.toList ++ rest }) target → Steps p.tables e below (T.setTop g) target) ∨
    (∃ (q : Addr) (vm₁ : Vm) (B : Pt), s.WarmedH vm₁ ∧ Stand p l e R s m args below meth c B.U B.locs B.cells B.slots ∧ PostX ⟨T.setVm vm₁, locs, cells, slots⟩ (Value.ref b :: argsL).toArray q B ∧
      Steps p.tables e below (T.setTop g) ((B.U.setTop { g with stack := rest }).pushFrame (.throwing q))) := by
  obtain ⟨mk, methM, hnamed, hmethM, hstM, habM⟩ := Cond.instanceMethod_spec hinst
  obtain ⟨m8, methM', cM, hn8, hmethM', -, -, -, -, -, -, hsigM⟩ := Cond.codeWith_spec hcode
  cases Option.some.inj (hn8.symm.trans hnamed)
  cases hmethM.symm.trans hmethM'
  obtain ⟨c2, r2, m2, q1, q2, q3, q4, kP, hkP, hkPi⟩ := Cond.selects_spec hsel
  cases hcls.symm.trans q1
  cases (State.methodFound?_of_named hnamed hy).symm.trans q2
  cases hnamed.symm.trans q3
  have hselP : selectMethod e.platform s.vm cellB.cls mk = .method mk := by rw [Launch.admits_selectMethod X.admits]; exact q4
  obtain ⟨vm₁, X₁, hstep₁⟩ := X.invokevirtual hexec hown hlink hnamed hmethM hstM hkP hkPi hy (a := b) (cell := cellB) hcell
    (fun z h => by rw [h] at hobj; cases hobj) hselP hmethM habM hkP hkPi (g := g) hg (argsL := argsL) (rest := rest) (hlen _ hsigM) hstack hdg
  rcases hK m meth c ⟨T.setVm vm₁, locs, cells, slots⟩ { g with stack := rest } (.invokevirtual index) mk (Value.ref b :: argsL).toArray X₁ hg hsize hdg hW (X₁.named hnamed) (hpre vm₁ X₁.warmed) with ⟨v, B, X', hpost, hsteps⟩ | ⟨q, B, X', hpost, hsteps⟩
  · exact Or.inl ⟨v, vm₁, B, X₁.warmed, X', hpost, fun target h => hstep₁ _ fun acts => by rw [doInvoke_state]; exact hsteps.trans h⟩
  · exact Or.inr ⟨q, vm₁, B, X₁.warmed, X', hpost, hstep₁ _ fun acts => by rw [doInvoke_state]; exact hsteps⟩
theorem vx_callSX (X : Stand p l e R s m args below meth c T locs cells slots) (hexec : p.tables.exec = Jvm.exec) {own : String} {index : Nat} {y : MethodName} {bytes : ByteArray} {maxL : Nat} {ret : Option FieldType} {hh : List (Nat × Nat × Nat × Nat)}
    (hown : s.vm.findClass own = some m.cls) (hlink : (Cond.methodLink own index y).before args s = true) (hstat : (Cond.static y).before args s = true) (hinit : (Cond.initialized y.cls).before args s = true)
    (hcode : (Cond.codeWith y bytes maxL ret hh).before args s = true) (hy : y.cls ≠ "java/lang/invoke/MethodHandle" ∧ y.cls ≠ "java/lang/invoke/VarHandle")
    {W9 : Nat} {Pre : Pt → Array Value → Prop} {Post : Pt → Array Value → Option Value → Pt → Prop} {PostX : Pt → Array Value → Addr → Pt → Prop} (hK : vx_Back l R p e below s args y 3 W9 Pre Post PostX)
    {g : JFrame} (hg : g.method = m) (hsize : g.locals.size = c.maxLocals) {argsL rest : List Value} (hlen : ∀ sig, parseMethodDescriptor y.desc = some sig → argsL.length = sig.parameters.length)
    (hstack : g.stack = argsL.reverse ++ rest) (hW : 2 * g.monitorRoom + (rest.map fun v => v.category).sum ≤ W9) (hdg : decode c.code g.pc = .ok (.invokestatic index, 3))
    (hpre : ∀ vm₁, s.WarmedH vm₁ → Pre ⟨T.setVm vm₁, locs, cells, slots⟩ argsL.toArray) :
    (∃ (v : Option Value) (vm₁ : Vm) (B : Pt), s.WarmedH vm₁ ∧ Stand p l e R s m args below meth c B.U B.locs B.cells B.slots ∧ Post ⟨T.setVm vm₁, locs, cells, slots⟩ argsL.toArray v B ∧
      ∀ target, Steps p.tables e below (B.U.setTop { g with pc := g.pc + 3, stack := v.toList ++ rest }) target → Steps p.tables e below (T.setTop g) target) ∨
    (∃ (q : Addr) (vm₁ : Vm) (B : Pt), s.WarmedH vm₁ ∧ Stand p l e R s m args below meth c B.U B.locs B.cells B.slots ∧ PostX ⟨T.setVm vm₁, locs, cells, slots⟩ argsL.toArray q B ∧
      Steps p.tables e below (T.setTop g) ((B.U.setTop { g with stack := rest }).pushFrame (.throwing q))) := by
  obtain ⟨mk, methM, cM, hnamed, hmethM, -, -, -, -, -, -, hsigM⟩ := Cond.codeWith_spec hcode
  have hstatic : methM.isStatic = true := Cond.static_spec hnamed hmethM hstat
  obtain ⟨kP, hkP, -⟩ := className_of_methodNamed hnamed
  have hinitP : kP.init = .initialized := Cond.initialized_spec (findClass_of_methodNamed hnamed) hkP hinit
  obtain ⟨vm₁, X₁, hstep₁⟩ := X.invokestatic hexec hown hlink hnamed hmethM hstatic hkP hinitP hy (g := g) hg (argsL := argsL) (rest := rest) (hlen _ hsigM) hstack hdg
  rcases hK m meth c ⟨T.setVm vm₁, locs, cells, slots⟩ { g with stack := rest } (.invokestatic index) mk argsL.toArray X₁ hg hsize hdg hW (X₁.named hnamed) (hpre vm₁ X₁.warmed) with ⟨v, B, X', hpost, hsteps⟩ | ⟨q, B, X', hpost, hsteps⟩
  · exact Or.inl ⟨v, vm₁, B, X₁.warmed, X', hpost, fun target h => hstep₁ _ fun acts => by rw [doInvoke_state]; exact hsteps.trans h⟩
  · exact Or.inr ⟨q, vm₁, B, X₁.warmed, X', hpost, hstep₁ _ fun acts => by rw [doInvoke_state]; exact hsteps⟩
theorem vx_callVW (X : Stand p l e R s m args below meth c T locs cells slots) (hexec : p.tables.exec = Jvm.exec) {own C : String} {index : Nat} {y : MethodName} {bytes : ByteArray} {maxL : Nat} {ret : Option FieldType} {hh : List (Nat × Nat × Nat × Nat)}
    (hown : s.vm.findClass own = some m.cls) (hlink : (Cond.methodLink own index y).before args s = true) (hinst : (Cond.instanceMethod y).before args s = true) (hsel : (Cond.selects C y y).before args s = true)
    (hcode : (Cond.codeWith y bytes maxL ret hh).before args s = true) (hy : y.cls ≠ "java/lang/invoke/MethodHandle" ∧ y.cls ≠ "java/lang/invoke/VarHandle")
    {W9 : Nat} {Pre : Pt → Array Value → Prop} {Post : Pt → Array Value → Option Value → Pt → Prop} (hK : Back l R p e below s args y 3 W9 Pre Post)
    {b : Addr} {cellB : Cell} (hcell : T.heap[b]? = some cellB) (hobj : cellB.vm.isStatics = false) (hcls : s.vm.findClass C = some cellB.cls)
    {g : JFrame} (hg : g.method = m) (hsize : g.locals.size = c.maxLocals) {argsL rest : List Value} (hlen : ∀ sig, parseMethodDescriptor y.desc = some sig → argsL.length = sig.parameters.length)
    (hstack : g.stack = argsL.reverse ++ .ref b :: rest) (hW : 2 * g.monitorRoom + (rest.map fun v => v.category).sum ≤ W9) (hdg : decode c.code g.pc = .ok (.invokevirtual index, 3))
    (hpre : ∀ vm₁, s.WarmedH vm₁ → Pre ⟨T.setVm vm₁, locs, cells, slots⟩ (Value.ref b :: argsL).toArray) :
    ∃ (v : Option Value) (vm₁ : Vm) (B : Pt), s.WarmedH vm₁ ∧ Stand p l e R s m args below meth c B.U B.locs B.cells B.slots ∧ Post ⟨T.setVm vm₁, locs, cells, slots⟩ (Value.ref b :: argsL).toArray v B ∧
      ∀ target, Steps p.tables e below (B.U.setTop { g with pc := g.pc + 3, stack := v.toList ++ rest }) target → Steps p.tables e below (T.setTop g) target := by
  obtain ⟨mk, methM, hnamed, hmethM, hstM, habM⟩ := Cond.instanceMethod_spec hinst
  obtain ⟨m8, methM', cM, hn8, hmethM', -, -, -, -, -, -, hsigM⟩ := Cond.codeWith_spec hcode
  cases Option.some.inj (hn8.symm.trans hnamed)
  cases hmethM.symm.trans hmethM'
  obtain ⟨c2, r2, m2, q1, q2, q3, q4, kP, hkP, hkPi⟩ := Cond.selects_spec hsel
  cases hcls.symm.trans q1
  cases (State.methodFound?_of_named hnamed hy).symm.trans q2
  cases hnamed.symm.trans q3
  have hselP : selectMethod e.platform s.vm cellB.cls mk = .method mk := by rw [Launch.admits_selectMethod X.admits]; exact q4
  obtain ⟨vm₁, X₁, hstep₁⟩ := X.invokevirtual hexec hown hlink hnamed hmethM hstM hkP hkPi hy (a := b) (cell := cellB) hcell
    (fun z h => by rw [h] at hobj; cases hobj) hselP hmethM habM hkP hkPi (g := g) hg (argsL := argsL) (rest := rest) (hlen _ hsigM) hstack hdg
  obtain ⟨v, B, X', hpost, hsteps⟩ := hK m meth c ⟨T.setVm vm₁, locs, cells, slots⟩ { g with stack := rest } (.invokevirtual index) mk (Value.ref b :: argsL).toArray X₁ hg hsize hdg hW (X₁.named hnamed) (hpre vm₁ X₁.warmed)
  exact ⟨v, vm₁, B, X₁.warmed, X', hpost, fun target h => hstep₁ _ fun acts => by rw [doInvoke_state]; exact hsteps.trans h⟩
abbrev vx_CVW (R : Room) (s : State) (args : Array Value) (own C : String) (index : Nat) (y : MethodName) (bytes : ByteArray) (maxL : Nat) (ret : Option FieldType) (hh : List (Nat × Nat × Nat × Nat)) (ws : List Cond) (rm : Room) (mc ms n : Nat) : Prop :=
  (rm.cells = mc ∧ rm.slots = ms ∧ rm.frames + 1 ≤ R.frames ∧ 8 + (maxL + 11) + rm.locals ≤ R.locals ∧ (∀ w ∈ ws, ∀ (a' : Array Value) (U : State), s.WarmedH U.vm → w.before a' U = true) ∧ Cond.codeWith y bytes maxL ret hh ∈ ws) ∧
  (Cond.codeWith y bytes maxL ret hh).before args s = true ∧ (Cond.initialized y.cls).before args s = true ∧ (y.cls ≠ "java/lang/invoke/MethodHandle" ∧ y.cls ≠ "java/lang/invoke/VarHandle") ∧
  (∀ sig, parseMethodDescriptor y.desc = some sig → n = sig.parameters.length) ∧ (Cond.methodLink own index y).before args s = true ∧ (Cond.instanceMethod y).before args s = true ∧ (Cond.selects C y y).before args s = true
theorem vx_cwVW {own C : String} {index maxL mc ms : Nat} {y : MethodName} {bytes : ByteArray} {ret : Option FieldType} {hh : List (Nat × Nat × Nat × Nat)} {Ts ws ws' : List Cond} {rm : Room} (n : Nat) (ht : ∀ w ∈ Ts, w.before args s = true) (hT : GoodIn Ts (wsV own index C y ws)) (hw : ws = Cond.codeWith y bytes maxL ret hh :: ws') (hrc : rm.cells = mc) (hrs : rm.slots = ms)
    (hd : y.cls = C ∧ y.cls ≠ "java/lang/invoke/MethodHandle" ∧ y.cls ≠ "java/lang/invoke/VarHandle" ∧ (parseMethodDescriptor y.desc).map (fun d => d.parameters.length) = some n) (hR : rm.frames + 1 ≤ R.frames ∧ 8 + (maxL + 11) + rm.locals ≤ R.locals) :
    vx_CVW R s args own C index y bytes maxL ret hh ws rm mc ms n := by
  obtain ⟨hC, hd⟩ := hd
  subst hC
  have ok : ∀ w ∈ wsV own index y.cls y ws, w.before args s = true := fun w h => ht w (hT w h).1
  have hG : GoodIn Ts ws := fun w h => hT w (by unfold wsV; exact List.mem_append_right _ h)
  have hc : Cond.codeWith y bytes maxL ret hh ∈ ws := by rw [hw]; exact List.mem_cons_self
  refine ⟨⟨hrc, hrs, hR.1, hR.2, pay_in ht hG, hc⟩, ht _ (hG _ hc).1, ok _ (by simp [wsV]), ⟨hd.1, hd.2.1⟩, fun sig h => ?_, ok _ (by simp [wsV]), ok _ (by simp [wsV]), ok _ (by simp [wsV])⟩
  have h2 := hd.2.2
  rw [h] at h2
  exact (Option.some.inj h2).symm
theorem vx_runVW {y : MethodName} {bytes cc : ByteArray} {maxL nL mc ms n index : Nat} {ret : Option FieldType} {hh : List (Nat × Nat × Nat × Nat)} {ws : List Cond} {rm : Room} {Pc : Array Value → State → Prop} {Qc : Array Value → State → Outcome → State → Prop} {free : Addr → Prop} {Ts : List Cond} {own C : String} {b : Addr} {As rest : List Value} {g : JFrame}
    (S : CallFix p m c cc nL s args Ts own) (hM : Met l y ws rm Pc Qc mc ms free) (cw : vx_CVW R s args own C index y bytes maxL ret hh ws rm mc ms n) (hp : PreV s H C b Pc As)
    (hg : g.method = m) (hn : As.length = n) (hsize : g.locals.size = nL) (hstack : g.stack = As.reverse ++ .ref b :: rest) (hW : 2 * g.monitorRoom + (rest.map fun v => v.category).sum ≤ 8) (hdg : decode cc g.pc = .ok (.invokevirtual index, 3)) (hf : cells + mc ≤ R.cells ∧ slots + ms ≤ R.slots) :
    va_Run p l e R s m args below meth c H locs cells slots mc ms g rest (Qc (Value.ref b :: As).toArray) free := by
  obtain ⟨⟨hrc, hrs, hfr, hlo, hws, hcw⟩, hcode, hini, hy, hlen, hl, hin, hse⟩ := cw
  have hK : Back l R p e below s args y 3 8 (PreOf R mc ms Pc) (PostOf Qc mc ms free) := va_backW (hh := hh) (bytes := bytes) (maxL := maxL) (ret := ret) hM hp.1 hrc hrs hfr hlo hws hcw (fun a' U hW => word_at hW (Or.inl (by first | rfl | simp [Cond.onTables, Cond.keeps, Cond.steady])) hini)
  obtain ⟨hx, hb, hml, ho, -⟩ := S
  obtain ⟨-, ⟨cellB, hcB, hoB, hclB⟩, hPc⟩ := hp
  intro T hT X
  obtain ⟨v, vm₁, ⟨U', l2, c2, s2⟩, hW₁, X', ⟨g', mk, t, L, e1, e2, hq, h1, hL, h2, h3⟩, st⟩ := vx_callVW X hx (C := C) (hh := hh) (bytes := bytes) (maxL := maxL) (ret := ret) ho hl hin hse hcode hy hK (by rw [hT]; exact hcB) hoB hclB hg (hsize.trans hml.symm) (argsL := As) (rest := rest) (fun sig h => hn.trans (hlen sig h)) hstack hW (by rw [hb]; exact hdg)
    (fun vm₁ hW₁ => ⟨hf.1, hf.2, hPc (T.setVm vm₁) hT hW₁⟩)
  dsimp only [Pt.U, Pt.locs, Pt.cells, Pt.slots] at X' e1 e2 h1 h2 h3 st
  subst h1; subst h2; subst h3
  exact ⟨v, (T.setVm vm₁).calling g' mk (Value.ref b :: As).toArray, t, U', L, hT, X', hL, e1, e2, hq, st⟩
section
variable {y : MethodName} {bytes cc : ByteArray} {maxL nL mc ms n index : Nat} {ret : Option FieldType} {ws : List Cond} {rm : Room} {Pc : Array Value → State → Prop} {Qc : Array Value → State → Outcome → State → Prop} {XC : String → State → State → Prop} {free : Addr → Prop} {Ts : List Cond} {own C : String} {b : Addr} {As rest : List Value} {g : JFrame}
theorem vx_runVX {hh : List (Nat × Nat × Nat × Nat)} (S : CallFix p m c cc nL s args Ts own) (hM : vx_Met l y ws rm Pc Qc XC mc ms free) (cw : vx_CVW R s args own C index y bytes maxL ret hh ws rm mc ms n) (hp : PreV s H C b Pc As)
    (hg : g.method = m) (hn : As.length = n) (hsize : g.locals.size = nL) (hstack : g.stack = As.reverse ++ .ref b :: rest) (hW : 2 * g.monitorRoom + (rest.map fun v => v.category).sum ≤ 8) (hdg : decode cc g.pc = .ok (.invokevirtual index, 3)) (hf : cells + mc ≤ R.cells ∧ slots + ms ≤ R.slots) :
    vx_Run p l e R s m args below meth c H locs cells slots mc ms g rest (Qc (Value.ref b :: As).toArray) XC free := by
  obtain ⟨⟨hrc, hrs, hfr, hlo, hws, hcw⟩, hcode, hini, hy, hlen, hl, hin, hse⟩ := cw
  have hK : vx_Back l R p e below s args y 3 8 (PreOf R mc ms Pc) (PostOf Qc mc ms free) (vx_Post XC mc ms free) := vx_backW (hh := hh) (bytes := bytes) (maxL := maxL) (ret := ret) hM hp.1 hrc hrs hfr hlo hws hcw (fun a' U hW => word_at hW (Or.inl (by first | rfl | simp [Cond.onTables, Cond.keeps, Cond.steady])) hini)
  obtain ⟨hx, hb, hml, ho, -⟩ := S
  obtain ⟨-, ⟨cellB, hcB, hoB, hclB⟩, hPc⟩ := hp
  intro T hT X
  rcases vx_callVX X hx (C := C) (hh := hh) (bytes := bytes) (maxL := maxL) (ret := ret) ho hl hin hse hcode hy hK (by rw [hT]; exact hcB) hoB hclB hg (hsize.trans hml.symm) (argsL := As) (rest := rest) (fun sig h => hn.trans (hlen sig h)) hstack hW (by rw [hb]; exact hdg)
    (fun vm₁ hW₁ => ⟨hf.1, hf.2, hPc (T.setVm vm₁) hT hW₁⟩) with ⟨v, vm₁, ⟨U', l2, c2, s2⟩, hW₁, X', ⟨g', mk, t, L, e1, e2, hq, h1, hL, h2, h3⟩, st⟩ | ⟨q, vm₁, ⟨U', l2, c2, s2⟩, hW₁, X', ⟨g', mk, t, L, E, ce, e1, e2, hq, hce, hcv, hcl, h1, hL, h2, h3⟩, st⟩
  · dsimp only [Pt.U, Pt.locs, Pt.cells, Pt.slots] at X' e1 e2 h1 h2 h3 st
    subst h1; subst h2; subst h3
    exact Or.inl ⟨v, (T.setVm vm₁).calling g' mk (Value.ref b :: As).toArray, t, U', L, hT, X', hL, e1, e2, hq, st⟩
  · dsimp only [Pt.U, Pt.locs, Pt.cells, Pt.slots] at X' e1 e2 h1 h2 h3 st hcl
    subst h1; subst h2; subst h3
    exact Or.inr ⟨q, (T.setVm vm₁).calling g' mk (Value.ref b :: As).toArray, t, U', L, E, ce, hT, X', hL, e1, e2, hq, hce, hcv, vx_cls hW₁ hcl, st⟩
theorem vx_runSX {hh : List (Nat × Nat × Nat × Nat)} (S : CallFix p m c cc nL s args Ts own) (hM : vx_Met l y ws rm Pc Qc XC mc ms free) (cw : vx_CSW R s args own index y bytes maxL ret hh ws rm mc ms n) (hp : PreS s H Pc As)
    (hg : g.method = m) (hn : As.length = n) (hsize : g.locals.size = nL) (hstack : g.stack = As.reverse ++ rest) (hW : 2 * g.monitorRoom + (rest.map fun v => v.category).sum ≤ 8) (hdg : decode cc g.pc = .ok (.invokestatic index, 3)) (hf : cells + mc ≤ R.cells ∧ slots + ms ≤ R.slots) :
    vx_Run p l e R s m args below meth c H locs cells slots mc ms g rest (Qc As.toArray) XC free := by
  obtain ⟨⟨hrc, hrs, hfr, hlo, hws, hcw⟩, hcode, hini, hy, hlen, hl, hstt⟩ := cw
  have hK : vx_Back l R p e below s args y 3 8 (PreOf R mc ms Pc) (PostOf Qc mc ms free) (vx_Post XC mc ms free) := vx_backW (hh := hh) (bytes := bytes) (maxL := maxL) (ret := ret) hM hp.1 hrc hrs hfr hlo hws hcw (fun a' U hW => word_at hW (Or.inl (by first | rfl | simp [Cond.onTables, Cond.keeps, Cond.steady])) hini)
  obtain ⟨hx, hb, hml, ho, -⟩ := S
  intro T hT X
  rcases vx_callSX X hx (hh := hh) (bytes := bytes) (maxL := maxL) (ret := ret) ho hl hstt hini hcode hy hK hg (hsize.trans hml.symm) (argsL := As) (rest := rest) (fun sig h => hn.trans (hlen sig h)) hstack hW (by rw [hb]; exact hdg)
    (fun vm₁ hW₁ => ⟨hf.1, hf.2, hp.2 (T.setVm vm₁) hT hW₁⟩) with ⟨v, vm₁, ⟨U', l2, c2, s2⟩, hW₁, X', ⟨g', mk, t, L, e1, e2, hq, h1, hL, h2, h3⟩, st⟩ | ⟨q, vm₁, ⟨U', l2, c2, s2⟩, hW₁, X', ⟨g', mk, t, L, E, ce, e1, e2, hq, hce, hcv, hcl, h1, hL, h2, h3⟩, st⟩
  · dsimp only [Pt.U, Pt.locs, Pt.cells, Pt.slots] at X' e1 e2 h1 h2 h3 st
    subst h1; subst h2; subst h3
    exact Or.inl ⟨v, (T.setVm vm₁).calling g' mk As.toArray, t, U', L, hT, X', hL, e1, e2, hq, st⟩
  · dsimp only [Pt.U, Pt.locs, Pt.cells, Pt.slots] at X' e1 e2 h1 h2 h3 st hcl
    subst h1; subst h2; subst h3
    exact Or.inr ⟨q, (T.setVm vm₁).calling g' mk As.toArray, t, U', L, E, ce, hT, X', hL, e1, e2, hq, hce, hcv, vx_cls hW₁ hcl, st⟩
end
end VXH
theorem vx_ofWH {l : Launch} {y : MethodName} {ws ws' : List Cond} {rm : Room} {Pc : Array Value → State → Prop} {Qc : Array Value → State → Outcome → State → Prop} {XC : String → State → State → Prop} {mc ms : Nat} {free : Addr → Prop} {cc : ByteArray} {maxL : Nat} {ret : Option FieldType} {hh : List (Nat × Nat × Nat × Nat)}
    (hy : plainName y.cls = true) (hw : ws = Cond.codeWith y cc maxL ret hh :: ws')
    (body : ∀ p e s m args below meth c s₁, BodyLoose p l y (headSpec ws rm) cc maxL ret e s m args below meth c s₁ → c.maxLocals = maxL → Pc args s →
      W p l e (headSpec ws rm).room s m args below meth c s.heap [] 0 0 (vx_MQ below Qc XC args s mc ms free) (entryFrame m args maxL)) : vx_Met l y ws rm Pc Qc XC mc ms free := by
  refine MetFree.of_bodyS (code := cc) (maxLocals := maxL) (ret := ret) hy ?_ ?_
  · intro args s m h hn
    obtain ⟨m9, meth, c, hn9, h1, h2, h3, h4, -, h5, h6, -⟩ := Cond.codeWith_spec (atoms_spec (ws := ws) h _ (by rw [hw]; exact List.mem_cons_self))
    cases hn.symm.trans hn9
    exact ⟨meth, c, h1, h2, h3, h4, h5, h6⟩
  · intro p e s m args below meth c s₁ B hml hP _
    have hh0 : s₁.heap = s.heap := by rw [B.state]; rfl
    obtain ⟨t, a1, o, b1, b2, b3⟩ := body p e s m args below meth c s₁ B hml hP s₁ hh0 (Stand.of_body B)
    exact ⟨t, o, a1, b1, b2, b3⟩
/-! ===== END ===== -/
end
section
def RX0 : String := "Cubecaller$Dimension"
def TX0 : u_T := fun k => match k with
  | 0 => ("Cubecaller$Dimension", "count", "I", false)
  | 1 => ("Cubecaller$Dimension", "chosen", "I", false)
  | 2 => ("Cubecaller$Dimension", "pickedCount", "I", false)
  | 3 => ("Cubecaller$Dimension", "moves", "LCubecaller$Moves;", true)
  | 4 => ("Cubecaller$Dimension", "kinds", "[I", true)
  | 5 => ("Cubecaller$Dimension", "madeParents", "[I", true)
  | 6 => ("Cubecaller$Dimension", "signs", "[I", true)
  | 7 => ("Cubecaller$Dimension", "bridged", "[I", true)
  | 8 => ("Cubecaller$Dimension", "orders", "[I", true)
  | 9 => ("Cubecaller$Dimension", "hidden", "[Z", true)
  | 10 => ("Cubecaller$Dimension", "formulas", "[LCubecaller$Formula;", true)
  | 11 => ("Cubecaller$Dimension", "pickedRow", "[I", true)
  | 12 => ("Cubecaller$Dimension", "parents", "[I", true)
  | 13 => ("Cubecaller$Dimension", "depths", "[I", true)
  | 14 => ("Cubecaller$Dimension", "seen", "[Z", true)
  | _ => ("Cubecaller$Dimension", "weights", "[[I", true)
def tyX0 : Nat → FieldType := fun k => match k with
  | 0 => .int
  | 1 => .int
  | 2 => .int
  | 3 => .object "Cubecaller$Moves"
  | 4 => .array .int
  | 5 => .array .int
  | 6 => .array .int
  | 7 => .array .int
  | 8 => .array .int
  | 9 => .array .boolean
  | 10 => .array (.object "Cubecaller$Formula")
  | 11 => .array .int
  | 12 => .array .int
  | 13 => .array .int
  | 14 => .array .boolean
  | _ => .array (.array .int)
theorem nmX0 : ∀ a, a < 16 → ∀ b, b < 16 → a ≠ b → (TX0 a).2.1 ≠ (TX0 b).2.1 := by decide +kernel
theorem tyX0_ok : ∀ k, k < 16 → parseFieldDescriptor (TX0 k).2.2.1 = some (tyX0 k) := by decide +kernel
abbrev cX0_init : ByteArray := prog_2_method_1_code
def yX0_init : MethodName := ⟨RX0, "<init>", "()V"⟩
abbrev cX0_has : ByteArray := prog_2_method_2_code
def yX0_has : MethodName := ⟨RX0, "has", "(I)Z"⟩
abbrev cX0_kindOf : ByteArray := prog_2_method_3_code
def yX0_kindOf : MethodName := ⟨RX0, "kindOf", "(I)I"⟩
abbrev cX0_isPlain : ByteArray := prog_2_method_4_code
def yX0_isPlain : MethodName := ⟨RX0, "isPlain", "(I)Z"⟩
abbrev cX0_parentOf : ByteArray := prog_2_method_5_code
def yX0_parentOf : MethodName := ⟨RX0, "parentOf", "(I)I"⟩
abbrev cX0_depthOf : ByteArray := prog_2_method_6_code
def yX0_depthOf : MethodName := ⟨RX0, "depthOf", "(I)I"⟩
abbrev cX0_orderOf : ByteArray := prog_2_method_7_code
def yX0_orderOf : MethodName := ⟨RX0, "orderOf", "(I)I"⟩
abbrev cX0_formulaOf : ByteArray := prog_2_method_8_code
def yX0_formulaOf : MethodName := ⟨RX0, "formulaOf", "(I)LCubecaller$Formula;"⟩
abbrev cX0_isSeen : ByteArray := prog_2_method_9_code
def yX0_isSeen : MethodName := ⟨RX0, "isSeen", "(I)Z"⟩
abbrev cX0_standsFor : ByteArray := prog_2_method_10_code
def yX0_standsFor : MethodName := ⟨RX0, "standsFor", "(II)Z"⟩
abbrev cX0_areAllPlain : ByteArray := prog_2_method_11_code
def yX0_areAllPlain : MethodName := ⟨RX0, "areAllPlain", "(I)Z"⟩
abbrev cX0_addPlain : ByteArray := prog_2_method_12_code
def yX0_addPlain : MethodName := ⟨RX0, "addPlain", "(II)I"⟩
abbrev cX0_addBridge : ByteArray := prog_2_method_13_code
def yX0_addBridge : MethodName := ⟨RX0, "addBridge", "(I)I"⟩
abbrev cX0_addCalculated : ByteArray := prog_2_method_14_code
def yX0_addCalculated : MethodName := ⟨RX0, "addCalculated", "(LCubecaller$Formula;I)I"⟩
abbrev cX0_addKind : ByteArray := prog_2_method_15_code
def yX0_addKind : MethodName := ⟨RX0, "addKind", "(I)I"⟩
abbrev cX0_setHidden : ByteArray := prog_2_method_16_code
def yX0_setHidden : MethodName := ⟨RX0, "setHidden", "(IZ)Z"⟩
abbrev cX0_settle : ByteArray := prog_2_method_17_code
def yX0_settle : MethodName := ⟨RX0, "settle", "()V"⟩
abbrev cX0_isBridgeSeen : ByteArray := prog_2_method_18_code
def yX0_isBridgeSeen : MethodName := ⟨RX0, "isBridgeSeen", "(I)Z"⟩
abbrev cX0_weigh : ByteArray := prog_2_method_19_code
def yX0_weigh : MethodName := ⟨RX0, "weigh", "(LCubecaller$TimeOrder;)V"⟩
abbrev cX0_weighRow : ByteArray := prog_2_method_20_code
def yX0_weighRow : MethodName := ⟨RX0, "weighRow", "(IILCubecaller$TimeOrder;)V"⟩
abbrev cX0_weightOver : ByteArray := prog_2_method_21_code
def yX0_weightOver : MethodName := ⟨RX0, "weightOver", "(IIII)I"⟩
abbrev cX0_weightByBridge : ByteArray := prog_2_method_22_code
def yX0_weightByBridge : MethodName := ⟨RX0, "weightByBridge", "(III)I"⟩
abbrev cX0_weight : ByteArray := prog_2_method_23_code
def yX0_weight : MethodName := ⟨RX0, "weight", "(III)I"⟩
abbrev cX0_pickAll : ByteArray := prog_2_method_24_code
def yX0_pickAll : MethodName := ⟨RX0, "pickAll", "(II)V"⟩
abbrev cX0_isAsked : ByteArray := prog_2_method_25_code
def yX0_isAsked : MethodName := ⟨RX0, "isAsked", "(III)Z"⟩
abbrev cX0_isLeaf : ByteArray := prog_2_method_26_code
def yX0_isLeaf : MethodName := ⟨RX0, "isLeaf", "(I)Z"⟩
abbrev cX0_pickedAt : ByteArray := prog_2_method_27_code
def yX0_pickedAt : MethodName := ⟨RX0, "pickedAt", "(I)I"⟩
def RX1 : String := "Cubecaller$FactRows"
def TX1 : u_T := fun k => match k with
  | 0 => ("Cubecaller$FactRows", "count", "I", false)
  | 1 => ("Cubecaller$FactRows", "savedCount", "I", false)
  | 2 => ("Cubecaller$FactRows", "inSession", "Z", false)
  | 3 => ("Cubecaller$FactRows", "cells", "[I", true)
  | 4 => ("Cubecaller$FactRows", "kinds", "[I", true)
  | 5 => ("Cubecaller$FactRows", "numbers", "[I", true)
  | 6 => ("Cubecaller$FactRows", "savedCells", "[I", true)
  | 7 => ("Cubecaller$FactRows", "savedKinds", "[I", true)
  | _ => ("Cubecaller$FactRows", "savedNumbers", "[I", true)
def tyX1 : Nat → FieldType := fun k => match k with
  | 0 => .int
  | 1 => .int
  | 2 => .boolean
  | 3 => .array .int
  | 4 => .array .int
  | 5 => .array .int
  | 6 => .array .int
  | 7 => .array .int
  | _ => .array .int
theorem nmX1 : ∀ a, a < 9 → ∀ b, b < 9 → a ≠ b → (TX1 a).2.1 ≠ (TX1 b).2.1 := by decide +kernel
theorem tyX1_ok : ∀ k, k < 9 → parseFieldDescriptor (TX1 k).2.2.1 = some (tyX1 k) := by decide +kernel
abbrev cX1_init : ByteArray := prog_3_method_1_code
def yX1_init : MethodName := ⟨RX1, "<init>", "()V"⟩
abbrev cX1_has : ByteArray := prog_3_method_2_code
def yX1_has : MethodName := ⟨RX1, "has", "(I)Z"⟩
abbrev cX1_find : ByteArray := prog_3_method_3_code
def yX1_find : MethodName := ⟨RX1, "find", "(II)I"⟩
abbrev cX1_cellAt : ByteArray := prog_3_method_4_code
def yX1_cellAt : MethodName := ⟨RX1, "cellAt", "(I)I"⟩
abbrev cX1_measureAt : ByteArray := prog_3_method_5_code
def yX1_measureAt : MethodName := ⟨RX1, "measureAt", "(I)I"⟩
abbrev cX1_numberAt : ByteArray := prog_3_method_6_code
def yX1_numberAt : MethodName := ⟨RX1, "numberAt", "(I)I"⟩
abbrev cX1_setNumber : ByteArray := prog_3_method_7_code
def yX1_setNumber : MethodName := ⟨RX1, "setNumber", "(II)V"⟩
abbrev cX1_add : ByteArray := prog_3_method_8_code
def yX1_add : MethodName := ⟨RX1, "add", "(III)V"⟩
abbrev cX1_save : ByteArray := prog_3_method_10_code
def yX1_save : MethodName := ⟨RX1, "save", "()V"⟩
abbrev cX1_restore : ByteArray := prog_3_method_11_code
def yX1_restore : MethodName := ⟨RX1, "restore", "()V"⟩
def RX2 : String := "Cubecaller$Formula"
def TX2 : u_T := fun k => match k with
  | 0 => ("Cubecaller$Formula", "count", "I", false)
  | 1 => ("Cubecaller$Formula", "pile", "I", false)
  | 2 => ("Cubecaller$Formula", "whats", "[I", true)
  | 3 => ("Cubecaller$Formula", "ones", "[I", true)
  | _ => ("Cubecaller$Formula", "twos", "[I", true)
def tyX2 : Nat → FieldType := fun k => match k with
  | 0 => .int
  | 1 => .int
  | 2 => .array .int
  | 3 => .array .int
  | _ => .array .int
theorem nmX2 : ∀ a, a < 5 → ∀ b, b < 5 → a ≠ b → (TX2 a).2.1 ≠ (TX2 b).2.1 := by decide +kernel
theorem tyX2_ok : ∀ k, k < 5 → parseFieldDescriptor (TX2 k).2.2.1 = some (tyX2 k) := by decide +kernel
abbrev cX2_init : ByteArray := prog_4_method_1_code
def yX2_init : MethodName := ⟨RX2, "<init>", "()V"⟩
abbrev cX2_hasRoomFor : ByteArray := prog_4_method_2_code
def yX2_hasRoomFor : MethodName := ⟨RX2, "hasRoomFor", "(I)Z"⟩
abbrev cX2_put : ByteArray := prog_4_method_3_code
def yX2_put : MethodName := ⟨RX2, "put", "(III)V"⟩
abbrev cX2_looksBeyond : ByteArray := prog_4_method_4_code
def yX2_looksBeyond : MethodName := ⟨RX2, "looksBeyond", "(I)Z"⟩
def RX3 : String := "Cubecaller$KeptResults"
def TX3 : u_T := fun k => match k with
  | 0 => ("Cubecaller$KeptResults", "count", "I", false)
  | 1 => ("Cubecaller$KeptResults", "hits", "I", false)
  | 2 => ("Cubecaller$KeptResults", "cells", "[I", true)
  | 3 => ("Cubecaller$KeptResults", "kinds", "[I", true)
  | _ => ("Cubecaller$KeptResults", "values", "[J", true)
def tyX3 : Nat → FieldType := fun k => match k with
  | 0 => .int
  | 1 => .int
  | 2 => .array .int
  | 3 => .array .int
  | _ => .array .long
theorem nmX3 : ∀ a, a < 5 → ∀ b, b < 5 → a ≠ b → (TX3 a).2.1 ≠ (TX3 b).2.1 := by decide +kernel
theorem tyX3_ok : ∀ k, k < 5 → parseFieldDescriptor (TX3 k).2.2.1 = some (tyX3 k) := by decide +kernel
abbrev cX3_init : ByteArray := prog_5_method_1_code
def yX3_init : MethodName := ⟨RX3, "<init>", "()V"⟩
abbrev cX3_has : ByteArray := prog_5_method_2_code
def yX3_has : MethodName := ⟨RX3, "has", "(I)Z"⟩
abbrev cX3_find : ByteArray := prog_5_method_3_code
def yX3_find : MethodName := ⟨RX3, "find", "(II)I"⟩
abbrev cX3_cellAt : ByteArray := prog_5_method_4_code
def yX3_cellAt : MethodName := ⟨RX3, "cellAt", "(I)I"⟩
abbrev cX3_measureAt : ByteArray := prog_5_method_5_code
def yX3_measureAt : MethodName := ⟨RX3, "measureAt", "(I)I"⟩
abbrev cX3_valueAt : ByteArray := prog_5_method_6_code
def yX3_valueAt : MethodName := ⟨RX3, "valueAt", "(I)J"⟩
abbrev cX3_shift : ByteArray := prog_5_method_7_code
def yX3_shift : MethodName := ⟨RX3, "shift", "(II)V"⟩
abbrev cX3_keep : ByteArray := prog_5_method_8_code
def yX3_keep : MethodName := ⟨RX3, "keep", "(IIJ)V"⟩
abbrev cX3_dropAll : ByteArray := prog_5_method_9_code
def yX3_dropAll : MethodName := ⟨RX3, "dropAll", "()V"⟩
def RX4 : String := "Cubecaller$Measures"
def TX4 : u_T := fun k => match k with
  | 0 => ("Cubecaller$Measures", "count", "I", false)
  | 1 => ("Cubecaller$Measures", "kinds", "[I", true)
  | 2 => ("Cubecaller$Measures", "firsts", "[I", true)
  | 3 => ("Cubecaller$Measures", "seconds", "[I", true)
  | 4 => ("Cubecaller$Measures", "needed", "[I", true)
  | _ => ("Cubecaller$Measures", "leastDepths", "[I", true)
def tyX4 : Nat → FieldType := fun k => match k with
  | 0 => .int
  | 1 => .array .int
  | 2 => .array .int
  | 3 => .array .int
  | 4 => .array .int
  | _ => .array .int
theorem nmX4 : ∀ a, a < 6 → ∀ b, b < 6 → a ≠ b → (TX4 a).2.1 ≠ (TX4 b).2.1 := by decide +kernel
theorem tyX4_ok : ∀ k, k < 6 → parseFieldDescriptor (TX4 k).2.2.1 = some (tyX4 k) := by decide +kernel
abbrev cX4_init : ByteArray := prog_6_method_1_code
def yX4_init : MethodName := ⟨RX4, "<init>", "()V"⟩
abbrev cX4_has : ByteArray := prog_6_method_2_code
def yX4_has : MethodName := ⟨RX4, "has", "(I)Z"⟩
abbrev cX4_kindOf : ByteArray := prog_6_method_3_code
def yX4_kindOf : MethodName := ⟨RX4, "kindOf", "(I)I"⟩
abbrev cX4_add : ByteArray := prog_6_method_4_code
def yX4_add : MethodName := ⟨RX4, "add", "(III)I"⟩
abbrev cX4_needs : ByteArray := prog_6_method_5_code
def yX4_needs : MethodName := ⟨RX4, "needs", "(II)Z"⟩
abbrev cX4_leastDepth : ByteArray := prog_6_method_6_code
def yX4_leastDepth : MethodName := ⟨RX4, "leastDepth", "(II)I"⟩
abbrev cX4_setLeastDepth : ByteArray := prog_6_method_7_code
def yX4_setLeastDepth : MethodName := ⟨RX4, "setLeastDepth", "(III)I"⟩
def RX5 : String := "Cubecaller$Moves"
def TX5 : u_T := fun k => match k with
  | 0 => ("Cubecaller$Moves", "count", "I", false)
  | 1 => ("Cubecaller$Moves", "members", "[I", true)
  | 2 => ("Cubecaller$Moves", "parents", "[I", true)
  | _ => ("Cubecaller$Moves", "times", "[I", true)
def tyX5 : Nat → FieldType := fun k => match k with
  | 0 => .int
  | 1 => .array .int
  | 2 => .array .int
  | _ => .array .int
theorem nmX5 : ∀ a, a < 4 → ∀ b, b < 4 → a ≠ b → (TX5 a).2.1 ≠ (TX5 b).2.1 := by decide +kernel
theorem tyX5_ok : ∀ k, k < 4 → parseFieldDescriptor (TX5 k).2.2.1 = some (tyX5 k) := by decide +kernel
abbrev cX5_init : ByteArray := prog_7_method_1_code
def yX5_init : MethodName := ⟨RX5, "<init>", "()V"⟩
abbrev cX5_tell : ByteArray := prog_7_method_2_code
def yX5_tell : MethodName := ⟨RX5, "tell", "(III)V"⟩
abbrev cX5_parentAt : ByteArray := prog_7_method_3_code
def yX5_parentAt : MethodName := ⟨RX5, "parentAt", "(IIILCubecaller$TimeOrder;)I"⟩
def RX6 : String := "Cubecaller$Reckoner"
def TX6 : u_T := fun k => match k with
  | 0 => ("Cubecaller$Reckoner", "space", "LCubecaller$Space;", true)
  | 1 => ("Cubecaller$Reckoner", "measures", "LCubecaller$Measures;", true)
  | 2 => ("Cubecaller$Reckoner", "facts", "LCubecaller$FactRows;", true)
  | 3 => ("Cubecaller$Reckoner", "measure", "I", false)
  | 4 => ("Cubecaller$Reckoner", "stamp", "I", false)
  | 5 => ("Cubecaller$Reckoner", "stamps", "[I", true)
  | 6 => ("Cubecaller$Reckoner", "reckoned", "[J", true)
  | 7 => ("Cubecaller$Reckoner", "piles", "[J", true)
  | 8 => ("Cubecaller$Reckoner", "byMeasure", "[J", true)
  | 9 => ("Cubecaller$Reckoner", "counting", "I", false)
  | 10 => ("Cubecaller$Reckoner", "rows", "[I", true)
  | 11 => ("Cubecaller$Reckoner", "weights", "[I", true)
  | 12 => ("Cubecaller$Reckoner", "timePlaces", "[I", true)
  | _ => ("Cubecaller$Reckoner", "topValues", "[J", true)
def tyX6 : Nat → FieldType := fun k => match k with
  | 0 => .object "Cubecaller$Space"
  | 1 => .object "Cubecaller$Measures"
  | 2 => .object "Cubecaller$FactRows"
  | 3 => .int
  | 4 => .int
  | 5 => .array .int
  | 6 => .array .long
  | 7 => .array .long
  | 8 => .array .long
  | 9 => .int
  | 10 => .array .int
  | 11 => .array .int
  | 12 => .array .int
  | _ => .array .long
theorem nmX6 : ∀ a, a < 14 → ∀ b, b < 14 → a ≠ b → (TX6 a).2.1 ≠ (TX6 b).2.1 := by decide +kernel
theorem tyX6_ok : ∀ k, k < 14 → parseFieldDescriptor (TX6 k).2.2.1 = some (tyX6 k) := by decide +kernel
abbrev cX6_init : ByteArray := prog_8_method_1_code
def yX6_init : MethodName := ⟨RX6, "<init>", "(LCubecaller$Space;LCubecaller$Measures;LCubecaller$FactRows;)V"⟩
abbrev cX6_begins : ByteArray := prog_8_method_2_code
def yX6_begins : MethodName := ⟨RX6, "begins", "(I)V"⟩
abbrev cX6_asAsked : ByteArray := prog_8_method_3_code
def yX6_asAsked : MethodName := ⟨RX6, "asAsked", "(I)J"⟩
abbrev cX6_valueOf : ByteArray := prog_8_method_4_code
def yX6_valueOf : MethodName := ⟨RX6, "valueOf", "(II)J"⟩
abbrev cX6_formulaValue : ByteArray := prog_8_method_5_code
def yX6_formulaValue : MethodName := ⟨RX6, "formulaValue", "(III)J"⟩
abbrev cX6_back : ByteArray := prog_8_method_6_code
def yX6_back : MethodName := ⟨RX6, "back", "(III)J"⟩
abbrev cX6_toDate : ByteArray := prog_8_method_7_code
def yX6_toDate : MethodName := ⟨RX6, "toDate", "(II)J"⟩
abbrev cX6_joined : ByteArray := prog_8_method_8_code
def yX6_joined : MethodName := ⟨RX6, "joined", "(IJJ)J"⟩
abbrev cX6_plus : ByteArray := prog_8_method_9_code
def yX6_plus : MethodName := ⟨RX6, "plus", "(JJI)J"⟩
abbrev cX6_product : ByteArray := prog_8_method_10_code
def yX6_product : MethodName := ⟨RX6, "product", "(JJ)J"⟩
abbrev cX6_ratio : ByteArray := prog_8_method_11_code
def yX6_ratio : MethodName := ⟨RX6, "ratio", "(JJ)J"⟩
abbrev cX6_plainValue : ByteArray := prog_8_method_12_code
def yX6_plainValue : MethodName := ⟨RX6, "plainValue", "(I)J"⟩
abbrev cX6_meansNothing : ByteArray := prog_8_method_13_code
def yX6_meansNothing : MethodName := ⟨RX6, "meansNothing", "(I)Z"⟩
abbrev cX6_ofGathered : ByteArray := prog_8_method_14_code
def yX6_ofGathered : MethodName := ⟨RX6, "ofGathered", "(I)J"⟩
abbrev cX6_gather : ByteArray := prog_8_method_15_code
def yX6_gather : MethodName := ⟨RX6, "gather", "(II)V"⟩
abbrev cX6_rowAt : ByteArray := prog_8_method_16_code
def yX6_rowAt : MethodName := ⟨RX6, "rowAt", "(I)I"⟩
abbrev cX6_allWeighOne : ByteArray := prog_8_method_17_code
def yX6_allWeighOne : MethodName := ⟨RX6, "allWeighOne", "()Z"⟩
abbrev cX6_lastPlace : ByteArray := prog_8_method_18_code
def yX6_lastPlace : MethodName := ⟨RX6, "lastPlace", "()I"⟩
abbrev cX6_sum : ByteArray := prog_8_method_19_code
def yX6_sum : MethodName := ⟨RX6, "sum", "(I)J"⟩
abbrev cX6_different : ByteArray := prog_8_method_20_code
def yX6_different : MethodName := ⟨RX6, "different", "()J"⟩
abbrev cX6_keepTop : ByteArray := prog_8_method_21_code
def yX6_keepTop : MethodName := ⟨RX6, "keepTop", "(II)V"⟩
abbrev cX6_rank : ByteArray := prog_8_method_22_code
def yX6_rank : MethodName := ⟨RX6, "rank", "(LCubecaller$Dimension;IIJ)V"⟩
def RX7 : String := "Cubecaller$Space"
def TX7 : u_T := fun k => match k with
  | 0 => ("Cubecaller$Space", "time", "LCubecaller$Dimension;", true)
  | 1 => ("Cubecaller$Space", "one", "LCubecaller$Dimension;", true)
  | 2 => ("Cubecaller$Space", "two", "LCubecaller$Dimension;", true)
  | 3 => ("Cubecaller$Space", "order", "LCubecaller$TimeOrder;", true)
  | 4 => ("Cubecaller$Space", "parentsAsNow", "Z", false)
  | _ => ("Cubecaller$Space", "leavesOut", "Z", false)
def tyX7 : Nat → FieldType := fun k => match k with
  | 0 => .object "Cubecaller$Dimension"
  | 1 => .object "Cubecaller$Dimension"
  | 2 => .object "Cubecaller$Dimension"
  | 3 => .object "Cubecaller$TimeOrder"
  | 4 => .boolean
  | _ => .boolean
theorem nmX7 : ∀ a, a < 6 → ∀ b, b < 6 → a ≠ b → (TX7 a).2.1 ≠ (TX7 b).2.1 := by decide +kernel
theorem tyX7_ok : ∀ k, k < 6 → parseFieldDescriptor (TX7 k).2.2.1 = some (tyX7 k) := by decide +kernel
abbrev cX7_init : ByteArray := prog_9_method_1_code
def yX7_init : MethodName := ⟨RX7, "<init>", "()V"⟩
abbrev cX7_dimension : ByteArray := prog_9_method_2_code
def yX7_dimension : MethodName := ⟨RX7, "dimension", "(I)LCubecaller$Dimension;"⟩
abbrev cX7_movesTold : ByteArray := prog_9_method_3_code
def yX7_movesTold : MethodName := ⟨RX7, "movesTold", "()I"⟩
abbrev cX7_weigh : ByteArray := prog_9_method_4_code
def yX7_weigh : MethodName := ⟨RX7, "weigh", "()V"⟩
abbrev cX7_isPlain : ByteArray := prog_9_method_5_code
def yX7_isPlain : MethodName := ⟨RX7, "isPlain", "(I)Z"⟩
abbrev cX7_isSeen : ByteArray := prog_9_method_6_code
def yX7_isSeen : MethodName := ⟨RX7, "isSeen", "(I)Z"⟩
abbrev cX7_isCalculated : ByteArray := prog_9_method_7_code
def yX7_isCalculated : MethodName := ⟨RX7, "isCalculated", "(I)Z"⟩
abbrev cX7_leading : ByteArray := prog_9_method_8_code
def yX7_leading : MethodName := ⟨RX7, "leading", "(I)I"⟩
abbrev cX7_chosenCell : ByteArray := prog_9_method_9_code
def yX7_chosenCell : MethodName := ⟨RX7, "chosenCell", "()I"⟩
abbrev cX7_weight : ByteArray := prog_9_method_10_code
def yX7_weight : MethodName := ⟨RX7, "weight", "(II)I"⟩
def RX8 : String := "Cubecaller$Spread"
def TX8 : u_T := fun k => match k with
  | 0 => ("Cubecaller$Spread", "count", "I", false)
  | 1 => ("Cubecaller$Spread", "number", "J", false)
  | 2 => ("Cubecaller$Spread", "owns", "[J", true)
  | 3 => ("Cubecaller$Spread", "shares", "[J", true)
  | _ => ("Cubecaller$Spread", "remainders", "[J", true)
def tyX8 : Nat → FieldType := fun k => match k with
  | 0 => .int
  | 1 => .long
  | 2 => .array .long
  | 3 => .array .long
  | _ => .array .long
theorem nmX8 : ∀ a, a < 5 → ∀ b, b < 5 → a ≠ b → (TX8 a).2.1 ≠ (TX8 b).2.1 := by decide +kernel
theorem tyX8_ok : ∀ k, k < 5 → parseFieldDescriptor (TX8 k).2.2.1 = some (tyX8 k) := by decide +kernel
abbrev cX8_init : ByteArray := prog_10_method_1_code
def yX8_init : MethodName := ⟨RX8, "<init>", "()V"⟩
abbrev cX8_start : ByteArray := prog_10_method_2_code
def yX8_start : MethodName := ⟨RX8, "start", "(IJ)V"⟩
abbrev cX8_own : ByteArray := prog_10_method_3_code
def yX8_own : MethodName := ⟨RX8, "own", "(IJ)V"⟩
abbrev cX8_shareAt : ByteArray := prog_10_method_4_code
def yX8_shareAt : MethodName := ⟨RX8, "shareAt", "(I)J"⟩
abbrev cX8_share : ByteArray := prog_10_method_5_code
def yX8_share : MethodName := ⟨RX8, "share", "(I)V"⟩
abbrev cX8_equally : ByteArray := prog_10_method_6_code
def yX8_equally : MethodName := ⟨RX8, "equally", "()V"⟩
abbrev cX8_leaveRest : ByteArray := prog_10_method_7_code
def yX8_leaveRest : MethodName := ⟨RX8, "leaveRest", "(J)V"⟩
abbrev cX8_byWeights : ByteArray := prog_10_method_8_code
def yX8_byWeights : MethodName := ⟨RX8, "byWeights", "(J)V"⟩
abbrev cX8_greatestRemainder : ByteArray := prog_10_method_9_code
def yX8_greatestRemainder : MethodName := ⟨RX8, "greatestRemainder", "()I"⟩
abbrev cX8_inRange : ByteArray := prog_10_method_10_code
def yX8_inRange : MethodName := ⟨RX8, "inRange", "()Z"⟩
def RX9 : String := "Cubecaller$TimeOrder"
def TX9 : u_T := fun k => match k with
  | 0 => ("Cubecaller$TimeOrder", "count", "I", false)
  | 1 => ("Cubecaller$TimeOrder", "row", "[I", true)
  | _ => ("Cubecaller$TimeOrder", "places", "[I", true)
def tyX9 : Nat → FieldType := fun k => match k with
  | 0 => .int
  | 1 => .array .int
  | _ => .array .int
theorem nmX9 : ∀ a, a < 3 → ∀ b, b < 3 → a ≠ b → (TX9 a).2.1 ≠ (TX9 b).2.1 := by decide +kernel
theorem tyX9_ok : ∀ k, k < 3 → parseFieldDescriptor (TX9 k).2.2.1 = some (tyX9 k) := by decide +kernel
abbrev cX9_init : ByteArray := prog_11_method_1_code
def yX9_init : MethodName := ⟨RX9, "<init>", "()V"⟩
abbrev cX9_placeOf : ByteArray := prog_11_method_2_code
def yX9_placeOf : MethodName := ⟨RX9, "placeOf", "(I)I"⟩
abbrev cX9_insert : ByteArray := prog_11_method_3_code
def yX9_insert : MethodName := ⟨RX9, "insert", "(IILCubecaller$Dimension;)V"⟩
abbrev cX9_ahead : ByteArray := prog_11_method_4_code
def yX9_ahead : MethodName := ⟨RX9, "ahead", "(IILCubecaller$Dimension;)I"⟩
def RX10 : String := "Cubecaller"
def TX10 : u_T := fun k => match k with
  | 0 => ("Cubecaller", "space", "LCubecaller$Space;", true)
  | 1 => ("Cubecaller", "measured", "LCubecaller$Measures;", true)
  | 2 => ("Cubecaller", "rows", "LCubecaller$FactRows;", true)
  | 3 => ("Cubecaller", "results", "LCubecaller$KeptResults;", true)
  | 4 => ("Cubecaller", "spread", "LCubecaller$Spread;", true)
  | 5 => ("Cubecaller", "reckoner", "LCubecaller$Reckoner;", true)
  | _ => ("Cubecaller", "draft", "LCubecaller$Formula;", false)
def tyX10 : Nat → FieldType := fun k => match k with
  | 0 => .object "Cubecaller$Space"
  | 1 => .object "Cubecaller$Measures"
  | 2 => .object "Cubecaller$FactRows"
  | 3 => .object "Cubecaller$KeptResults"
  | 4 => .object "Cubecaller$Spread"
  | 5 => .object "Cubecaller$Reckoner"
  | _ => .object "Cubecaller$Formula"
theorem nmX10 : ∀ a, a < 7 → ∀ b, b < 7 → a ≠ b → (TX10 a).2.1 ≠ (TX10 b).2.1 := by decide +kernel
theorem tyX10_ok : ∀ k, k < 7 → parseFieldDescriptor (TX10 k).2.2.1 = some (tyX10 k) := by decide +kernel
abbrev cX10_init : ByteArray := prog_1_method_1_code
def yX10_init : MethodName := ⟨RX10, "<init>", "()V"⟩
abbrev cX10_member : ByteArray := prog_1_method_2_code
def yX10_member : MethodName := ⟨RX10, "member", "(III)I"⟩
abbrev cX10_bridge : ByteArray := prog_1_method_3_code
def yX10_bridge : MethodName := ⟨RX10, "bridge", "(II)I"⟩
abbrev cX10_move : ByteArray := prog_1_method_4_code
def yX10_move : MethodName := ⟨RX10, "move", "(IIII)I"⟩
abbrev cX10_asNow : ByteArray := prog_1_method_5_code
def yX10_asNow : MethodName := ⟨RX10, "asNow", "(Z)Z"⟩
abbrev cX10_memberAt : ByteArray := prog_1_method_6_code
def yX10_memberAt : MethodName := ⟨RX10, "memberAt", "(III)I"⟩
abbrev cX10_word : ByteArray := prog_1_method_7_code
def yX10_word : MethodName := ⟨RX10, "word", "(III)I"⟩
abbrev cX10_calculate : ByteArray := prog_1_method_8_code
def yX10_calculate : MethodName := ⟨RX10, "calculate", "(II)I"⟩
abbrev cX10_hide : ByteArray := prog_1_method_9_code
def yX10_hide : MethodName := ⟨RX10, "hide", "(IIZ)Z"⟩
abbrev cX10_totals : ByteArray := prog_1_method_10_code
def yX10_totals : MethodName := ⟨RX10, "totals", "(Z)Z"⟩
abbrev cX10_measure : ByteArray := prog_1_method_11_code
def yX10_measure : MethodName := ⟨RX10, "measure", "(III)I"⟩
abbrev cX10_from : ByteArray := prog_1_method_12_code
def yX10_from : MethodName := ⟨RX10, "from", "(III)I"⟩
abbrev cX10_fact : ByteArray := prog_1_method_13_code
def yX10_fact : MethodName := ⟨RX10, "fact", "(IIIII)I"⟩
abbrev cX10_cell : ByteArray := prog_1_method_15_code
def yX10_cell : MethodName := ⟨RX10, "cell", "(IIII)J"⟩
abbrev cX10_cellAnew : ByteArray := prog_1_method_16_code
def yX10_cellAnew : MethodName := ⟨RX10, "cellAnew", "(IIII)J"⟩
abbrev cX10_kept : ByteArray := prog_1_method_17_code
def yX10_kept : MethodName := ⟨RX10, "kept", "()I"⟩
abbrev cX10_hits : ByteArray := prog_1_method_18_code
def yX10_hits : MethodName := ⟨RX10, "hits", "()I"⟩
abbrev cX10_at : ByteArray := prog_1_method_19_code
def yX10_at : MethodName := ⟨RX10, "at", "(II)I"⟩
abbrev cX10_pick : ByteArray := prog_1_method_20_code
def yX10_pick : MethodName := ⟨RX10, "pick", "(IIIII)I"⟩
abbrev cX10_picked : ByteArray := prog_1_method_21_code
def yX10_picked : MethodName := ⟨RX10, "picked", "(II)I"⟩
abbrev cX10_cross : ByteArray := prog_1_method_22_code
def yX10_cross : MethodName := ⟨RX10, "cross", "(III)I"⟩
abbrev cX10_write : ByteArray := prog_1_method_23_code
def yX10_write : MethodName := ⟨RX10, "write", "(IIIIII)I"⟩
abbrev cX10_begin : ByteArray := prog_1_method_24_code
def yX10_begin : MethodName := ⟨RX10, "begin", "()V"⟩
abbrev cX10_end : ByteArray := prog_1_method_25_code
def yX10_end : MethodName := ⟨RX10, "end", "(Z)I"⟩
abbrev cX10_facts : ByteArray := prog_1_method_26_code
def yX10_facts : MethodName := ⟨RX10, "facts", "()I"⟩
abbrev cX10_existing : ByteArray := prog_1_method_27_code
def yX10_existing : MethodName := ⟨RX10, "existing", "(I)LCubecaller$Dimension;"⟩
abbrev cX10_needMember : ByteArray := prog_1_method_28_code
def yX10_needMember : MethodName := ⟨RX10, "needMember", "(LCubecaller$Dimension;I)V"⟩
abbrev cX10_needMeasure : ByteArray := prog_1_method_29_code
def yX10_needMeasure : MethodName := ⟨RX10, "needMeasure", "(I)V"⟩
abbrev cX10_needRange : ByteArray := prog_1_method_30_code
def yX10_needRange : MethodName := ⟨RX10, "needRange", "(III)V"⟩
abbrev cX10_need : ByteArray := prog_1_method_31_code
def yX10_need : MethodName := ⟨RX10, "need", "(Z)V"⟩
abbrev cX10_existingCell : ByteArray := prog_1_method_32_code
def yX10_existingCell : MethodName := ⟨RX10, "existingCell", "(IIII)I"⟩
abbrev cX10_memberOf : ByteArray := prog_1_method_33_code
def yX10_memberOf : MethodName := ⟨RX10, "memberOf", "(II)I"⟩
abbrev cX10_withMember : ByteArray := prog_1_method_34_code
def yX10_withMember : MethodName := ⟨RX10, "withMember", "(III)I"⟩
abbrev cX10_bounded : ByteArray := prog_1_method_35_code
def yX10_bounded : MethodName := ⟨RX10, "bounded", "(J)J"⟩
abbrev cX10_setNumber : ByteArray := prog_1_method_36_code
def yX10_setNumber : MethodName := ⟨RX10, "setNumber", "(II)Z"⟩
abbrev cX10_writeShares : ByteArray := prog_1_method_37_code
def yX10_writeShares : MethodName := ⟨RX10, "writeShares", "()I"⟩
abbrev cX10_dropFor : ByteArray := prog_1_method_38_code
def yX10_dropFor : MethodName := ⟨RX10, "dropFor", "(II)V"⟩
def RX11 : String := "CubecallerModel"
def TX11 : u_T := fun k => match k with
  | _ => ("", "", "", false)
def tyX11 : Nat → FieldType := fun k => match k with
  | _ => .int
theorem nmX11 : ∀ a, a < 0 → ∀ b, b < 0 → a ≠ b → (TX11 a).2.1 ≠ (TX11 b).2.1 := by decide +kernel
theorem tyX11_ok : ∀ k, k < 0 → parseFieldDescriptor (TX11 k).2.2.1 = some (tyX11 k) := by decide +kernel
def RJx145de : String := "java/io/Serializable"
def TJx145de : u_T := fun k => match k with
  | _ => ("", "", "", false)
def tyJx145de : Nat → FieldType := fun k => match k with
  | _ => .int
theorem nmJx145de : ∀ a, a < 0 → ∀ b, b < 0 → a ≠ b → (TJx145de a).2.1 ≠ (TJx145de b).2.1 := by decide +kernel
theorem tyJx145de_ok : ∀ k, k < 0 → parseFieldDescriptor (TJx145de k).2.2.1 = some (tyJx145de k) := by decide +kernel
def RJ6 : String := "java/lang/Integer"
def TJ6 : u_T := fun k => match k with
  | _ => ("", "", "", false)
def tyJ6 : Nat → FieldType := fun k => match k with
  | _ => .int
theorem nmJ6 : ∀ a, a < 0 → ∀ b, b < 0 → a ≠ b → (TJ6 a).2.1 ≠ (TJ6 b).2.1 := by decide +kernel
theorem tyJ6_ok : ∀ k, k < 0 → parseFieldDescriptor (TJ6 k).2.2.1 = some (tyJ6 k) := by decide +kernel
abbrev cJ6_bitCount_0f7a4 : ByteArray := prog_18_method_49_code
def yJ6_bitCount_0f7a4 : MethodName := ⟨RJ6, "bitCount", "(I)I"⟩
def RJ9 : String := "java/lang/Math"
def TJ9 : u_T := fun k => match k with
  | _ => ("", "", "", false)
def tyJ9 : Nat → FieldType := fun k => match k with
  | _ => .int
theorem nmJ9 : ∀ a, a < 0 → ∀ b, b < 0 → a ≠ b → (TJ9 a).2.1 ≠ (TJ9 b).2.1 := by decide +kernel
theorem tyJ9_ok : ∀ k, k < 0 → parseFieldDescriptor (TJ9 k).2.2.1 = some (tyJ9 k) := by decide +kernel
abbrev cJ9_abs_067f4 : ByteArray := prog_19_method_61_code
def yJ9_abs_067f4 : MethodName := ⟨RJ9, "abs", "(J)J"⟩
abbrev cJ9_max_7cf53 : ByteArray := prog_19_method_65_code
def yJ9_max_7cf53 : MethodName := ⟨RJ9, "max", "(II)I"⟩
abbrev cJ9_max_f86c9 : ByteArray := prog_19_method_66_code
def yJ9_max_f86c9 : MethodName := ⟨RJ9, "max", "(JJ)J"⟩
abbrev cJ9_min_7cf53 : ByteArray := prog_19_method_69_code
def yJ9_min_7cf53 : MethodName := ⟨RJ9, "min", "(II)I"⟩
abbrev cJ9_min_f86c9 : ByteArray := prog_19_method_70_code
def yJ9_min_f86c9 : MethodName := ⟨RJ9, "min", "(JJ)J"⟩
def RJ0 : String := "java/lang/String"
def TJ0 : u_T := fun k => match k with
  | _ => ("", "", "", false)
def tyJ0 : Nat → FieldType := fun k => match k with
  | _ => .int
theorem nmJ0 : ∀ a, a < 0 → ∀ b, b < 0 → a ≠ b → (TJ0 a).2.1 ≠ (TJ0 b).2.1 := by decide +kernel
theorem tyJ0_ok : ∀ k, k < 0 → parseFieldDescriptor (TJ0 k).2.2.1 = some (tyJ0 k) := by decide +kernel
def RJ10 : String := "java/lang/System"
def TJ10 : u_T := fun k => match k with
  | _ => ("", "", "", false)
def tyJ10 : Nat → FieldType := fun k => match k with
  | _ => .int
theorem nmJ10 : ∀ a, a < 0 → ∀ b, b < 0 → a ≠ b → (TJ10 a).2.1 ≠ (TJ10 b).2.1 := by decide +kernel
theorem tyJ10_ok : ∀ k, k < 0 → parseFieldDescriptor (TJ10 k).2.2.1 = some (tyJ10 k) := by decide +kernel
def RJ7 : String := "java/util/Arrays"
def TJ7 : u_T := fun k => match k with
  | _ => ("", "", "", false)
def tyJ7 : Nat → FieldType := fun k => match k with
  | _ => .int
theorem nmJ7 : ∀ a, a < 0 → ∀ b, b < 0 → a ≠ b → (TJ7 a).2.1 ≠ (TJ7 b).2.1 := by decide +kernel
theorem tyJ7_ok : ∀ k, k < 0 → parseFieldDescriptor (TJ7 k).2.2.1 = some (tyJ7 k) := by decide +kernel
abbrev cJ7_fill_53178 : ByteArray := prog_24_method_103_code
def yJ7_fill_53178 : MethodName := ⟨RJ7, "fill", "([II)V"⟩
def RL : String := "CubecallerLaw"
abbrev cL_cell : ByteArray := method_2_code
def yL_cell : MethodName := ⟨RL, "cell", "([II)I"⟩
abbrev cL_low : ByteArray := method_3_code
def yL_low : MethodName := ⟨RL, "low", "(II)I"⟩
abbrev cL_members : ByteArray := method_4_code
def yL_members : MethodName := ⟨RL, "members", "(LCubecaller;III)I"⟩
abbrev cL_bridges : ByteArray := method_5_code
def yL_bridges : MethodName := ⟨RL, "bridges", "(LCubecaller;II)I"⟩
abbrev cL_moves : ByteArray := method_6_code
def yL_moves : MethodName := ⟨RL, "moves", "(LCubecaller;IIII)I"⟩
abbrev cL_words : ByteArray := method_7_code
def yL_words : MethodName := ⟨RL, "words", "(LCubecaller;III)I"⟩
abbrev cL_calculates : ByteArray := method_8_code
def yL_calculates : MethodName := ⟨RL, "calculates", "(LCubecaller;II)I"⟩
abbrev cL_measures : ByteArray := method_9_code
def yL_measures : MethodName := ⟨RL, "measures", "(LCubecaller;III)I"⟩
abbrev cL_facts : ByteArray := method_10_code
def yL_facts : MethodName := ⟨RL, "facts", "(LCubecaller;IIIII)I"⟩
abbrev cL_writes : ByteArray := method_11_code
def yL_writes : MethodName := ⟨RL, "writes", "(LCubecaller;IIIIII)I"⟩
abbrev cL_picks : ByteArray := method_12_code
def yL_picks : MethodName := ⟨RL, "picks", "(LCubecaller;IIIII)I"⟩
abbrev cL_ends : ByteArray := method_13_code
def yL_ends : MethodName := ⟨RL, "ends", "(LCubecaller;Z)I"⟩
abbrev cL_begins : ByteArray := method_14_code
def yL_begins : MethodName := ⟨RL, "begins", "(LCubecaller;)I"⟩
abbrev cL_tell : ByteArray := method_15_code
def yL_tell : MethodName := ⟨RL, "tell", "(LCubecaller;[I)[I"⟩
abbrev cL_same : ByteArray := method_16_code
def yL_same : MethodName := ⟨RL, "same", "([I[I)Z"⟩
abbrev cL_asks : ByteArray := method_17_code
def yL_asks : MethodName := ⟨RL, "asks", "(LCubecaller;[II)Z"⟩
abbrev cL_act : ByteArray := method_18_code
def yL_act : MethodName := ⟨RL, "act", "(LCubecaller;[III)I"⟩
abbrev cL_grow : ByteArray := method_19_code
def yL_grow : MethodName := ⟨RL, "grow", "([II)I"⟩
abbrev cL_law : ByteArray := code
def yL_law : MethodName := ⟨RL, "law", "([I)Z"⟩
abbrev vwCl : List vw_C := [(RX0, TX0, 16), (RX1, TX1, 9), (RX2, TX2, 5), (RX3, TX3, 5), (RX4, TX4, 6), (RX5, TX5, 4), (RX6, TX6, 14), (RX7, TX7, 6), (RX8, TX8, 5), (RX9, TX9, 3), (RX10, TX10, 7)]
end
section
theorem dX0_init_0 : decode cX0_init 0 = .ok (.aload_n 0, 1) := by decide +kernel
theorem dX0_init_1 : decode cX0_init 1 = .ok (.invokespecial 3, 3) := by decide +kernel
theorem dX0_init_4 : decode cX0_init 4 = .ok (.aload_n 0, 1) := by decide +kernel
theorem dX0_init_5 : decode cX0_init 5 = .ok (.iconst 1, 1) := by decide +kernel
theorem dX0_init_6 : decode cX0_init 6 = .ok (.putfield 9, 3) := by decide +kernel
theorem dX0_init_9 : decode cX0_init 9 = .ok (.aload_n 0, 1) := by decide +kernel
theorem dX0_init_10 : decode cX0_init 10 = .ok (.new 15, 3) := by decide +kernel
theorem dX0_init_13 : decode cX0_init 13 = .ok (.dup, 1) := by decide +kernel
theorem dX0_init_14 : decode cX0_init 14 = .ok (.invokespecial 17, 3) := by decide +kernel
theorem dX0_init_17 : decode cX0_init 17 = .ok (.putfield 18, 3) := by decide +kernel
theorem dX0_init_20 : decode cX0_init 20 = .ok (.aload_n 0, 1) := by decide +kernel
theorem dX0_init_21 : decode cX0_init 21 = .ok (.bipush 12, 2) := by decide +kernel
theorem dX0_init_23 : decode cX0_init 23 = .ok (.newarray .int, 2) := by decide +kernel
theorem dX0_init_25 : decode cX0_init 25 = .ok (.putfield 22, 3) := by decide +kernel
theorem dX0_init_28 : decode cX0_init 28 = .ok (.aload_n 0, 1) := by decide +kernel
theorem dX0_init_29 : decode cX0_init 29 = .ok (.bipush 12, 2) := by decide +kernel
theorem dX0_init_31 : decode cX0_init 31 = .ok (.newarray .int, 2) := by decide +kernel
theorem dX0_init_33 : decode cX0_init 33 = .ok (.putfield 26, 3) := by decide +kernel
theorem dX0_init_36 : decode cX0_init 36 = .ok (.aload_n 0, 1) := by decide +kernel
theorem dX0_init_37 : decode cX0_init 37 = .ok (.bipush 12, 2) := by decide +kernel
theorem dX0_init_39 : decode cX0_init 39 = .ok (.newarray .int, 2) := by decide +kernel
theorem dX0_init_41 : decode cX0_init 41 = .ok (.putfield 29, 3) := by decide +kernel
theorem dX0_init_44 : decode cX0_init 44 = .ok (.aload_n 0, 1) := by decide +kernel
theorem dX0_init_45 : decode cX0_init 45 = .ok (.bipush 12, 2) := by decide +kernel
theorem dX0_init_47 : decode cX0_init 47 = .ok (.newarray .int, 2) := by decide +kernel
theorem dX0_init_49 : decode cX0_init 49 = .ok (.putfield 32, 3) := by decide +kernel
theorem dX0_init_52 : decode cX0_init 52 = .ok (.aload_n 0, 1) := by decide +kernel
theorem dX0_init_53 : decode cX0_init 53 = .ok (.bipush 12, 2) := by decide +kernel
theorem dX0_init_55 : decode cX0_init 55 = .ok (.newarray .int, 2) := by decide +kernel
theorem dX0_init_57 : decode cX0_init 57 = .ok (.putfield 35, 3) := by decide +kernel
theorem dX0_init_60 : decode cX0_init 60 = .ok (.aload_n 0, 1) := by decide +kernel
theorem dX0_init_61 : decode cX0_init 61 = .ok (.bipush 12, 2) := by decide +kernel
theorem dX0_init_63 : decode cX0_init 63 = .ok (.newarray .boolean, 2) := by decide +kernel
theorem dX0_init_65 : decode cX0_init 65 = .ok (.putfield 38, 3) := by decide +kernel
theorem dX0_init_68 : decode cX0_init 68 = .ok (.aload_n 0, 1) := by decide +kernel
theorem dX0_init_69 : decode cX0_init 69 = .ok (.bipush 12, 2) := by decide +kernel
theorem dX0_init_71 : decode cX0_init 71 = .ok (.anewarray 42, 3) := by decide +kernel
theorem dX0_init_74 : decode cX0_init 74 = .ok (.putfield 44, 3) := by decide +kernel
theorem dX0_init_77 : decode cX0_init 77 = .ok (.aload_n 0, 1) := by decide +kernel
theorem dX0_init_78 : decode cX0_init 78 = .ok (.bipush 12, 2) := by decide +kernel
theorem dX0_init_80 : decode cX0_init 80 = .ok (.newarray .int, 2) := by decide +kernel
theorem dX0_init_82 : decode cX0_init 82 = .ok (.putfield 48, 3) := by decide +kernel
theorem dX0_init_85 : decode cX0_init 85 = .ok (.aload_n 0, 1) := by decide +kernel
theorem dX0_init_86 : decode cX0_init 86 = .ok (.bipush 12, 2) := by decide +kernel
theorem dX0_init_88 : decode cX0_init 88 = .ok (.newarray .int, 2) := by decide +kernel
theorem dX0_init_90 : decode cX0_init 90 = .ok (.putfield 51, 3) := by decide +kernel
theorem dX0_init_93 : decode cX0_init 93 = .ok (.aload_n 0, 1) := by decide +kernel
theorem dX0_init_94 : decode cX0_init 94 = .ok (.bipush 12, 2) := by decide +kernel
theorem dX0_init_96 : decode cX0_init 96 = .ok (.newarray .int, 2) := by decide +kernel
theorem dX0_init_98 : decode cX0_init 98 = .ok (.putfield 54, 3) := by decide +kernel
theorem dX0_init_101 : decode cX0_init 101 = .ok (.aload_n 0, 1) := by decide +kernel
theorem dX0_init_102 : decode cX0_init 102 = .ok (.bipush 12, 2) := by decide +kernel
theorem dX0_init_104 : decode cX0_init 104 = .ok (.newarray .boolean, 2) := by decide +kernel
theorem dX0_init_106 : decode cX0_init 106 = .ok (.putfield 57, 3) := by decide +kernel
theorem dX0_init_109 : decode cX0_init 109 = .ok (.aload_n 0, 1) := by decide +kernel
theorem dX0_init_110 : decode cX0_init 110 = .ok (.bipush 13, 2) := by decide +kernel
theorem dX0_init_112 : decode cX0_init 112 = .ok (.sipush 144, 3) := by decide +kernel
theorem dX0_init_115 : decode cX0_init 115 = .ok (.multianewarray 60 2, 4) := by decide +kernel
theorem dX0_init_119 : decode cX0_init 119 = .ok (.putfield 62, 3) := by decide +kernel
theorem dX0_init_122 : decode cX0_init 122 = .ok (.aload_n 0, 1) := by decide +kernel
theorem dX0_init_123 : decode cX0_init 123 = .ok (.getfield 51, 3) := by decide +kernel
theorem dX0_init_126 : decode cX0_init 126 = .ok (.iconst 0, 1) := by decide +kernel
theorem dX0_init_127 : decode cX0_init 127 = .ok (.iconst (-1), 1) := by decide +kernel
theorem dX0_init_128 : decode cX0_init 128 = .ok (.iastore, 1) := by decide +kernel
theorem dX0_init_129 : decode cX0_init 129 = .ok (.aload_n 0, 1) := by decide +kernel
theorem dX0_init_130 : decode cX0_init 130 = .ok (.getfield 57, 3) := by decide +kernel
theorem dX0_init_133 : decode cX0_init 133 = .ok (.iconst 0, 1) := by decide +kernel
theorem dX0_init_134 : decode cX0_init 134 = .ok (.iconst 1, 1) := by decide +kernel
theorem dX0_init_135 : decode cX0_init 135 = .ok (.bastore, 1) := by decide +kernel
theorem dX0_init_136 : decode cX0_init 136 = .ok (.iconst 0, 1) := by decide +kernel
theorem dX0_init_137 : decode cX0_init 137 = .ok (.istore_n 1, 1) := by decide +kernel
theorem dX0_init_138 : decode cX0_init 138 = .ok (.iload_n 1, 1) := by decide +kernel
theorem dX0_init_139 : decode cX0_init 139 = .ok (.bipush 12, 2) := by decide +kernel
theorem dX0_init_141 : decode cX0_init 141 = .ok (.if_icmp .gt 18, 3) := by decide +kernel
theorem dX0_init_144 : decode cX0_init 144 = .ok (.aload_n 0, 1) := by decide +kernel
theorem dX0_init_145 : decode cX0_init 145 = .ok (.getfield 62, 3) := by decide +kernel
theorem dX0_init_148 : decode cX0_init 148 = .ok (.iload_n 1, 1) := by decide +kernel
theorem dX0_init_149 : decode cX0_init 149 = .ok (.aaload, 1) := by decide +kernel
theorem dX0_init_150 : decode cX0_init 150 = .ok (.iconst 0, 1) := by decide +kernel
theorem dX0_init_151 : decode cX0_init 151 = .ok (.iconst 1, 1) := by decide +kernel
theorem dX0_init_152 : decode cX0_init 152 = .ok (.iastore, 1) := by decide +kernel
theorem dX0_init_153 : decode cX0_init 153 = .ok (.iinc 1 1, 3) := by decide +kernel
theorem dX0_init_156 : decode cX0_init 156 = .ok (.goto (-18), 3) := by decide +kernel
theorem dX0_init_159 : decode cX0_init 159 = .ok (.return_, 1) := by decide +kernel
theorem dX0_has_0 : decode cX0_has 0 = .ok (.iload_n 1, 1) := by decide +kernel
theorem dX0_has_1 : decode cX0_has 1 = .ok (.ifCond .lt 21, 3) := by decide +kernel
theorem dX0_has_4 : decode cX0_has 4 = .ok (.iload_n 1, 1) := by decide +kernel
theorem dX0_has_5 : decode cX0_has 5 = .ok (.aload_n 0, 1) := by decide +kernel
theorem dX0_has_6 : decode cX0_has 6 = .ok (.getfield 9, 3) := by decide +kernel
theorem dX0_has_9 : decode cX0_has 9 = .ok (.if_icmp .ge 13, 3) := by decide +kernel
theorem dX0_has_12 : decode cX0_has 12 = .ok (.iload_n 1, 1) := by decide +kernel
theorem dX0_has_13 : decode cX0_has 13 = .ok (.bipush 12, 2) := by decide +kernel
theorem dX0_has_15 : decode cX0_has 15 = .ok (.if_icmp .ge 7, 3) := by decide +kernel
theorem dX0_has_18 : decode cX0_has 18 = .ok (.iconst 1, 1) := by decide +kernel
theorem dX0_has_19 : decode cX0_has 19 = .ok (.goto 4, 3) := by decide +kernel
theorem dX0_has_22 : decode cX0_has 22 = .ok (.iconst 0, 1) := by decide +kernel
theorem dX0_has_23 : decode cX0_has 23 = .ok (.ireturn, 1) := by decide +kernel
theorem dX0_kindOf_0 : decode cX0_kindOf 0 = .ok (.aload_n 0, 1) := by decide +kernel
theorem dX0_kindOf_1 : decode cX0_kindOf 1 = .ok (.iload_n 1, 1) := by decide +kernel
theorem dX0_kindOf_2 : decode cX0_kindOf 2 = .ok (.invokevirtual 65, 3) := by decide +kernel
theorem dX0_kindOf_5 : decode cX0_kindOf 5 = .ok (.ifCond .eq 12, 3) := by decide +kernel
theorem dX0_kindOf_8 : decode cX0_kindOf 8 = .ok (.aload_n 0, 1) := by decide +kernel
theorem dX0_kindOf_9 : decode cX0_kindOf 9 = .ok (.getfield 22, 3) := by decide +kernel
theorem dX0_kindOf_12 : decode cX0_kindOf 12 = .ok (.iload_n 1, 1) := by decide +kernel
theorem dX0_kindOf_13 : decode cX0_kindOf 13 = .ok (.iaload, 1) := by decide +kernel
theorem dX0_kindOf_14 : decode cX0_kindOf 14 = .ok (.goto 4, 3) := by decide +kernel
theorem dX0_kindOf_17 : decode cX0_kindOf 17 = .ok (.iconst (-1), 1) := by decide +kernel
theorem dX0_kindOf_18 : decode cX0_kindOf 18 = .ok (.ireturn, 1) := by decide +kernel
theorem dX0_isPlain_0 : decode cX0_isPlain 0 = .ok (.aload_n 0, 1) := by decide +kernel
theorem dX0_isPlain_1 : decode cX0_isPlain 1 = .ok (.iload_n 1, 1) := by decide +kernel
theorem dX0_isPlain_2 : decode cX0_isPlain 2 = .ok (.invokevirtual 65, 3) := by decide +kernel
theorem dX0_isPlain_5 : decode cX0_isPlain 5 = .ok (.ifCond .eq 16, 3) := by decide +kernel
theorem dX0_isPlain_8 : decode cX0_isPlain 8 = .ok (.aload_n 0, 1) := by decide +kernel
theorem dX0_isPlain_9 : decode cX0_isPlain 9 = .ok (.getfield 22, 3) := by decide +kernel
theorem dX0_isPlain_12 : decode cX0_isPlain 12 = .ok (.iload_n 1, 1) := by decide +kernel
theorem dX0_isPlain_13 : decode cX0_isPlain 13 = .ok (.iaload, 1) := by decide +kernel
theorem dX0_isPlain_14 : decode cX0_isPlain 14 = .ok (.ifCond .ne 7, 3) := by decide +kernel
theorem dX0_isPlain_17 : decode cX0_isPlain 17 = .ok (.iconst 1, 1) := by decide +kernel
theorem dX0_isPlain_18 : decode cX0_isPlain 18 = .ok (.goto 4, 3) := by decide +kernel
theorem dX0_isPlain_21 : decode cX0_isPlain 21 = .ok (.iconst 0, 1) := by decide +kernel
theorem dX0_isPlain_22 : decode cX0_isPlain 22 = .ok (.ireturn, 1) := by decide +kernel
theorem dX0_parentOf_0 : decode cX0_parentOf 0 = .ok (.aload_n 0, 1) := by decide +kernel
theorem dX0_parentOf_1 : decode cX0_parentOf 1 = .ok (.iload_n 1, 1) := by decide +kernel
theorem dX0_parentOf_2 : decode cX0_parentOf 2 = .ok (.invokevirtual 65, 3) := by decide +kernel
theorem dX0_parentOf_5 : decode cX0_parentOf 5 = .ok (.ifCond .eq 21, 3) := by decide +kernel
theorem dX0_parentOf_8 : decode cX0_parentOf 8 = .ok (.aload_n 0, 1) := by decide +kernel
theorem dX0_parentOf_9 : decode cX0_parentOf 9 = .ok (.getfield 22, 3) := by decide +kernel
theorem dX0_parentOf_12 : decode cX0_parentOf 12 = .ok (.iload_n 1, 1) := by decide +kernel
theorem dX0_parentOf_13 : decode cX0_parentOf 13 = .ok (.iaload, 1) := by decide +kernel
theorem dX0_parentOf_14 : decode cX0_parentOf 14 = .ok (.ifCond .ne 12, 3) := by decide +kernel
theorem dX0_parentOf_17 : decode cX0_parentOf 17 = .ok (.aload_n 0, 1) := by decide +kernel
theorem dX0_parentOf_18 : decode cX0_parentOf 18 = .ok (.getfield 51, 3) := by decide +kernel
theorem dX0_parentOf_21 : decode cX0_parentOf 21 = .ok (.iload_n 1, 1) := by decide +kernel
theorem dX0_parentOf_22 : decode cX0_parentOf 22 = .ok (.iaload, 1) := by decide +kernel
theorem dX0_parentOf_23 : decode cX0_parentOf 23 = .ok (.goto 4, 3) := by decide +kernel
theorem dX0_parentOf_26 : decode cX0_parentOf 26 = .ok (.iconst (-1), 1) := by decide +kernel
theorem dX0_parentOf_27 : decode cX0_parentOf 27 = .ok (.ireturn, 1) := by decide +kernel
theorem dX0_depthOf_0 : decode cX0_depthOf 0 = .ok (.aload_n 0, 1) := by decide +kernel
theorem dX0_depthOf_1 : decode cX0_depthOf 1 = .ok (.iload_n 1, 1) := by decide +kernel
theorem dX0_depthOf_2 : decode cX0_depthOf 2 = .ok (.invokevirtual 65, 3) := by decide +kernel
theorem dX0_depthOf_5 : decode cX0_depthOf 5 = .ok (.ifCond .eq 21, 3) := by decide +kernel
theorem dX0_depthOf_8 : decode cX0_depthOf 8 = .ok (.aload_n 0, 1) := by decide +kernel
theorem dX0_depthOf_9 : decode cX0_depthOf 9 = .ok (.getfield 22, 3) := by decide +kernel
theorem dX0_depthOf_12 : decode cX0_depthOf 12 = .ok (.iload_n 1, 1) := by decide +kernel
theorem dX0_depthOf_13 : decode cX0_depthOf 13 = .ok (.iaload, 1) := by decide +kernel
theorem dX0_depthOf_14 : decode cX0_depthOf 14 = .ok (.ifCond .ne 12, 3) := by decide +kernel
theorem dX0_depthOf_17 : decode cX0_depthOf 17 = .ok (.aload_n 0, 1) := by decide +kernel
theorem dX0_depthOf_18 : decode cX0_depthOf 18 = .ok (.getfield 54, 3) := by decide +kernel
theorem dX0_depthOf_21 : decode cX0_depthOf 21 = .ok (.iload_n 1, 1) := by decide +kernel
theorem dX0_depthOf_22 : decode cX0_depthOf 22 = .ok (.iaload, 1) := by decide +kernel
theorem dX0_depthOf_23 : decode cX0_depthOf 23 = .ok (.goto 4, 3) := by decide +kernel
theorem dX0_depthOf_26 : decode cX0_depthOf 26 = .ok (.iconst (-1), 1) := by decide +kernel
theorem dX0_depthOf_27 : decode cX0_depthOf 27 = .ok (.ireturn, 1) := by decide +kernel
theorem dX0_orderOf_0 : decode cX0_orderOf 0 = .ok (.aload_n 0, 1) := by decide +kernel
theorem dX0_orderOf_1 : decode cX0_orderOf 1 = .ok (.iload_n 1, 1) := by decide +kernel
theorem dX0_orderOf_2 : decode cX0_orderOf 2 = .ok (.invokevirtual 65, 3) := by decide +kernel
theorem dX0_orderOf_5 : decode cX0_orderOf 5 = .ok (.ifCond .eq 22, 3) := by decide +kernel
theorem dX0_orderOf_8 : decode cX0_orderOf 8 = .ok (.aload_n 0, 1) := by decide +kernel
theorem dX0_orderOf_9 : decode cX0_orderOf 9 = .ok (.getfield 22, 3) := by decide +kernel
theorem dX0_orderOf_12 : decode cX0_orderOf 12 = .ok (.iload_n 1, 1) := by decide +kernel
theorem dX0_orderOf_13 : decode cX0_orderOf 13 = .ok (.iaload, 1) := by decide +kernel
theorem dX0_orderOf_14 : decode cX0_orderOf 14 = .ok (.iconst 2, 1) := by decide +kernel
theorem dX0_orderOf_15 : decode cX0_orderOf 15 = .ok (.if_icmp .ne 12, 3) := by decide +kernel
theorem dX0_orderOf_18 : decode cX0_orderOf 18 = .ok (.aload_n 0, 1) := by decide +kernel
theorem dX0_orderOf_19 : decode cX0_orderOf 19 = .ok (.getfield 35, 3) := by decide +kernel
theorem dX0_orderOf_22 : decode cX0_orderOf 22 = .ok (.iload_n 1, 1) := by decide +kernel
theorem dX0_orderOf_23 : decode cX0_orderOf 23 = .ok (.iaload, 1) := by decide +kernel
theorem dX0_orderOf_24 : decode cX0_orderOf 24 = .ok (.goto 4, 3) := by decide +kernel
theorem dX0_orderOf_27 : decode cX0_orderOf 27 = .ok (.iconst (-1), 1) := by decide +kernel
theorem dX0_orderOf_28 : decode cX0_orderOf 28 = .ok (.ireturn, 1) := by decide +kernel
theorem dX0_formulaOf_0 : decode cX0_formulaOf 0 = .ok (.aload_n 0, 1) := by decide +kernel
theorem dX0_formulaOf_1 : decode cX0_formulaOf 1 = .ok (.iload_n 1, 1) := by decide +kernel
theorem dX0_formulaOf_2 : decode cX0_formulaOf 2 = .ok (.invokevirtual 65, 3) := by decide +kernel
theorem dX0_formulaOf_5 : decode cX0_formulaOf 5 = .ok (.ifCond .eq 12, 3) := by decide +kernel
theorem dX0_formulaOf_8 : decode cX0_formulaOf 8 = .ok (.aload_n 0, 1) := by decide +kernel
theorem dX0_formulaOf_9 : decode cX0_formulaOf 9 = .ok (.getfield 44, 3) := by decide +kernel
theorem dX0_formulaOf_12 : decode cX0_formulaOf 12 = .ok (.iload_n 1, 1) := by decide +kernel
theorem dX0_formulaOf_13 : decode cX0_formulaOf 13 = .ok (.aaload, 1) := by decide +kernel
theorem dX0_formulaOf_14 : decode cX0_formulaOf 14 = .ok (.goto 4, 3) := by decide +kernel
theorem dX0_formulaOf_17 : decode cX0_formulaOf 17 = .ok (.aconst_null, 1) := by decide +kernel
theorem dX0_formulaOf_18 : decode cX0_formulaOf 18 = .ok (.areturn, 1) := by decide +kernel
theorem dX0_isSeen_0 : decode cX0_isSeen 0 = .ok (.iload_n 1, 1) := by decide +kernel
theorem dX0_isSeen_1 : decode cX0_isSeen 1 = .ok (.ifCond .lt 24, 3) := by decide +kernel
theorem dX0_isSeen_4 : decode cX0_isSeen 4 = .ok (.iload_n 1, 1) := by decide +kernel
theorem dX0_isSeen_5 : decode cX0_isSeen 5 = .ok (.aload_n 0, 1) := by decide +kernel
theorem dX0_isSeen_6 : decode cX0_isSeen 6 = .ok (.getfield 9, 3) := by decide +kernel
theorem dX0_isSeen_9 : decode cX0_isSeen 9 = .ok (.if_icmp .ge 16, 3) := by decide +kernel
theorem dX0_isSeen_12 : decode cX0_isSeen 12 = .ok (.aload_n 0, 1) := by decide +kernel
theorem dX0_isSeen_13 : decode cX0_isSeen 13 = .ok (.getfield 57, 3) := by decide +kernel
theorem dX0_isSeen_16 : decode cX0_isSeen 16 = .ok (.iload_n 1, 1) := by decide +kernel
theorem dX0_isSeen_17 : decode cX0_isSeen 17 = .ok (.baload, 1) := by decide +kernel
theorem dX0_isSeen_18 : decode cX0_isSeen 18 = .ok (.ifCond .eq 7, 3) := by decide +kernel
theorem dX0_isSeen_21 : decode cX0_isSeen 21 = .ok (.iconst 1, 1) := by decide +kernel
theorem dX0_isSeen_22 : decode cX0_isSeen 22 = .ok (.goto 4, 3) := by decide +kernel
theorem dX0_isSeen_25 : decode cX0_isSeen 25 = .ok (.iconst 0, 1) := by decide +kernel
theorem dX0_isSeen_26 : decode cX0_isSeen 26 = .ok (.ireturn, 1) := by decide +kernel
theorem dX0_standsFor_0 : decode cX0_standsFor 0 = .ok (.aload_n 0, 1) := by decide +kernel
theorem dX0_standsFor_1 : decode cX0_standsFor 1 = .ok (.getfield 22, 3) := by decide +kernel
theorem dX0_standsFor_4 : decode cX0_standsFor 4 = .ok (.iload_n 1, 1) := by decide +kernel
theorem dX0_standsFor_5 : decode cX0_standsFor 5 = .ok (.iaload, 1) := by decide +kernel
theorem dX0_standsFor_6 : decode cX0_standsFor 6 = .ok (.iconst 1, 1) := by decide +kernel
theorem dX0_standsFor_7 : decode cX0_standsFor 7 = .ok (.if_icmp .ne 21, 3) := by decide +kernel
theorem dX0_standsFor_10 : decode cX0_standsFor 10 = .ok (.aload_n 0, 1) := by decide +kernel
theorem dX0_standsFor_11 : decode cX0_standsFor 11 = .ok (.getfield 32, 3) := by decide +kernel
theorem dX0_standsFor_14 : decode cX0_standsFor 14 = .ok (.iload_n 1, 1) := by decide +kernel
theorem dX0_standsFor_15 : decode cX0_standsFor 15 = .ok (.iaload, 1) := by decide +kernel
theorem dX0_standsFor_16 : decode cX0_standsFor 16 = .ok (.iload_n 2, 1) := by decide +kernel
theorem dX0_standsFor_17 : decode cX0_standsFor 17 = .ok (.ishr, 1) := by decide +kernel
theorem dX0_standsFor_18 : decode cX0_standsFor 18 = .ok (.iconst 1, 1) := by decide +kernel
theorem dX0_standsFor_19 : decode cX0_standsFor 19 = .ok (.iand, 1) := by decide +kernel
theorem dX0_standsFor_20 : decode cX0_standsFor 20 = .ok (.iconst 1, 1) := by decide +kernel
theorem dX0_standsFor_21 : decode cX0_standsFor 21 = .ok (.if_icmp .ne 7, 3) := by decide +kernel
theorem dX0_standsFor_24 : decode cX0_standsFor 24 = .ok (.iconst 1, 1) := by decide +kernel
theorem dX0_standsFor_25 : decode cX0_standsFor 25 = .ok (.goto 4, 3) := by decide +kernel
theorem dX0_standsFor_28 : decode cX0_standsFor 28 = .ok (.iconst 0, 1) := by decide +kernel
theorem dX0_standsFor_29 : decode cX0_standsFor 29 = .ok (.ireturn, 1) := by decide +kernel
theorem dX0_areAllPlain_0 : decode cX0_areAllPlain 0 = .ok (.iconst 0, 1) := by decide +kernel
theorem dX0_areAllPlain_1 : decode cX0_areAllPlain 1 = .ok (.istore_n 2, 1) := by decide +kernel
theorem dX0_areAllPlain_2 : decode cX0_areAllPlain 2 = .ok (.iload_n 2, 1) := by decide +kernel
theorem dX0_areAllPlain_3 : decode cX0_areAllPlain 3 = .ok (.bipush 12, 2) := by decide +kernel
theorem dX0_areAllPlain_5 : decode cX0_areAllPlain 5 = .ok (.if_icmp .ge 28, 3) := by decide +kernel
theorem dX0_areAllPlain_8 : decode cX0_areAllPlain 8 = .ok (.iload_n 1, 1) := by decide +kernel
theorem dX0_areAllPlain_9 : decode cX0_areAllPlain 9 = .ok (.iload_n 2, 1) := by decide +kernel
theorem dX0_areAllPlain_10 : decode cX0_areAllPlain 10 = .ok (.ishr, 1) := by decide +kernel
theorem dX0_areAllPlain_11 : decode cX0_areAllPlain 11 = .ok (.iconst 1, 1) := by decide +kernel
theorem dX0_areAllPlain_12 : decode cX0_areAllPlain 12 = .ok (.iand, 1) := by decide +kernel
theorem dX0_areAllPlain_13 : decode cX0_areAllPlain 13 = .ok (.iconst 1, 1) := by decide +kernel
theorem dX0_areAllPlain_14 : decode cX0_areAllPlain 14 = .ok (.if_icmp .ne 13, 3) := by decide +kernel
theorem dX0_areAllPlain_17 : decode cX0_areAllPlain 17 = .ok (.aload_n 0, 1) := by decide +kernel
theorem dX0_areAllPlain_18 : decode cX0_areAllPlain 18 = .ok (.iload_n 2, 1) := by decide +kernel
theorem dX0_areAllPlain_19 : decode cX0_areAllPlain 19 = .ok (.invokevirtual 69, 3) := by decide +kernel
theorem dX0_areAllPlain_22 : decode cX0_areAllPlain 22 = .ok (.ifCond .ne 5, 3) := by decide +kernel
theorem dX0_areAllPlain_25 : decode cX0_areAllPlain 25 = .ok (.iconst 0, 1) := by decide +kernel
theorem dX0_areAllPlain_26 : decode cX0_areAllPlain 26 = .ok (.ireturn, 1) := by decide +kernel
theorem dX0_areAllPlain_27 : decode cX0_areAllPlain 27 = .ok (.iinc 2 1, 3) := by decide +kernel
theorem dX0_areAllPlain_30 : decode cX0_areAllPlain 30 = .ok (.goto (-28), 3) := by decide +kernel
theorem dX0_areAllPlain_33 : decode cX0_areAllPlain 33 = .ok (.iconst 1, 1) := by decide +kernel
theorem dX0_areAllPlain_34 : decode cX0_areAllPlain 34 = .ok (.ireturn, 1) := by decide +kernel
theorem dX0_addPlain_0 : decode cX0_addPlain 0 = .ok (.aload_n 0, 1) := by decide +kernel
theorem dX0_addPlain_1 : decode cX0_addPlain 1 = .ok (.iconst 0, 1) := by decide +kernel
theorem dX0_addPlain_2 : decode cX0_addPlain 2 = .ok (.invokevirtual 72, 3) := by decide +kernel
theorem dX0_addPlain_5 : decode cX0_addPlain 5 = .ok (.istore_n 3, 1) := by decide +kernel
theorem dX0_addPlain_6 : decode cX0_addPlain 6 = .ok (.aload_n 0, 1) := by decide +kernel
theorem dX0_addPlain_7 : decode cX0_addPlain 7 = .ok (.iload_n 3, 1) := by decide +kernel
theorem dX0_addPlain_8 : decode cX0_addPlain 8 = .ok (.invokevirtual 65, 3) := by decide +kernel
theorem dX0_addPlain_11 : decode cX0_addPlain 11 = .ok (.ifCond .eq 17, 3) := by decide +kernel
theorem dX0_addPlain_14 : decode cX0_addPlain 14 = .ok (.aload_n 0, 1) := by decide +kernel
theorem dX0_addPlain_15 : decode cX0_addPlain 15 = .ok (.getfield 26, 3) := by decide +kernel
theorem dX0_addPlain_18 : decode cX0_addPlain 18 = .ok (.iload_n 3, 1) := by decide +kernel
theorem dX0_addPlain_19 : decode cX0_addPlain 19 = .ok (.iload_n 1, 1) := by decide +kernel
theorem dX0_addPlain_20 : decode cX0_addPlain 20 = .ok (.iastore, 1) := by decide +kernel
theorem dX0_addPlain_21 : decode cX0_addPlain 21 = .ok (.aload_n 0, 1) := by decide +kernel
theorem dX0_addPlain_22 : decode cX0_addPlain 22 = .ok (.getfield 29, 3) := by decide +kernel
theorem dX0_addPlain_25 : decode cX0_addPlain 25 = .ok (.iload_n 3, 1) := by decide +kernel
theorem dX0_addPlain_26 : decode cX0_addPlain 26 = .ok (.iload_n 2, 1) := by decide +kernel
theorem dX0_addPlain_27 : decode cX0_addPlain 27 = .ok (.iastore, 1) := by decide +kernel
theorem dX0_addPlain_28 : decode cX0_addPlain 28 = .ok (.iload_n 3, 1) := by decide +kernel
theorem dX0_addPlain_29 : decode cX0_addPlain 29 = .ok (.ireturn, 1) := by decide +kernel
theorem dX0_addBridge_0 : decode cX0_addBridge 0 = .ok (.aload_n 0, 1) := by decide +kernel
theorem dX0_addBridge_1 : decode cX0_addBridge 1 = .ok (.iconst 1, 1) := by decide +kernel
theorem dX0_addBridge_2 : decode cX0_addBridge 2 = .ok (.invokevirtual 72, 3) := by decide +kernel
theorem dX0_addBridge_5 : decode cX0_addBridge 5 = .ok (.istore_n 2, 1) := by decide +kernel
theorem dX0_addBridge_6 : decode cX0_addBridge 6 = .ok (.aload_n 0, 1) := by decide +kernel
theorem dX0_addBridge_7 : decode cX0_addBridge 7 = .ok (.iload_n 2, 1) := by decide +kernel
theorem dX0_addBridge_8 : decode cX0_addBridge 8 = .ok (.invokevirtual 65, 3) := by decide +kernel
theorem dX0_addBridge_11 : decode cX0_addBridge 11 = .ok (.ifCond .eq 10, 3) := by decide +kernel
theorem dX0_addBridge_14 : decode cX0_addBridge 14 = .ok (.aload_n 0, 1) := by decide +kernel
theorem dX0_addBridge_15 : decode cX0_addBridge 15 = .ok (.getfield 32, 3) := by decide +kernel
theorem dX0_addBridge_18 : decode cX0_addBridge 18 = .ok (.iload_n 2, 1) := by decide +kernel
theorem dX0_addBridge_19 : decode cX0_addBridge 19 = .ok (.iload_n 1, 1) := by decide +kernel
theorem dX0_addBridge_20 : decode cX0_addBridge 20 = .ok (.iastore, 1) := by decide +kernel
theorem dX0_addBridge_21 : decode cX0_addBridge 21 = .ok (.iload_n 2, 1) := by decide +kernel
theorem dX0_addBridge_22 : decode cX0_addBridge 22 = .ok (.ireturn, 1) := by decide +kernel
theorem dX0_addCalculated_0 : decode cX0_addCalculated 0 = .ok (.aload_n 0, 1) := by decide +kernel
theorem dX0_addCalculated_1 : decode cX0_addCalculated 1 = .ok (.iconst 2, 1) := by decide +kernel
theorem dX0_addCalculated_2 : decode cX0_addCalculated 2 = .ok (.invokevirtual 72, 3) := by decide +kernel
theorem dX0_addCalculated_5 : decode cX0_addCalculated 5 = .ok (.istore_n 3, 1) := by decide +kernel
theorem dX0_addCalculated_6 : decode cX0_addCalculated 6 = .ok (.aload_n 0, 1) := by decide +kernel
theorem dX0_addCalculated_7 : decode cX0_addCalculated 7 = .ok (.iload_n 3, 1) := by decide +kernel
theorem dX0_addCalculated_8 : decode cX0_addCalculated 8 = .ok (.invokevirtual 65, 3) := by decide +kernel
theorem dX0_addCalculated_11 : decode cX0_addCalculated 11 = .ok (.ifCond .eq 24, 3) := by decide +kernel
theorem dX0_addCalculated_14 : decode cX0_addCalculated 14 = .ok (.aload_n 0, 1) := by decide +kernel
theorem dX0_addCalculated_15 : decode cX0_addCalculated 15 = .ok (.getfield 44, 3) := by decide +kernel
theorem dX0_addCalculated_18 : decode cX0_addCalculated 18 = .ok (.iload_n 3, 1) := by decide +kernel
theorem dX0_addCalculated_19 : decode cX0_addCalculated 19 = .ok (.aload_n 1, 1) := by decide +kernel
theorem dX0_addCalculated_20 : decode cX0_addCalculated 20 = .ok (.aastore, 1) := by decide +kernel
theorem dX0_addCalculated_21 : decode cX0_addCalculated 21 = .ok (.aload_n 0, 1) := by decide +kernel
theorem dX0_addCalculated_22 : decode cX0_addCalculated 22 = .ok (.getfield 35, 3) := by decide +kernel
theorem dX0_addCalculated_25 : decode cX0_addCalculated 25 = .ok (.iload_n 3, 1) := by decide +kernel
theorem dX0_addCalculated_26 : decode cX0_addCalculated 26 = .ok (.iload_n 2, 1) := by decide +kernel
theorem dX0_addCalculated_27 : decode cX0_addCalculated 27 = .ok (.iastore, 1) := by decide +kernel
theorem dX0_addCalculated_28 : decode cX0_addCalculated 28 = .ok (.aload_n 0, 1) := by decide +kernel
theorem dX0_addCalculated_29 : decode cX0_addCalculated 29 = .ok (.getfield 57, 3) := by decide +kernel
theorem dX0_addCalculated_32 : decode cX0_addCalculated 32 = .ok (.iload_n 3, 1) := by decide +kernel
theorem dX0_addCalculated_33 : decode cX0_addCalculated 33 = .ok (.iconst 1, 1) := by decide +kernel
theorem dX0_addCalculated_34 : decode cX0_addCalculated 34 = .ok (.bastore, 1) := by decide +kernel
theorem dX0_addCalculated_35 : decode cX0_addCalculated 35 = .ok (.iload_n 3, 1) := by decide +kernel
theorem dX0_addCalculated_36 : decode cX0_addCalculated 36 = .ok (.ireturn, 1) := by decide +kernel
theorem dX0_addKind_0 : decode cX0_addKind 0 = .ok (.aload_n 0, 1) := by decide +kernel
theorem dX0_addKind_1 : decode cX0_addKind 1 = .ok (.getfield 9, 3) := by decide +kernel
theorem dX0_addKind_4 : decode cX0_addKind 4 = .ok (.bipush 12, 2) := by decide +kernel
theorem dX0_addKind_6 : decode cX0_addKind 6 = .ok (.if_icmp .lt 5, 3) := by decide +kernel
theorem dX0_addKind_9 : decode cX0_addKind 9 = .ok (.iconst (-1), 1) := by decide +kernel
theorem dX0_addKind_10 : decode cX0_addKind 10 = .ok (.ireturn, 1) := by decide +kernel
theorem dX0_addKind_11 : decode cX0_addKind 11 = .ok (.aload_n 0, 1) := by decide +kernel
theorem dX0_addKind_12 : decode cX0_addKind 12 = .ok (.getfield 22, 3) := by decide +kernel
theorem dX0_addKind_15 : decode cX0_addKind 15 = .ok (.aload_n 0, 1) := by decide +kernel
theorem dX0_addKind_16 : decode cX0_addKind 16 = .ok (.getfield 9, 3) := by decide +kernel
theorem dX0_addKind_19 : decode cX0_addKind 19 = .ok (.iload_n 1, 1) := by decide +kernel
theorem dX0_addKind_20 : decode cX0_addKind 20 = .ok (.iastore, 1) := by decide +kernel
theorem dX0_addKind_21 : decode cX0_addKind 21 = .ok (.aload_n 0, 1) := by decide +kernel
theorem dX0_addKind_22 : decode cX0_addKind 22 = .ok (.dup, 1) := by decide +kernel
theorem dX0_addKind_23 : decode cX0_addKind 23 = .ok (.getfield 9, 3) := by decide +kernel
theorem dX0_addKind_26 : decode cX0_addKind 26 = .ok (.iconst 1, 1) := by decide +kernel
theorem dX0_addKind_27 : decode cX0_addKind 27 = .ok (.iadd, 1) := by decide +kernel
theorem dX0_addKind_28 : decode cX0_addKind 28 = .ok (.putfield 9, 3) := by decide +kernel
theorem dX0_addKind_31 : decode cX0_addKind 31 = .ok (.aload_n 0, 1) := by decide +kernel
theorem dX0_addKind_32 : decode cX0_addKind 32 = .ok (.getfield 9, 3) := by decide +kernel
theorem dX0_addKind_35 : decode cX0_addKind 35 = .ok (.iconst 1, 1) := by decide +kernel
theorem dX0_addKind_36 : decode cX0_addKind 36 = .ok (.isub, 1) := by decide +kernel
theorem dX0_addKind_37 : decode cX0_addKind 37 = .ok (.ireturn, 1) := by decide +kernel
theorem dX0_setHidden_0 : decode cX0_setHidden 0 = .ok (.aload_n 0, 1) := by decide +kernel
theorem dX0_setHidden_1 : decode cX0_setHidden 1 = .ok (.iload_n 1, 1) := by decide +kernel
theorem dX0_setHidden_2 : decode cX0_setHidden 2 = .ok (.invokevirtual 65, 3) := by decide +kernel
theorem dX0_setHidden_5 : decode cX0_setHidden 5 = .ok (.ifCond .ne 5, 3) := by decide +kernel
theorem dX0_setHidden_8 : decode cX0_setHidden 8 = .ok (.iconst 0, 1) := by decide +kernel
theorem dX0_setHidden_9 : decode cX0_setHidden 9 = .ok (.ireturn, 1) := by decide +kernel
theorem dX0_setHidden_10 : decode cX0_setHidden 10 = .ok (.aload_n 0, 1) := by decide +kernel
theorem dX0_setHidden_11 : decode cX0_setHidden 11 = .ok (.getfield 38, 3) := by decide +kernel
theorem dX0_setHidden_14 : decode cX0_setHidden 14 = .ok (.iload_n 1, 1) := by decide +kernel
theorem dX0_setHidden_15 : decode cX0_setHidden 15 = .ok (.baload, 1) := by decide +kernel
theorem dX0_setHidden_16 : decode cX0_setHidden 16 = .ok (.istore_n 3, 1) := by decide +kernel
theorem dX0_setHidden_17 : decode cX0_setHidden 17 = .ok (.aload_n 0, 1) := by decide +kernel
theorem dX0_setHidden_18 : decode cX0_setHidden 18 = .ok (.getfield 38, 3) := by decide +kernel
theorem dX0_setHidden_21 : decode cX0_setHidden 21 = .ok (.iload_n 1, 1) := by decide +kernel
theorem dX0_setHidden_22 : decode cX0_setHidden 22 = .ok (.iload_n 2, 1) := by decide +kernel
theorem dX0_setHidden_23 : decode cX0_setHidden 23 = .ok (.bastore, 1) := by decide +kernel
theorem dX0_setHidden_24 : decode cX0_setHidden 24 = .ok (.aload_n 0, 1) := by decide +kernel
theorem dX0_setHidden_25 : decode cX0_setHidden 25 = .ok (.invokevirtual 76, 3) := by decide +kernel
theorem dX0_setHidden_28 : decode cX0_setHidden 28 = .ok (.iload_n 3, 1) := by decide +kernel
theorem dX0_setHidden_29 : decode cX0_setHidden 29 = .ok (.ireturn, 1) := by decide +kernel
theorem dX0_settle_0 : decode cX0_settle 0 = .ok (.iconst 1, 1) := by decide +kernel
theorem dX0_settle_1 : decode cX0_settle 1 = .ok (.istore_n 1, 1) := by decide +kernel
theorem dX0_settle_2 : decode cX0_settle 2 = .ok (.iload_n 1, 1) := by decide +kernel
theorem dX0_settle_3 : decode cX0_settle 3 = .ok (.aload_n 0, 1) := by decide +kernel
theorem dX0_settle_4 : decode cX0_settle 4 = .ok (.getfield 9, 3) := by decide +kernel
theorem dX0_settle_7 : decode cX0_settle 7 = .ok (.if_icmp .ge 82, 3) := by decide +kernel
theorem dX0_settle_10 : decode cX0_settle 10 = .ok (.aload_n 0, 1) := by decide +kernel
theorem dX0_settle_11 : decode cX0_settle 11 = .ok (.iload_n 1, 1) := by decide +kernel
theorem dX0_settle_12 : decode cX0_settle 12 = .ok (.invokevirtual 69, 3) := by decide +kernel
theorem dX0_settle_15 : decode cX0_settle 15 = .ok (.ifCond .eq 57, 3) := by decide +kernel
theorem dX0_settle_18 : decode cX0_settle 18 = .ok (.aload_n 0, 1) := by decide +kernel
theorem dX0_settle_19 : decode cX0_settle 19 = .ok (.getfield 54, 3) := by decide +kernel
theorem dX0_settle_22 : decode cX0_settle 22 = .ok (.iload_n 1, 1) := by decide +kernel
theorem dX0_settle_23 : decode cX0_settle 23 = .ok (.aload_n 0, 1) := by decide +kernel
theorem dX0_settle_24 : decode cX0_settle 24 = .ok (.aload_n 0, 1) := by decide +kernel
theorem dX0_settle_25 : decode cX0_settle 25 = .ok (.getfield 51, 3) := by decide +kernel
theorem dX0_settle_28 : decode cX0_settle 28 = .ok (.iload_n 1, 1) := by decide +kernel
theorem dX0_settle_29 : decode cX0_settle 29 = .ok (.iaload, 1) := by decide +kernel
theorem dX0_settle_30 : decode cX0_settle 30 = .ok (.invokevirtual 79, 3) := by decide +kernel
theorem dX0_settle_33 : decode cX0_settle 33 = .ok (.iconst 1, 1) := by decide +kernel
theorem dX0_settle_34 : decode cX0_settle 34 = .ok (.iadd, 1) := by decide +kernel
theorem dX0_settle_35 : decode cX0_settle 35 = .ok (.iastore, 1) := by decide +kernel
theorem dX0_settle_36 : decode cX0_settle 36 = .ok (.aload_n 0, 1) := by decide +kernel
theorem dX0_settle_37 : decode cX0_settle 37 = .ok (.getfield 57, 3) := by decide +kernel
theorem dX0_settle_40 : decode cX0_settle 40 = .ok (.iload_n 1, 1) := by decide +kernel
theorem dX0_settle_41 : decode cX0_settle 41 = .ok (.aload_n 0, 1) := by decide +kernel
theorem dX0_settle_42 : decode cX0_settle 42 = .ok (.getfield 38, 3) := by decide +kernel
theorem dX0_settle_45 : decode cX0_settle 45 = .ok (.iload_n 1, 1) := by decide +kernel
theorem dX0_settle_46 : decode cX0_settle 46 = .ok (.baload, 1) := by decide +kernel
theorem dX0_settle_47 : decode cX0_settle 47 = .ok (.ifCond .ne 20, 3) := by decide +kernel
theorem dX0_settle_50 : decode cX0_settle 50 = .ok (.aload_n 0, 1) := by decide +kernel
theorem dX0_settle_51 : decode cX0_settle 51 = .ok (.aload_n 0, 1) := by decide +kernel
theorem dX0_settle_52 : decode cX0_settle 52 = .ok (.getfield 51, 3) := by decide +kernel
theorem dX0_settle_55 : decode cX0_settle 55 = .ok (.iload_n 1, 1) := by decide +kernel
theorem dX0_settle_56 : decode cX0_settle 56 = .ok (.iaload, 1) := by decide +kernel
theorem dX0_settle_57 : decode cX0_settle 57 = .ok (.invokevirtual 82, 3) := by decide +kernel
theorem dX0_settle_60 : decode cX0_settle 60 = .ok (.ifCond .eq 7, 3) := by decide +kernel
theorem dX0_settle_63 : decode cX0_settle 63 = .ok (.iconst 1, 1) := by decide +kernel
theorem dX0_settle_64 : decode cX0_settle 64 = .ok (.goto 4, 3) := by decide +kernel
theorem dX0_settle_67 : decode cX0_settle 67 = .ok (.iconst 0, 1) := by decide +kernel
theorem dX0_settle_68 : decode cX0_settle 68 = .ok (.bastore, 1) := by decide +kernel
theorem dX0_settle_69 : decode cX0_settle 69 = .ok (.goto 14, 3) := by decide +kernel
theorem dX0_settle_72 : decode cX0_settle 72 = .ok (.aload_n 0, 1) := by decide +kernel
theorem dX0_settle_73 : decode cX0_settle 73 = .ok (.getfield 57, 3) := by decide +kernel
theorem dX0_settle_76 : decode cX0_settle 76 = .ok (.iload_n 1, 1) := by decide +kernel
theorem dX0_settle_77 : decode cX0_settle 77 = .ok (.aload_n 0, 1) := by decide +kernel
theorem dX0_settle_78 : decode cX0_settle 78 = .ok (.iload_n 1, 1) := by decide +kernel
theorem dX0_settle_79 : decode cX0_settle 79 = .ok (.invokevirtual 85, 3) := by decide +kernel
theorem dX0_settle_82 : decode cX0_settle 82 = .ok (.bastore, 1) := by decide +kernel
theorem dX0_settle_83 : decode cX0_settle 83 = .ok (.iinc 1 1, 3) := by decide +kernel
theorem dX0_settle_86 : decode cX0_settle 86 = .ok (.goto (-84), 3) := by decide +kernel
theorem dX0_settle_89 : decode cX0_settle 89 = .ok (.return_, 1) := by decide +kernel
theorem dX0_isBridgeSeen_0 : decode cX0_isBridgeSeen 0 = .ok (.iconst 0, 1) := by decide +kernel
theorem dX0_isBridgeSeen_1 : decode cX0_isBridgeSeen 1 = .ok (.istore_n 2, 1) := by decide +kernel
theorem dX0_isBridgeSeen_2 : decode cX0_isBridgeSeen 2 = .ok (.iload_n 2, 1) := by decide +kernel
theorem dX0_isBridgeSeen_3 : decode cX0_isBridgeSeen 3 = .ok (.iload_n 1, 1) := by decide +kernel
theorem dX0_isBridgeSeen_4 : decode cX0_isBridgeSeen 4 = .ok (.if_icmp .ge 28, 3) := by decide +kernel
theorem dX0_isBridgeSeen_7 : decode cX0_isBridgeSeen 7 = .ok (.aload_n 0, 1) := by decide +kernel
theorem dX0_isBridgeSeen_8 : decode cX0_isBridgeSeen 8 = .ok (.iload_n 1, 1) := by decide +kernel
theorem dX0_isBridgeSeen_9 : decode cX0_isBridgeSeen 9 = .ok (.iload_n 2, 1) := by decide +kernel
theorem dX0_isBridgeSeen_10 : decode cX0_isBridgeSeen 10 = .ok (.invokevirtual 88, 3) := by decide +kernel
theorem dX0_isBridgeSeen_13 : decode cX0_isBridgeSeen 13 = .ok (.ifCond .eq 13, 3) := by decide +kernel
theorem dX0_isBridgeSeen_16 : decode cX0_isBridgeSeen 16 = .ok (.aload_n 0, 1) := by decide +kernel
theorem dX0_isBridgeSeen_17 : decode cX0_isBridgeSeen 17 = .ok (.iload_n 2, 1) := by decide +kernel
theorem dX0_isBridgeSeen_18 : decode cX0_isBridgeSeen 18 = .ok (.invokevirtual 82, 3) := by decide +kernel
theorem dX0_isBridgeSeen_21 : decode cX0_isBridgeSeen 21 = .ok (.ifCond .ne 5, 3) := by decide +kernel
theorem dX0_isBridgeSeen_24 : decode cX0_isBridgeSeen 24 = .ok (.iconst 0, 1) := by decide +kernel
theorem dX0_isBridgeSeen_25 : decode cX0_isBridgeSeen 25 = .ok (.ireturn, 1) := by decide +kernel
theorem dX0_isBridgeSeen_26 : decode cX0_isBridgeSeen 26 = .ok (.iinc 2 1, 3) := by decide +kernel
theorem dX0_isBridgeSeen_29 : decode cX0_isBridgeSeen 29 = .ok (.goto (-27), 3) := by decide +kernel
theorem dX0_isBridgeSeen_32 : decode cX0_isBridgeSeen 32 = .ok (.iconst 1, 1) := by decide +kernel
theorem dX0_isBridgeSeen_33 : decode cX0_isBridgeSeen 33 = .ok (.ireturn, 1) := by decide +kernel
theorem dX0_weigh_0 : decode cX0_weigh 0 = .ok (.iconst 1, 1) := by decide +kernel
theorem dX0_weigh_1 : decode cX0_weigh 1 = .ok (.istore_n 2, 1) := by decide +kernel
theorem dX0_weigh_2 : decode cX0_weigh 2 = .ok (.iload_n 2, 1) := by decide +kernel
theorem dX0_weigh_3 : decode cX0_weigh 3 = .ok (.aload_n 0, 1) := by decide +kernel
theorem dX0_weigh_4 : decode cX0_weigh 4 = .ok (.getfield 9, 3) := by decide +kernel
theorem dX0_weigh_7 : decode cX0_weigh 7 = .ok (.if_icmp .ge 40, 3) := by decide +kernel
theorem dX0_weigh_10 : decode cX0_weigh 10 = .ok (.aload_n 0, 1) := by decide +kernel
theorem dX0_weigh_11 : decode cX0_weigh 11 = .ok (.iload_n 2, 1) := by decide +kernel
theorem dX0_weigh_12 : decode cX0_weigh 12 = .ok (.invokevirtual 69, 3) := by decide +kernel
theorem dX0_weigh_15 : decode cX0_weigh 15 = .ok (.ifCond .eq 26, 3) := by decide +kernel
theorem dX0_weigh_18 : decode cX0_weigh 18 = .ok (.aload_n 0, 1) := by decide +kernel
theorem dX0_weigh_19 : decode cX0_weigh 19 = .ok (.getfield 51, 3) := by decide +kernel
theorem dX0_weigh_22 : decode cX0_weigh 22 = .ok (.iload_n 2, 1) := by decide +kernel
theorem dX0_weigh_23 : decode cX0_weigh 23 = .ok (.aload_n 0, 1) := by decide +kernel
theorem dX0_weigh_24 : decode cX0_weigh 24 = .ok (.getfield 18, 3) := by decide +kernel
theorem dX0_weigh_27 : decode cX0_weigh 27 = .ok (.iload_n 2, 1) := by decide +kernel
theorem dX0_weigh_28 : decode cX0_weigh 28 = .ok (.aload_n 0, 1) := by decide +kernel
theorem dX0_weigh_29 : decode cX0_weigh 29 = .ok (.getfield 26, 3) := by decide +kernel
theorem dX0_weigh_32 : decode cX0_weigh 32 = .ok (.iload_n 2, 1) := by decide +kernel
theorem dX0_weigh_33 : decode cX0_weigh 33 = .ok (.iaload, 1) := by decide +kernel
theorem dX0_weigh_34 : decode cX0_weigh 34 = .ok (.bipush 12, 2) := by decide +kernel
theorem dX0_weigh_36 : decode cX0_weigh 36 = .ok (.aload_n 1, 1) := by decide +kernel
theorem dX0_weigh_37 : decode cX0_weigh 37 = .ok (.invokevirtual 92, 3) := by decide +kernel
theorem dX0_weigh_40 : decode cX0_weigh 40 = .ok (.iastore, 1) := by decide +kernel
theorem dX0_weigh_41 : decode cX0_weigh 41 = .ok (.iinc 2 1, 3) := by decide +kernel
theorem dX0_weigh_44 : decode cX0_weigh 44 = .ok (.goto (-42), 3) := by decide +kernel
theorem dX0_weigh_47 : decode cX0_weigh 47 = .ok (.aload_n 0, 1) := by decide +kernel
theorem dX0_weigh_48 : decode cX0_weigh 48 = .ok (.invokevirtual 76, 3) := by decide +kernel
theorem dX0_weigh_51 : decode cX0_weigh 51 = .ok (.iconst 0, 1) := by decide +kernel
theorem dX0_weigh_52 : decode cX0_weigh 52 = .ok (.istore_n 2, 1) := by decide +kernel
theorem dX0_weigh_53 : decode cX0_weigh 53 = .ok (.iload_n 2, 1) := by decide +kernel
theorem dX0_weigh_54 : decode cX0_weigh 54 = .ok (.aload_n 1, 1) := by decide +kernel
theorem dX0_weigh_55 : decode cX0_weigh 55 = .ok (.getfield 96, 3) := by decide +kernel
theorem dX0_weigh_58 : decode cX0_weigh 58 = .ok (.if_icmp .ge 21, 3) := by decide +kernel
theorem dX0_weigh_61 : decode cX0_weigh 61 = .ok (.aload_n 0, 1) := by decide +kernel
theorem dX0_weigh_62 : decode cX0_weigh 62 = .ok (.aload_n 1, 1) := by decide +kernel
theorem dX0_weigh_63 : decode cX0_weigh 63 = .ok (.getfield 99, 3) := by decide +kernel
theorem dX0_weigh_66 : decode cX0_weigh 66 = .ok (.iload_n 2, 1) := by decide +kernel
theorem dX0_weigh_67 : decode cX0_weigh 67 = .ok (.iaload, 1) := by decide +kernel
theorem dX0_weigh_68 : decode cX0_weigh 68 = .ok (.iload_n 2, 1) := by decide +kernel
theorem dX0_weigh_69 : decode cX0_weigh 69 = .ok (.aload_n 1, 1) := by decide +kernel
theorem dX0_weigh_70 : decode cX0_weigh 70 = .ok (.invokevirtual 102, 3) := by decide +kernel
theorem dX0_weigh_73 : decode cX0_weigh 73 = .ok (.iinc 2 1, 3) := by decide +kernel
theorem dX0_weigh_76 : decode cX0_weigh 76 = .ok (.goto (-23), 3) := by decide +kernel
theorem dX0_weigh_79 : decode cX0_weigh 79 = .ok (.aload_n 0, 1) := by decide +kernel
theorem dX0_weigh_80 : decode cX0_weigh 80 = .ok (.bipush 12, 2) := by decide +kernel
theorem dX0_weigh_82 : decode cX0_weigh 82 = .ok (.bipush 12, 2) := by decide +kernel
theorem dX0_weigh_84 : decode cX0_weigh 84 = .ok (.aload_n 1, 1) := by decide +kernel
theorem dX0_weigh_85 : decode cX0_weigh 85 = .ok (.invokevirtual 102, 3) := by decide +kernel
theorem dX0_weigh_88 : decode cX0_weigh 88 = .ok (.return_, 1) := by decide +kernel
theorem dX0_weighRow_0 : decode cX0_weighRow 0 = .ok (.iconst 0, 1) := by decide +kernel
theorem dX0_weighRow_1 : decode cX0_weighRow 1 = .ok (.istore 4, 2) := by decide +kernel
theorem dX0_weighRow_3 : decode cX0_weighRow 3 = .ok (.iload 4, 2) := by decide +kernel
theorem dX0_weighRow_5 : decode cX0_weighRow 5 = .ok (.aload_n 0, 1) := by decide +kernel
theorem dX0_weighRow_6 : decode cX0_weighRow 6 = .ok (.getfield 9, 3) := by decide +kernel
theorem dX0_weighRow_9 : decode cX0_weighRow 9 = .ok (.if_icmp .ge 91, 3) := by decide +kernel
theorem dX0_weighRow_12 : decode cX0_weighRow 12 = .ok (.aload_n 0, 1) := by decide +kernel
theorem dX0_weighRow_13 : decode cX0_weighRow 13 = .ok (.iload 4, 2) := by decide +kernel
theorem dX0_weighRow_15 : decode cX0_weighRow 15 = .ok (.invokevirtual 69, 3) := by decide +kernel
theorem dX0_weighRow_18 : decode cX0_weighRow 18 = .ok (.ifCond .eq 76, 3) := by decide +kernel
theorem dX0_weighRow_21 : decode cX0_weighRow 21 = .ok (.iload 4, 2) := by decide +kernel
theorem dX0_weighRow_23 : decode cX0_weighRow 23 = .ok (.ifCond .ne 7, 3) := by decide +kernel
theorem dX0_weighRow_26 : decode cX0_weighRow 26 = .ok (.iconst (-1), 1) := by decide +kernel
theorem dX0_weighRow_27 : decode cX0_weighRow 27 = .ok (.goto 21, 3) := by decide +kernel
theorem dX0_weighRow_30 : decode cX0_weighRow 30 = .ok (.aload_n 0, 1) := by decide +kernel
theorem dX0_weighRow_31 : decode cX0_weighRow 31 = .ok (.getfield 18, 3) := by decide +kernel
theorem dX0_weighRow_34 : decode cX0_weighRow 34 = .ok (.iload 4, 2) := by decide +kernel
theorem dX0_weighRow_36 : decode cX0_weighRow 36 = .ok (.aload_n 0, 1) := by decide +kernel
theorem dX0_weighRow_37 : decode cX0_weighRow 37 = .ok (.getfield 26, 3) := by decide +kernel
theorem dX0_weighRow_40 : decode cX0_weighRow 40 = .ok (.iload 4, 2) := by decide +kernel
theorem dX0_weighRow_42 : decode cX0_weighRow 42 = .ok (.iaload, 1) := by decide +kernel
theorem dX0_weighRow_43 : decode cX0_weighRow 43 = .ok (.iload_n 2, 1) := by decide +kernel
theorem dX0_weighRow_44 : decode cX0_weighRow 44 = .ok (.aload_n 3, 1) := by decide +kernel
theorem dX0_weighRow_45 : decode cX0_weighRow 45 = .ok (.invokevirtual 92, 3) := by decide +kernel
theorem dX0_weighRow_48 : decode cX0_weighRow 48 = .ok (.istore 5, 2) := by decide +kernel
theorem dX0_weighRow_50 : decode cX0_weighRow 50 = .ok (.iconst 0, 1) := by decide +kernel
theorem dX0_weighRow_51 : decode cX0_weighRow 51 = .ok (.istore 6, 2) := by decide +kernel
theorem dX0_weighRow_53 : decode cX0_weighRow 53 = .ok (.iload 6, 2) := by decide +kernel
theorem dX0_weighRow_55 : decode cX0_weighRow 55 = .ok (.aload_n 0, 1) := by decide +kernel
theorem dX0_weighRow_56 : decode cX0_weighRow 56 = .ok (.getfield 9, 3) := by decide +kernel
theorem dX0_weighRow_59 : decode cX0_weighRow 59 = .ok (.if_icmp .ge 35, 3) := by decide +kernel
theorem dX0_weighRow_62 : decode cX0_weighRow 62 = .ok (.aload_n 0, 1) := by decide +kernel
theorem dX0_weighRow_63 : decode cX0_weighRow 63 = .ok (.getfield 62, 3) := by decide +kernel
theorem dX0_weighRow_66 : decode cX0_weighRow 66 = .ok (.iload_n 1, 1) := by decide +kernel
theorem dX0_weighRow_67 : decode cX0_weighRow 67 = .ok (.aaload, 1) := by decide +kernel
theorem dX0_weighRow_68 : decode cX0_weighRow 68 = .ok (.iload 4, 2) := by decide +kernel
theorem dX0_weighRow_70 : decode cX0_weighRow 70 = .ok (.bipush 12, 2) := by decide +kernel
theorem dX0_weighRow_72 : decode cX0_weighRow 72 = .ok (.imul, 1) := by decide +kernel
theorem dX0_weighRow_73 : decode cX0_weighRow 73 = .ok (.iload 6, 2) := by decide +kernel
theorem dX0_weighRow_75 : decode cX0_weighRow 75 = .ok (.iadd, 1) := by decide +kernel
theorem dX0_weighRow_76 : decode cX0_weighRow 76 = .ok (.aload_n 0, 1) := by decide +kernel
theorem dX0_weighRow_77 : decode cX0_weighRow 77 = .ok (.iload_n 1, 1) := by decide +kernel
theorem dX0_weighRow_78 : decode cX0_weighRow 78 = .ok (.iload 4, 2) := by decide +kernel
theorem dX0_weighRow_80 : decode cX0_weighRow 80 = .ok (.iload 5, 2) := by decide +kernel
theorem dX0_weighRow_82 : decode cX0_weighRow 82 = .ok (.iload 6, 2) := by decide +kernel
theorem dX0_weighRow_84 : decode cX0_weighRow 84 = .ok (.invokevirtual 106, 3) := by decide +kernel
theorem dX0_weighRow_87 : decode cX0_weighRow 87 = .ok (.iastore, 1) := by decide +kernel
theorem dX0_weighRow_88 : decode cX0_weighRow 88 = .ok (.iinc 6 1, 3) := by decide +kernel
theorem dX0_weighRow_91 : decode cX0_weighRow 91 = .ok (.goto (-38), 3) := by decide +kernel
theorem dX0_weighRow_94 : decode cX0_weighRow 94 = .ok (.iinc 4 1, 3) := by decide +kernel
theorem dX0_weighRow_97 : decode cX0_weighRow 97 = .ok (.goto (-94), 3) := by decide +kernel
theorem dX0_weighRow_100 : decode cX0_weighRow 100 = .ok (.return_, 1) := by decide +kernel
theorem dX0_weightOver_0 : decode cX0_weightOver 0 = .ok (.aload_n 0, 1) := by decide +kernel
theorem dX0_weightOver_1 : decode cX0_weightOver 1 = .ok (.iload 4, 2) := by decide +kernel
theorem dX0_weightOver_3 : decode cX0_weightOver 3 = .ok (.invokevirtual 69, 3) := by decide +kernel
theorem dX0_weightOver_6 : decode cX0_weightOver 6 = .ok (.ifCond .ne 12, 3) := by decide +kernel
theorem dX0_weightOver_9 : decode cX0_weightOver 9 = .ok (.aload_n 0, 1) := by decide +kernel
theorem dX0_weightOver_10 : decode cX0_weightOver 10 = .ok (.iload_n 1, 1) := by decide +kernel
theorem dX0_weightOver_11 : decode cX0_weightOver 11 = .ok (.iload_n 2, 1) := by decide +kernel
theorem dX0_weightOver_12 : decode cX0_weightOver 12 = .ok (.iload 4, 2) := by decide +kernel
theorem dX0_weightOver_14 : decode cX0_weightOver 14 = .ok (.invokevirtual 110, 3) := by decide +kernel
theorem dX0_weightOver_17 : decode cX0_weightOver 17 = .ok (.ireturn, 1) := by decide +kernel
theorem dX0_weightOver_18 : decode cX0_weightOver 18 = .ok (.iload 4, 2) := by decide +kernel
theorem dX0_weightOver_20 : decode cX0_weightOver 20 = .ok (.iload_n 2, 1) := by decide +kernel
theorem dX0_weightOver_21 : decode cX0_weightOver 21 = .ok (.if_icmp .ne 5, 3) := by decide +kernel
theorem dX0_weightOver_24 : decode cX0_weightOver 24 = .ok (.iconst 1, 1) := by decide +kernel
theorem dX0_weightOver_25 : decode cX0_weightOver 25 = .ok (.ireturn, 1) := by decide +kernel
theorem dX0_weightOver_26 : decode cX0_weightOver 26 = .ok (.iload_n 3, 1) := by decide +kernel
theorem dX0_weightOver_27 : decode cX0_weightOver 27 = .ok (.iload 4, 2) := by decide +kernel
theorem dX0_weightOver_29 : decode cX0_weightOver 29 = .ok (.if_icmp .ge 7, 3) := by decide +kernel
theorem dX0_weightOver_32 : decode cX0_weightOver 32 = .ok (.iconst 2, 1) := by decide +kernel
theorem dX0_weightOver_33 : decode cX0_weightOver 33 = .ok (.goto 17, 3) := by decide +kernel
theorem dX0_weightOver_36 : decode cX0_weightOver 36 = .ok (.aload_n 0, 1) := by decide +kernel
theorem dX0_weightOver_37 : decode cX0_weightOver 37 = .ok (.getfield 62, 3) := by decide +kernel
theorem dX0_weightOver_40 : decode cX0_weightOver 40 = .ok (.iload_n 1, 1) := by decide +kernel
theorem dX0_weightOver_41 : decode cX0_weightOver 41 = .ok (.aaload, 1) := by decide +kernel
theorem dX0_weightOver_42 : decode cX0_weightOver 42 = .ok (.iload_n 3, 1) := by decide +kernel
theorem dX0_weightOver_43 : decode cX0_weightOver 43 = .ok (.bipush 12, 2) := by decide +kernel
theorem dX0_weightOver_45 : decode cX0_weightOver 45 = .ok (.imul, 1) := by decide +kernel
theorem dX0_weightOver_46 : decode cX0_weightOver 46 = .ok (.iload 4, 2) := by decide +kernel
theorem dX0_weightOver_48 : decode cX0_weightOver 48 = .ok (.iadd, 1) := by decide +kernel
theorem dX0_weightOver_49 : decode cX0_weightOver 49 = .ok (.iaload, 1) := by decide +kernel
theorem dX0_weightOver_50 : decode cX0_weightOver 50 = .ok (.istore 5, 2) := by decide +kernel
theorem dX0_weightOver_52 : decode cX0_weightOver 52 = .ok (.iload 5, 2) := by decide +kernel
theorem dX0_weightOver_54 : decode cX0_weightOver 54 = .ok (.iconst 2, 1) := by decide +kernel
theorem dX0_weightOver_55 : decode cX0_weightOver 55 = .ok (.if_icmp .ne 7, 3) := by decide +kernel
theorem dX0_weightOver_58 : decode cX0_weightOver 58 = .ok (.iconst 2, 1) := by decide +kernel
theorem dX0_weightOver_59 : decode cX0_weightOver 59 = .ok (.goto 12, 3) := by decide +kernel
theorem dX0_weightOver_62 : decode cX0_weightOver 62 = .ok (.iload 5, 2) := by decide +kernel
theorem dX0_weightOver_64 : decode cX0_weightOver 64 = .ok (.aload_n 0, 1) := by decide +kernel
theorem dX0_weightOver_65 : decode cX0_weightOver 65 = .ok (.getfield 29, 3) := by decide +kernel
theorem dX0_weightOver_68 : decode cX0_weightOver 68 = .ok (.iload_n 2, 1) := by decide +kernel
theorem dX0_weightOver_69 : decode cX0_weightOver 69 = .ok (.iaload, 1) := by decide +kernel
theorem dX0_weightOver_70 : decode cX0_weightOver 70 = .ok (.imul, 1) := by decide +kernel
theorem dX0_weightOver_71 : decode cX0_weightOver 71 = .ok (.ireturn, 1) := by decide +kernel
theorem dX0_weightByBridge_0 : decode cX0_weightByBridge 0 = .ok (.iconst 0, 1) := by decide +kernel
theorem dX0_weightByBridge_1 : decode cX0_weightByBridge 1 = .ok (.istore 4, 2) := by decide +kernel
theorem dX0_weightByBridge_3 : decode cX0_weightByBridge 3 = .ok (.iload 4, 2) := by decide +kernel
theorem dX0_weightByBridge_5 : decode cX0_weightByBridge 5 = .ok (.iload_n 3, 1) := by decide +kernel
theorem dX0_weightByBridge_6 : decode cX0_weightByBridge 6 = .ok (.if_icmp .ge 44, 3) := by decide +kernel
theorem dX0_weightByBridge_9 : decode cX0_weightByBridge 9 = .ok (.aload_n 0, 1) := by decide +kernel
theorem dX0_weightByBridge_10 : decode cX0_weightByBridge 10 = .ok (.getfield 62, 3) := by decide +kernel
theorem dX0_weightByBridge_13 : decode cX0_weightByBridge 13 = .ok (.iload_n 1, 1) := by decide +kernel
theorem dX0_weightByBridge_14 : decode cX0_weightByBridge 14 = .ok (.aaload, 1) := by decide +kernel
theorem dX0_weightByBridge_15 : decode cX0_weightByBridge 15 = .ok (.iload_n 2, 1) := by decide +kernel
theorem dX0_weightByBridge_16 : decode cX0_weightByBridge 16 = .ok (.bipush 12, 2) := by decide +kernel
theorem dX0_weightByBridge_18 : decode cX0_weightByBridge 18 = .ok (.imul, 1) := by decide +kernel
theorem dX0_weightByBridge_19 : decode cX0_weightByBridge 19 = .ok (.iload 4, 2) := by decide +kernel
theorem dX0_weightByBridge_21 : decode cX0_weightByBridge 21 = .ok (.iadd, 1) := by decide +kernel
theorem dX0_weightByBridge_22 : decode cX0_weightByBridge 22 = .ok (.iaload, 1) := by decide +kernel
theorem dX0_weightByBridge_23 : decode cX0_weightByBridge 23 = .ok (.istore 5, 2) := by decide +kernel
theorem dX0_weightByBridge_25 : decode cX0_weightByBridge 25 = .ok (.aload_n 0, 1) := by decide +kernel
theorem dX0_weightByBridge_26 : decode cX0_weightByBridge 26 = .ok (.iload_n 3, 1) := by decide +kernel
theorem dX0_weightByBridge_27 : decode cX0_weightByBridge 27 = .ok (.iload 4, 2) := by decide +kernel
theorem dX0_weightByBridge_29 : decode cX0_weightByBridge 29 = .ok (.invokevirtual 88, 3) := by decide +kernel
theorem dX0_weightByBridge_32 : decode cX0_weightByBridge 32 = .ok (.ifCond .eq 12, 3) := by decide +kernel
theorem dX0_weightByBridge_35 : decode cX0_weightByBridge 35 = .ok (.iload 5, 2) := by decide +kernel
theorem dX0_weightByBridge_37 : decode cX0_weightByBridge 37 = .ok (.iconst 2, 1) := by decide +kernel
theorem dX0_weightByBridge_38 : decode cX0_weightByBridge 38 = .ok (.if_icmp .eq 6, 3) := by decide +kernel
theorem dX0_weightByBridge_41 : decode cX0_weightByBridge 41 = .ok (.iload 5, 2) := by decide +kernel
theorem dX0_weightByBridge_43 : decode cX0_weightByBridge 43 = .ok (.ireturn, 1) := by decide +kernel
theorem dX0_weightByBridge_44 : decode cX0_weightByBridge 44 = .ok (.iinc 4 1, 3) := by decide +kernel
theorem dX0_weightByBridge_47 : decode cX0_weightByBridge 47 = .ok (.goto (-44), 3) := by decide +kernel
theorem dX0_weightByBridge_50 : decode cX0_weightByBridge 50 = .ok (.iconst 2, 1) := by decide +kernel
theorem dX0_weightByBridge_51 : decode cX0_weightByBridge 51 = .ok (.ireturn, 1) := by decide +kernel
theorem dX0_weight_0 : decode cX0_weight 0 = .ok (.iload_n 1, 1) := by decide +kernel
theorem dX0_weight_1 : decode cX0_weight 1 = .ok (.ifCond .lt 33, 3) := by decide +kernel
theorem dX0_weight_4 : decode cX0_weight 4 = .ok (.iload_n 1, 1) := by decide +kernel
theorem dX0_weight_5 : decode cX0_weight 5 = .ok (.bipush 12, 2) := by decide +kernel
theorem dX0_weight_7 : decode cX0_weight 7 = .ok (.if_icmp .gt 27, 3) := by decide +kernel
theorem dX0_weight_10 : decode cX0_weight 10 = .ok (.iload_n 2, 1) := by decide +kernel
theorem dX0_weight_11 : decode cX0_weight 11 = .ok (.ifCond .lt 23, 3) := by decide +kernel
theorem dX0_weight_14 : decode cX0_weight 14 = .ok (.iload_n 2, 1) := by decide +kernel
theorem dX0_weight_15 : decode cX0_weight 15 = .ok (.aload_n 0, 1) := by decide +kernel
theorem dX0_weight_16 : decode cX0_weight 16 = .ok (.getfield 9, 3) := by decide +kernel
theorem dX0_weight_19 : decode cX0_weight 19 = .ok (.if_icmp .ge 15, 3) := by decide +kernel
theorem dX0_weight_22 : decode cX0_weight 22 = .ok (.iload_n 3, 1) := by decide +kernel
theorem dX0_weight_23 : decode cX0_weight 23 = .ok (.ifCond .lt 11, 3) := by decide +kernel
theorem dX0_weight_26 : decode cX0_weight 26 = .ok (.iload_n 3, 1) := by decide +kernel
theorem dX0_weight_27 : decode cX0_weight 27 = .ok (.aload_n 0, 1) := by decide +kernel
theorem dX0_weight_28 : decode cX0_weight 28 = .ok (.getfield 9, 3) := by decide +kernel
theorem dX0_weight_31 : decode cX0_weight 31 = .ok (.if_icmp .lt 5, 3) := by decide +kernel
theorem dX0_weight_34 : decode cX0_weight 34 = .ok (.iconst 0, 1) := by decide +kernel
theorem dX0_weight_35 : decode cX0_weight 35 = .ok (.ireturn, 1) := by decide +kernel
theorem dX0_weight_36 : decode cX0_weight 36 = .ok (.aload_n 0, 1) := by decide +kernel
theorem dX0_weight_37 : decode cX0_weight 37 = .ok (.getfield 62, 3) := by decide +kernel
theorem dX0_weight_40 : decode cX0_weight 40 = .ok (.iload_n 1, 1) := by decide +kernel
theorem dX0_weight_41 : decode cX0_weight 41 = .ok (.aaload, 1) := by decide +kernel
theorem dX0_weight_42 : decode cX0_weight 42 = .ok (.iload_n 2, 1) := by decide +kernel
theorem dX0_weight_43 : decode cX0_weight 43 = .ok (.bipush 12, 2) := by decide +kernel
theorem dX0_weight_45 : decode cX0_weight 45 = .ok (.imul, 1) := by decide +kernel
theorem dX0_weight_46 : decode cX0_weight 46 = .ok (.iload_n 3, 1) := by decide +kernel
theorem dX0_weight_47 : decode cX0_weight 47 = .ok (.iadd, 1) := by decide +kernel
theorem dX0_weight_48 : decode cX0_weight 48 = .ok (.iaload, 1) := by decide +kernel
theorem dX0_weight_49 : decode cX0_weight 49 = .ok (.istore 4, 2) := by decide +kernel
theorem dX0_weight_51 : decode cX0_weight 51 = .ok (.iload 4, 2) := by decide +kernel
theorem dX0_weight_53 : decode cX0_weight 53 = .ok (.iconst 2, 1) := by decide +kernel
theorem dX0_weight_54 : decode cX0_weight 54 = .ok (.if_icmp .ne 7, 3) := by decide +kernel
theorem dX0_weight_57 : decode cX0_weight 57 = .ok (.iconst 0, 1) := by decide +kernel
theorem dX0_weight_58 : decode cX0_weight 58 = .ok (.goto 5, 3) := by decide +kernel
theorem dX0_weight_61 : decode cX0_weight 61 = .ok (.iload 4, 2) := by decide +kernel
theorem dX0_weight_63 : decode cX0_weight 63 = .ok (.ireturn, 1) := by decide +kernel
theorem dX0_pickAll_0 : decode cX0_pickAll 0 = .ok (.aload_n 0, 1) := by decide +kernel
theorem dX0_pickAll_1 : decode cX0_pickAll 1 = .ok (.iconst 0, 1) := by decide +kernel
theorem dX0_pickAll_2 : decode cX0_pickAll 2 = .ok (.putfield 114, 3) := by decide +kernel
theorem dX0_pickAll_5 : decode cX0_pickAll 5 = .ok (.iconst 0, 1) := by decide +kernel
theorem dX0_pickAll_6 : decode cX0_pickAll 6 = .ok (.istore_n 3, 1) := by decide +kernel
theorem dX0_pickAll_7 : decode cX0_pickAll 7 = .ok (.iload_n 3, 1) := by decide +kernel
theorem dX0_pickAll_8 : decode cX0_pickAll 8 = .ok (.aload_n 0, 1) := by decide +kernel
theorem dX0_pickAll_9 : decode cX0_pickAll 9 = .ok (.getfield 9, 3) := by decide +kernel
theorem dX0_pickAll_12 : decode cX0_pickAll 12 = .ok (.if_icmp .ge 56, 3) := by decide +kernel
theorem dX0_pickAll_15 : decode cX0_pickAll 15 = .ok (.aload_n 0, 1) := by decide +kernel
theorem dX0_pickAll_16 : decode cX0_pickAll 16 = .ok (.getfield 57, 3) := by decide +kernel
theorem dX0_pickAll_19 : decode cX0_pickAll 19 = .ok (.iload_n 3, 1) := by decide +kernel
theorem dX0_pickAll_20 : decode cX0_pickAll 20 = .ok (.baload, 1) := by decide +kernel
theorem dX0_pickAll_21 : decode cX0_pickAll 21 = .ok (.ifCond .eq 41, 3) := by decide +kernel
theorem dX0_pickAll_24 : decode cX0_pickAll 24 = .ok (.aload_n 0, 1) := by decide +kernel
theorem dX0_pickAll_25 : decode cX0_pickAll 25 = .ok (.iload_n 3, 1) := by decide +kernel
theorem dX0_pickAll_26 : decode cX0_pickAll 26 = .ok (.invokevirtual 69, 3) := by decide +kernel
theorem dX0_pickAll_29 : decode cX0_pickAll 29 = .ok (.ifCond .eq 33, 3) := by decide +kernel
theorem dX0_pickAll_32 : decode cX0_pickAll 32 = .ok (.aload_n 0, 1) := by decide +kernel
theorem dX0_pickAll_33 : decode cX0_pickAll 33 = .ok (.iload_n 1, 1) := by decide +kernel
theorem dX0_pickAll_34 : decode cX0_pickAll 34 = .ok (.iload_n 2, 1) := by decide +kernel
theorem dX0_pickAll_35 : decode cX0_pickAll 35 = .ok (.iload_n 3, 1) := by decide +kernel
theorem dX0_pickAll_36 : decode cX0_pickAll 36 = .ok (.invokevirtual 117, 3) := by decide +kernel
theorem dX0_pickAll_39 : decode cX0_pickAll 39 = .ok (.ifCond .eq 23, 3) := by decide +kernel
theorem dX0_pickAll_42 : decode cX0_pickAll 42 = .ok (.aload_n 0, 1) := by decide +kernel
theorem dX0_pickAll_43 : decode cX0_pickAll 43 = .ok (.getfield 48, 3) := by decide +kernel
theorem dX0_pickAll_46 : decode cX0_pickAll 46 = .ok (.aload_n 0, 1) := by decide +kernel
theorem dX0_pickAll_47 : decode cX0_pickAll 47 = .ok (.getfield 114, 3) := by decide +kernel
theorem dX0_pickAll_50 : decode cX0_pickAll 50 = .ok (.iload_n 3, 1) := by decide +kernel
theorem dX0_pickAll_51 : decode cX0_pickAll 51 = .ok (.iastore, 1) := by decide +kernel
theorem dX0_pickAll_52 : decode cX0_pickAll 52 = .ok (.aload_n 0, 1) := by decide +kernel
theorem dX0_pickAll_53 : decode cX0_pickAll 53 = .ok (.dup, 1) := by decide +kernel
theorem dX0_pickAll_54 : decode cX0_pickAll 54 = .ok (.getfield 114, 3) := by decide +kernel
theorem dX0_pickAll_57 : decode cX0_pickAll 57 = .ok (.iconst 1, 1) := by decide +kernel
theorem dX0_pickAll_58 : decode cX0_pickAll 58 = .ok (.iadd, 1) := by decide +kernel
theorem dX0_pickAll_59 : decode cX0_pickAll 59 = .ok (.putfield 114, 3) := by decide +kernel
theorem dX0_pickAll_62 : decode cX0_pickAll 62 = .ok (.iinc 3 1, 3) := by decide +kernel
theorem dX0_pickAll_65 : decode cX0_pickAll 65 = .ok (.goto (-58), 3) := by decide +kernel
theorem dX0_pickAll_68 : decode cX0_pickAll 68 = .ok (.return_, 1) := by decide +kernel
theorem dX0_isAsked_0 : decode cX0_isAsked 0 = .ok (.iload_n 1, 1) := by decide +kernel
theorem dX0_isAsked_1 : decode cX0_isAsked 1 = .ok (.ifCond .ne 19, 3) := by decide +kernel
theorem dX0_isAsked_4 : decode cX0_isAsked 4 = .ok (.aload_n 0, 1) := by decide +kernel
theorem dX0_isAsked_5 : decode cX0_isAsked 5 = .ok (.getfield 51, 3) := by decide +kernel
theorem dX0_isAsked_8 : decode cX0_isAsked 8 = .ok (.iload_n 3, 1) := by decide +kernel
theorem dX0_isAsked_9 : decode cX0_isAsked 9 = .ok (.iaload, 1) := by decide +kernel
theorem dX0_isAsked_10 : decode cX0_isAsked 10 = .ok (.iload_n 2, 1) := by decide +kernel
theorem dX0_isAsked_11 : decode cX0_isAsked 11 = .ok (.if_icmp .ne 7, 3) := by decide +kernel
theorem dX0_isAsked_14 : decode cX0_isAsked 14 = .ok (.iconst 1, 1) := by decide +kernel
theorem dX0_isAsked_15 : decode cX0_isAsked 15 = .ok (.goto 4, 3) := by decide +kernel
theorem dX0_isAsked_18 : decode cX0_isAsked 18 = .ok (.iconst 0, 1) := by decide +kernel
theorem dX0_isAsked_19 : decode cX0_isAsked 19 = .ok (.ireturn, 1) := by decide +kernel
theorem dX0_isAsked_20 : decode cX0_isAsked 20 = .ok (.iload_n 1, 1) := by decide +kernel
theorem dX0_isAsked_21 : decode cX0_isAsked 21 = .ok (.iconst 2, 1) := by decide +kernel
theorem dX0_isAsked_22 : decode cX0_isAsked 22 = .ok (.if_icmp .ne 19, 3) := by decide +kernel
theorem dX0_isAsked_25 : decode cX0_isAsked 25 = .ok (.aload_n 0, 1) := by decide +kernel
theorem dX0_isAsked_26 : decode cX0_isAsked 26 = .ok (.getfield 54, 3) := by decide +kernel
theorem dX0_isAsked_29 : decode cX0_isAsked 29 = .ok (.iload_n 3, 1) := by decide +kernel
theorem dX0_isAsked_30 : decode cX0_isAsked 30 = .ok (.iaload, 1) := by decide +kernel
theorem dX0_isAsked_31 : decode cX0_isAsked 31 = .ok (.iload_n 2, 1) := by decide +kernel
theorem dX0_isAsked_32 : decode cX0_isAsked 32 = .ok (.if_icmp .ne 7, 3) := by decide +kernel
theorem dX0_isAsked_35 : decode cX0_isAsked 35 = .ok (.iconst 1, 1) := by decide +kernel
theorem dX0_isAsked_36 : decode cX0_isAsked 36 = .ok (.goto 4, 3) := by decide +kernel
theorem dX0_isAsked_39 : decode cX0_isAsked 39 = .ok (.iconst 0, 1) := by decide +kernel
theorem dX0_isAsked_40 : decode cX0_isAsked 40 = .ok (.ireturn, 1) := by decide +kernel
theorem dX0_isAsked_41 : decode cX0_isAsked 41 = .ok (.aload_n 0, 1) := by decide +kernel
theorem dX0_isAsked_42 : decode cX0_isAsked 42 = .ok (.iload_n 2, 1) := by decide +kernel
theorem dX0_isAsked_43 : decode cX0_isAsked 43 = .ok (.invokevirtual 65, 3) := by decide +kernel
theorem dX0_isAsked_46 : decode cX0_isAsked 46 = .ok (.ifCond .eq 33, 3) := by decide +kernel
theorem dX0_isAsked_49 : decode cX0_isAsked 49 = .ok (.aload_n 0, 1) := by decide +kernel
theorem dX0_isAsked_50 : decode cX0_isAsked 50 = .ok (.iload_n 3, 1) := by decide +kernel
theorem dX0_isAsked_51 : decode cX0_isAsked 51 = .ok (.invokevirtual 121, 3) := by decide +kernel
theorem dX0_isAsked_54 : decode cX0_isAsked 54 = .ok (.ifCond .eq 25, 3) := by decide +kernel
theorem dX0_isAsked_57 : decode cX0_isAsked 57 = .ok (.aload_n 0, 1) := by decide +kernel
theorem dX0_isAsked_58 : decode cX0_isAsked 58 = .ok (.getfield 62, 3) := by decide +kernel
theorem dX0_isAsked_61 : decode cX0_isAsked 61 = .ok (.bipush 12, 2) := by decide +kernel
theorem dX0_isAsked_63 : decode cX0_isAsked 63 = .ok (.aaload, 1) := by decide +kernel
theorem dX0_isAsked_64 : decode cX0_isAsked 64 = .ok (.iload_n 3, 1) := by decide +kernel
theorem dX0_isAsked_65 : decode cX0_isAsked 65 = .ok (.bipush 12, 2) := by decide +kernel
theorem dX0_isAsked_67 : decode cX0_isAsked 67 = .ok (.imul, 1) := by decide +kernel
theorem dX0_isAsked_68 : decode cX0_isAsked 68 = .ok (.iload_n 2, 1) := by decide +kernel
theorem dX0_isAsked_69 : decode cX0_isAsked 69 = .ok (.iadd, 1) := by decide +kernel
theorem dX0_isAsked_70 : decode cX0_isAsked 70 = .ok (.iaload, 1) := by decide +kernel
theorem dX0_isAsked_71 : decode cX0_isAsked 71 = .ok (.iconst 2, 1) := by decide +kernel
theorem dX0_isAsked_72 : decode cX0_isAsked 72 = .ok (.if_icmp .eq 7, 3) := by decide +kernel
theorem dX0_isAsked_75 : decode cX0_isAsked 75 = .ok (.iconst 1, 1) := by decide +kernel
theorem dX0_isAsked_76 : decode cX0_isAsked 76 = .ok (.goto 4, 3) := by decide +kernel
theorem dX0_isAsked_79 : decode cX0_isAsked 79 = .ok (.iconst 0, 1) := by decide +kernel
theorem dX0_isAsked_80 : decode cX0_isAsked 80 = .ok (.ireturn, 1) := by decide +kernel
theorem dX0_isLeaf_0 : decode cX0_isLeaf 0 = .ok (.iconst 1, 1) := by decide +kernel
theorem dX0_isLeaf_1 : decode cX0_isLeaf 1 = .ok (.istore_n 2, 1) := by decide +kernel
theorem dX0_isLeaf_2 : decode cX0_isLeaf 2 = .ok (.iload_n 2, 1) := by decide +kernel
theorem dX0_isLeaf_3 : decode cX0_isLeaf 3 = .ok (.aload_n 0, 1) := by decide +kernel
theorem dX0_isLeaf_4 : decode cX0_isLeaf 4 = .ok (.getfield 9, 3) := by decide +kernel
theorem dX0_isLeaf_7 : decode cX0_isLeaf 7 = .ok (.if_icmp .ge 20, 3) := by decide +kernel
theorem dX0_isLeaf_10 : decode cX0_isLeaf 10 = .ok (.aload_n 0, 1) := by decide +kernel
theorem dX0_isLeaf_11 : decode cX0_isLeaf 11 = .ok (.iload_n 2, 1) := by decide +kernel
theorem dX0_isLeaf_12 : decode cX0_isLeaf 12 = .ok (.invokevirtual 124, 3) := by decide +kernel
theorem dX0_isLeaf_15 : decode cX0_isLeaf 15 = .ok (.iload_n 1, 1) := by decide +kernel
theorem dX0_isLeaf_16 : decode cX0_isLeaf 16 = .ok (.if_icmp .ne 5, 3) := by decide +kernel
theorem dX0_isLeaf_19 : decode cX0_isLeaf 19 = .ok (.iconst 0, 1) := by decide +kernel
theorem dX0_isLeaf_20 : decode cX0_isLeaf 20 = .ok (.ireturn, 1) := by decide +kernel
theorem dX0_isLeaf_21 : decode cX0_isLeaf 21 = .ok (.iinc 2 1, 3) := by decide +kernel
theorem dX0_isLeaf_24 : decode cX0_isLeaf 24 = .ok (.goto (-22), 3) := by decide +kernel
theorem dX0_isLeaf_27 : decode cX0_isLeaf 27 = .ok (.iconst 1, 1) := by decide +kernel
theorem dX0_isLeaf_28 : decode cX0_isLeaf 28 = .ok (.ireturn, 1) := by decide +kernel
theorem dX0_pickedAt_0 : decode cX0_pickedAt 0 = .ok (.iload_n 1, 1) := by decide +kernel
theorem dX0_pickedAt_1 : decode cX0_pickedAt 1 = .ok (.ifCond .lt 26, 3) := by decide +kernel
theorem dX0_pickedAt_4 : decode cX0_pickedAt 4 = .ok (.iload_n 1, 1) := by decide +kernel
theorem dX0_pickedAt_5 : decode cX0_pickedAt 5 = .ok (.aload_n 0, 1) := by decide +kernel
theorem dX0_pickedAt_6 : decode cX0_pickedAt 6 = .ok (.getfield 114, 3) := by decide +kernel
theorem dX0_pickedAt_9 : decode cX0_pickedAt 9 = .ok (.if_icmp .ge 18, 3) := by decide +kernel
theorem dX0_pickedAt_12 : decode cX0_pickedAt 12 = .ok (.iload_n 1, 1) := by decide +kernel
theorem dX0_pickedAt_13 : decode cX0_pickedAt 13 = .ok (.bipush 12, 2) := by decide +kernel
theorem dX0_pickedAt_15 : decode cX0_pickedAt 15 = .ok (.if_icmp .ge 12, 3) := by decide +kernel
theorem dX0_pickedAt_18 : decode cX0_pickedAt 18 = .ok (.aload_n 0, 1) := by decide +kernel
theorem dX0_pickedAt_19 : decode cX0_pickedAt 19 = .ok (.getfield 48, 3) := by decide +kernel
theorem dX0_pickedAt_22 : decode cX0_pickedAt 22 = .ok (.iload_n 1, 1) := by decide +kernel
theorem dX0_pickedAt_23 : decode cX0_pickedAt 23 = .ok (.iaload, 1) := by decide +kernel
theorem dX0_pickedAt_24 : decode cX0_pickedAt 24 = .ok (.goto 4, 3) := by decide +kernel
theorem dX0_pickedAt_27 : decode cX0_pickedAt 27 = .ok (.iconst (-1), 1) := by decide +kernel
theorem dX0_pickedAt_28 : decode cX0_pickedAt 28 = .ok (.ireturn, 1) := by decide +kernel
theorem dX1_init_0 : decode cX1_init 0 = .ok (.aload_n 0, 1) := by decide +kernel
theorem dX1_init_1 : decode cX1_init 1 = .ok (.invokespecial 3, 3) := by decide +kernel
theorem dX1_init_4 : decode cX1_init 4 = .ok (.aload_n 0, 1) := by decide +kernel
theorem dX1_init_5 : decode cX1_init 5 = .ok (.bipush 50, 2) := by decide +kernel
theorem dX1_init_7 : decode cX1_init 7 = .ok (.newarray .int, 2) := by decide +kernel
theorem dX1_init_9 : decode cX1_init 9 = .ok (.putfield 9, 3) := by decide +kernel
theorem dX1_init_12 : decode cX1_init 12 = .ok (.aload_n 0, 1) := by decide +kernel
theorem dX1_init_13 : decode cX1_init 13 = .ok (.bipush 50, 2) := by decide +kernel
theorem dX1_init_15 : decode cX1_init 15 = .ok (.newarray .int, 2) := by decide +kernel
theorem dX1_init_17 : decode cX1_init 17 = .ok (.putfield 15, 3) := by decide +kernel
theorem dX1_init_20 : decode cX1_init 20 = .ok (.aload_n 0, 1) := by decide +kernel
theorem dX1_init_21 : decode cX1_init 21 = .ok (.bipush 50, 2) := by decide +kernel
theorem dX1_init_23 : decode cX1_init 23 = .ok (.newarray .int, 2) := by decide +kernel
theorem dX1_init_25 : decode cX1_init 25 = .ok (.putfield 18, 3) := by decide +kernel
theorem dX1_init_28 : decode cX1_init 28 = .ok (.aload_n 0, 1) := by decide +kernel
theorem dX1_init_29 : decode cX1_init 29 = .ok (.bipush 50, 2) := by decide +kernel
theorem dX1_init_31 : decode cX1_init 31 = .ok (.newarray .int, 2) := by decide +kernel
theorem dX1_init_33 : decode cX1_init 33 = .ok (.putfield 21, 3) := by decide +kernel
theorem dX1_init_36 : decode cX1_init 36 = .ok (.aload_n 0, 1) := by decide +kernel
theorem dX1_init_37 : decode cX1_init 37 = .ok (.bipush 50, 2) := by decide +kernel
theorem dX1_init_39 : decode cX1_init 39 = .ok (.newarray .int, 2) := by decide +kernel
theorem dX1_init_41 : decode cX1_init 41 = .ok (.putfield 24, 3) := by decide +kernel
theorem dX1_init_44 : decode cX1_init 44 = .ok (.aload_n 0, 1) := by decide +kernel
theorem dX1_init_45 : decode cX1_init 45 = .ok (.bipush 50, 2) := by decide +kernel
theorem dX1_init_47 : decode cX1_init 47 = .ok (.newarray .int, 2) := by decide +kernel
theorem dX1_init_49 : decode cX1_init 49 = .ok (.putfield 27, 3) := by decide +kernel
theorem dX1_init_52 : decode cX1_init 52 = .ok (.return_, 1) := by decide +kernel
theorem dX1_has_0 : decode cX1_has 0 = .ok (.iload_n 1, 1) := by decide +kernel
theorem dX1_has_1 : decode cX1_has 1 = .ok (.ifCond .lt 21, 3) := by decide +kernel
theorem dX1_has_4 : decode cX1_has 4 = .ok (.iload_n 1, 1) := by decide +kernel
theorem dX1_has_5 : decode cX1_has 5 = .ok (.aload_n 0, 1) := by decide +kernel
theorem dX1_has_6 : decode cX1_has 6 = .ok (.getfield 30, 3) := by decide +kernel
theorem dX1_has_9 : decode cX1_has 9 = .ok (.if_icmp .ge 13, 3) := by decide +kernel
theorem dX1_has_12 : decode cX1_has 12 = .ok (.iload_n 1, 1) := by decide +kernel
theorem dX1_has_13 : decode cX1_has 13 = .ok (.bipush 50, 2) := by decide +kernel
theorem dX1_has_15 : decode cX1_has 15 = .ok (.if_icmp .ge 7, 3) := by decide +kernel
theorem dX1_has_18 : decode cX1_has 18 = .ok (.iconst 1, 1) := by decide +kernel
theorem dX1_has_19 : decode cX1_has 19 = .ok (.goto 4, 3) := by decide +kernel
theorem dX1_has_22 : decode cX1_has 22 = .ok (.iconst 0, 1) := by decide +kernel
theorem dX1_has_23 : decode cX1_has 23 = .ok (.ireturn, 1) := by decide +kernel
theorem dX1_find_0 : decode cX1_find 0 = .ok (.iconst 0, 1) := by decide +kernel
theorem dX1_find_1 : decode cX1_find 1 = .ok (.istore_n 3, 1) := by decide +kernel
theorem dX1_find_2 : decode cX1_find 2 = .ok (.iload_n 3, 1) := by decide +kernel
theorem dX1_find_3 : decode cX1_find 3 = .ok (.aload_n 0, 1) := by decide +kernel
theorem dX1_find_4 : decode cX1_find 4 = .ok (.getfield 30, 3) := by decide +kernel
theorem dX1_find_7 : decode cX1_find 7 = .ok (.if_icmp .ge 31, 3) := by decide +kernel
theorem dX1_find_10 : decode cX1_find 10 = .ok (.aload_n 0, 1) := by decide +kernel
theorem dX1_find_11 : decode cX1_find 11 = .ok (.getfield 9, 3) := by decide +kernel
theorem dX1_find_14 : decode cX1_find 14 = .ok (.iload_n 3, 1) := by decide +kernel
theorem dX1_find_15 : decode cX1_find 15 = .ok (.iaload, 1) := by decide +kernel
theorem dX1_find_16 : decode cX1_find 16 = .ok (.iload_n 1, 1) := by decide +kernel
theorem dX1_find_17 : decode cX1_find 17 = .ok (.if_icmp .ne 15, 3) := by decide +kernel
theorem dX1_find_20 : decode cX1_find 20 = .ok (.aload_n 0, 1) := by decide +kernel
theorem dX1_find_21 : decode cX1_find 21 = .ok (.getfield 15, 3) := by decide +kernel
theorem dX1_find_24 : decode cX1_find 24 = .ok (.iload_n 3, 1) := by decide +kernel
theorem dX1_find_25 : decode cX1_find 25 = .ok (.iaload, 1) := by decide +kernel
theorem dX1_find_26 : decode cX1_find 26 = .ok (.iload_n 2, 1) := by decide +kernel
theorem dX1_find_27 : decode cX1_find 27 = .ok (.if_icmp .ne 5, 3) := by decide +kernel
theorem dX1_find_30 : decode cX1_find 30 = .ok (.iload_n 3, 1) := by decide +kernel
theorem dX1_find_31 : decode cX1_find 31 = .ok (.ireturn, 1) := by decide +kernel
theorem dX1_find_32 : decode cX1_find 32 = .ok (.iinc 3 1, 3) := by decide +kernel
theorem dX1_find_35 : decode cX1_find 35 = .ok (.goto (-33), 3) := by decide +kernel
theorem dX1_find_38 : decode cX1_find 38 = .ok (.iconst (-1), 1) := by decide +kernel
theorem dX1_find_39 : decode cX1_find 39 = .ok (.ireturn, 1) := by decide +kernel
theorem dX1_cellAt_0 : decode cX1_cellAt 0 = .ok (.aload_n 0, 1) := by decide +kernel
theorem dX1_cellAt_1 : decode cX1_cellAt 1 = .ok (.iload_n 1, 1) := by decide +kernel
theorem dX1_cellAt_2 : decode cX1_cellAt 2 = .ok (.invokevirtual 34, 3) := by decide +kernel
theorem dX1_cellAt_5 : decode cX1_cellAt 5 = .ok (.ifCond .eq 12, 3) := by decide +kernel
theorem dX1_cellAt_8 : decode cX1_cellAt 8 = .ok (.aload_n 0, 1) := by decide +kernel
theorem dX1_cellAt_9 : decode cX1_cellAt 9 = .ok (.getfield 9, 3) := by decide +kernel
theorem dX1_cellAt_12 : decode cX1_cellAt 12 = .ok (.iload_n 1, 1) := by decide +kernel
theorem dX1_cellAt_13 : decode cX1_cellAt 13 = .ok (.iaload, 1) := by decide +kernel
theorem dX1_cellAt_14 : decode cX1_cellAt 14 = .ok (.goto 4, 3) := by decide +kernel
theorem dX1_cellAt_17 : decode cX1_cellAt 17 = .ok (.iconst 0, 1) := by decide +kernel
theorem dX1_cellAt_18 : decode cX1_cellAt 18 = .ok (.ireturn, 1) := by decide +kernel
theorem dX1_measureAt_0 : decode cX1_measureAt 0 = .ok (.aload_n 0, 1) := by decide +kernel
theorem dX1_measureAt_1 : decode cX1_measureAt 1 = .ok (.iload_n 1, 1) := by decide +kernel
theorem dX1_measureAt_2 : decode cX1_measureAt 2 = .ok (.invokevirtual 34, 3) := by decide +kernel
theorem dX1_measureAt_5 : decode cX1_measureAt 5 = .ok (.ifCond .eq 12, 3) := by decide +kernel
theorem dX1_measureAt_8 : decode cX1_measureAt 8 = .ok (.aload_n 0, 1) := by decide +kernel
theorem dX1_measureAt_9 : decode cX1_measureAt 9 = .ok (.getfield 15, 3) := by decide +kernel
theorem dX1_measureAt_12 : decode cX1_measureAt 12 = .ok (.iload_n 1, 1) := by decide +kernel
theorem dX1_measureAt_13 : decode cX1_measureAt 13 = .ok (.iaload, 1) := by decide +kernel
theorem dX1_measureAt_14 : decode cX1_measureAt 14 = .ok (.goto 4, 3) := by decide +kernel
theorem dX1_measureAt_17 : decode cX1_measureAt 17 = .ok (.iconst (-1), 1) := by decide +kernel
theorem dX1_measureAt_18 : decode cX1_measureAt 18 = .ok (.ireturn, 1) := by decide +kernel
theorem dX1_numberAt_0 : decode cX1_numberAt 0 = .ok (.aload_n 0, 1) := by decide +kernel
theorem dX1_numberAt_1 : decode cX1_numberAt 1 = .ok (.iload_n 1, 1) := by decide +kernel
theorem dX1_numberAt_2 : decode cX1_numberAt 2 = .ok (.invokevirtual 34, 3) := by decide +kernel
theorem dX1_numberAt_5 : decode cX1_numberAt 5 = .ok (.ifCond .eq 12, 3) := by decide +kernel
theorem dX1_numberAt_8 : decode cX1_numberAt 8 = .ok (.aload_n 0, 1) := by decide +kernel
theorem dX1_numberAt_9 : decode cX1_numberAt 9 = .ok (.getfield 18, 3) := by decide +kernel
theorem dX1_numberAt_12 : decode cX1_numberAt 12 = .ok (.iload_n 1, 1) := by decide +kernel
theorem dX1_numberAt_13 : decode cX1_numberAt 13 = .ok (.iaload, 1) := by decide +kernel
theorem dX1_numberAt_14 : decode cX1_numberAt 14 = .ok (.goto 4, 3) := by decide +kernel
theorem dX1_numberAt_17 : decode cX1_numberAt 17 = .ok (.iconst 0, 1) := by decide +kernel
theorem dX1_numberAt_18 : decode cX1_numberAt 18 = .ok (.ireturn, 1) := by decide +kernel
theorem dX1_setNumber_0 : decode cX1_setNumber 0 = .ok (.aload_n 0, 1) := by decide +kernel
theorem dX1_setNumber_1 : decode cX1_setNumber 1 = .ok (.iload_n 1, 1) := by decide +kernel
theorem dX1_setNumber_2 : decode cX1_setNumber 2 = .ok (.invokevirtual 34, 3) := by decide +kernel
theorem dX1_setNumber_5 : decode cX1_setNumber 5 = .ok (.ifCond .eq 10, 3) := by decide +kernel
theorem dX1_setNumber_8 : decode cX1_setNumber 8 = .ok (.aload_n 0, 1) := by decide +kernel
theorem dX1_setNumber_9 : decode cX1_setNumber 9 = .ok (.getfield 18, 3) := by decide +kernel
theorem dX1_setNumber_12 : decode cX1_setNumber 12 = .ok (.iload_n 1, 1) := by decide +kernel
theorem dX1_setNumber_13 : decode cX1_setNumber 13 = .ok (.iload_n 2, 1) := by decide +kernel
theorem dX1_setNumber_14 : decode cX1_setNumber 14 = .ok (.iastore, 1) := by decide +kernel
theorem dX1_setNumber_15 : decode cX1_setNumber 15 = .ok (.return_, 1) := by decide +kernel
theorem dX1_add_0 : decode cX1_add 0 = .ok (.aload_n 0, 1) := by decide +kernel
theorem dX1_add_1 : decode cX1_add 1 = .ok (.getfield 30, 3) := by decide +kernel
theorem dX1_add_4 : decode cX1_add 4 = .ok (.bipush 50, 2) := by decide +kernel
theorem dX1_add_6 : decode cX1_add 6 = .ok (.if_icmp .ge 43, 3) := by decide +kernel
theorem dX1_add_9 : decode cX1_add 9 = .ok (.aload_n 0, 1) := by decide +kernel
theorem dX1_add_10 : decode cX1_add 10 = .ok (.getfield 9, 3) := by decide +kernel
theorem dX1_add_13 : decode cX1_add 13 = .ok (.aload_n 0, 1) := by decide +kernel
theorem dX1_add_14 : decode cX1_add 14 = .ok (.getfield 30, 3) := by decide +kernel
theorem dX1_add_17 : decode cX1_add 17 = .ok (.iload_n 1, 1) := by decide +kernel
theorem dX1_add_18 : decode cX1_add 18 = .ok (.iastore, 1) := by decide +kernel
theorem dX1_add_19 : decode cX1_add 19 = .ok (.aload_n 0, 1) := by decide +kernel
theorem dX1_add_20 : decode cX1_add 20 = .ok (.getfield 15, 3) := by decide +kernel
theorem dX1_add_23 : decode cX1_add 23 = .ok (.aload_n 0, 1) := by decide +kernel
theorem dX1_add_24 : decode cX1_add 24 = .ok (.getfield 30, 3) := by decide +kernel
theorem dX1_add_27 : decode cX1_add 27 = .ok (.iload_n 2, 1) := by decide +kernel
theorem dX1_add_28 : decode cX1_add 28 = .ok (.iastore, 1) := by decide +kernel
theorem dX1_add_29 : decode cX1_add 29 = .ok (.aload_n 0, 1) := by decide +kernel
theorem dX1_add_30 : decode cX1_add 30 = .ok (.getfield 18, 3) := by decide +kernel
theorem dX1_add_33 : decode cX1_add 33 = .ok (.aload_n 0, 1) := by decide +kernel
theorem dX1_add_34 : decode cX1_add 34 = .ok (.getfield 30, 3) := by decide +kernel
theorem dX1_add_37 : decode cX1_add 37 = .ok (.iload_n 3, 1) := by decide +kernel
theorem dX1_add_38 : decode cX1_add 38 = .ok (.iastore, 1) := by decide +kernel
theorem dX1_add_39 : decode cX1_add 39 = .ok (.aload_n 0, 1) := by decide +kernel
theorem dX1_add_40 : decode cX1_add 40 = .ok (.dup, 1) := by decide +kernel
theorem dX1_add_41 : decode cX1_add 41 = .ok (.getfield 30, 3) := by decide +kernel
theorem dX1_add_44 : decode cX1_add 44 = .ok (.iconst 1, 1) := by decide +kernel
theorem dX1_add_45 : decode cX1_add 45 = .ok (.iadd, 1) := by decide +kernel
theorem dX1_add_46 : decode cX1_add 46 = .ok (.putfield 30, 3) := by decide +kernel
theorem dX1_add_49 : decode cX1_add 49 = .ok (.return_, 1) := by decide +kernel
theorem dX1_save_0 : decode cX1_save 0 = .ok (.aload_n 0, 1) := by decide +kernel
theorem dX1_save_1 : decode cX1_save 1 = .ok (.iconst 1, 1) := by decide +kernel
theorem dX1_save_2 : decode cX1_save 2 = .ok (.putfield 38, 3) := by decide +kernel
theorem dX1_save_5 : decode cX1_save 5 = .ok (.aload_n 0, 1) := by decide +kernel
theorem dX1_save_6 : decode cX1_save 6 = .ok (.aload_n 0, 1) := by decide +kernel
theorem dX1_save_7 : decode cX1_save 7 = .ok (.getfield 30, 3) := by decide +kernel
theorem dX1_save_10 : decode cX1_save 10 = .ok (.putfield 42, 3) := by decide +kernel
theorem dX1_save_13 : decode cX1_save 13 = .ok (.aload_n 0, 1) := by decide +kernel
theorem dX1_save_14 : decode cX1_save 14 = .ok (.getfield 9, 3) := by decide +kernel
theorem dX1_save_17 : decode cX1_save 17 = .ok (.iconst 0, 1) := by decide +kernel
theorem dX1_save_18 : decode cX1_save 18 = .ok (.aload_n 0, 1) := by decide +kernel
theorem dX1_save_19 : decode cX1_save 19 = .ok (.getfield 21, 3) := by decide +kernel
theorem dX1_save_22 : decode cX1_save 22 = .ok (.iconst 0, 1) := by decide +kernel
theorem dX1_save_23 : decode cX1_save 23 = .ok (.bipush 50, 2) := by decide +kernel
theorem dX1_save_25 : decode cX1_save 25 = .ok (.invokestatic 45, 3) := by decide +kernel
theorem dX1_save_28 : decode cX1_save 28 = .ok (.aload_n 0, 1) := by decide +kernel
theorem dX1_save_29 : decode cX1_save 29 = .ok (.getfield 15, 3) := by decide +kernel
theorem dX1_save_32 : decode cX1_save 32 = .ok (.iconst 0, 1) := by decide +kernel
theorem dX1_save_33 : decode cX1_save 33 = .ok (.aload_n 0, 1) := by decide +kernel
theorem dX1_save_34 : decode cX1_save 34 = .ok (.getfield 24, 3) := by decide +kernel
theorem dX1_save_37 : decode cX1_save 37 = .ok (.iconst 0, 1) := by decide +kernel
theorem dX1_save_38 : decode cX1_save 38 = .ok (.bipush 50, 2) := by decide +kernel
theorem dX1_save_40 : decode cX1_save 40 = .ok (.invokestatic 45, 3) := by decide +kernel
theorem dX1_save_43 : decode cX1_save 43 = .ok (.aload_n 0, 1) := by decide +kernel
theorem dX1_save_44 : decode cX1_save 44 = .ok (.getfield 18, 3) := by decide +kernel
theorem dX1_save_47 : decode cX1_save 47 = .ok (.iconst 0, 1) := by decide +kernel
theorem dX1_save_48 : decode cX1_save 48 = .ok (.aload_n 0, 1) := by decide +kernel
theorem dX1_save_49 : decode cX1_save 49 = .ok (.getfield 27, 3) := by decide +kernel
theorem dX1_save_52 : decode cX1_save 52 = .ok (.iconst 0, 1) := by decide +kernel
theorem dX1_save_53 : decode cX1_save 53 = .ok (.bipush 50, 2) := by decide +kernel
theorem dX1_save_55 : decode cX1_save 55 = .ok (.invokestatic 45, 3) := by decide +kernel
theorem dX1_save_58 : decode cX1_save 58 = .ok (.return_, 1) := by decide +kernel
theorem dX1_restore_0 : decode cX1_restore 0 = .ok (.aload_n 0, 1) := by decide +kernel
theorem dX1_restore_1 : decode cX1_restore 1 = .ok (.aload_n 0, 1) := by decide +kernel
theorem dX1_restore_2 : decode cX1_restore 2 = .ok (.getfield 42, 3) := by decide +kernel
theorem dX1_restore_5 : decode cX1_restore 5 = .ok (.putfield 30, 3) := by decide +kernel
theorem dX1_restore_8 : decode cX1_restore 8 = .ok (.aload_n 0, 1) := by decide +kernel
theorem dX1_restore_9 : decode cX1_restore 9 = .ok (.getfield 21, 3) := by decide +kernel
theorem dX1_restore_12 : decode cX1_restore 12 = .ok (.iconst 0, 1) := by decide +kernel
theorem dX1_restore_13 : decode cX1_restore 13 = .ok (.aload_n 0, 1) := by decide +kernel
theorem dX1_restore_14 : decode cX1_restore 14 = .ok (.getfield 9, 3) := by decide +kernel
theorem dX1_restore_17 : decode cX1_restore 17 = .ok (.iconst 0, 1) := by decide +kernel
theorem dX1_restore_18 : decode cX1_restore 18 = .ok (.bipush 50, 2) := by decide +kernel
theorem dX1_restore_20 : decode cX1_restore 20 = .ok (.invokestatic 45, 3) := by decide +kernel
theorem dX1_restore_23 : decode cX1_restore 23 = .ok (.aload_n 0, 1) := by decide +kernel
theorem dX1_restore_24 : decode cX1_restore 24 = .ok (.getfield 24, 3) := by decide +kernel
theorem dX1_restore_27 : decode cX1_restore 27 = .ok (.iconst 0, 1) := by decide +kernel
theorem dX1_restore_28 : decode cX1_restore 28 = .ok (.aload_n 0, 1) := by decide +kernel
theorem dX1_restore_29 : decode cX1_restore 29 = .ok (.getfield 15, 3) := by decide +kernel
theorem dX1_restore_32 : decode cX1_restore 32 = .ok (.iconst 0, 1) := by decide +kernel
theorem dX1_restore_33 : decode cX1_restore 33 = .ok (.bipush 50, 2) := by decide +kernel
theorem dX1_restore_35 : decode cX1_restore 35 = .ok (.invokestatic 45, 3) := by decide +kernel
theorem dX1_restore_38 : decode cX1_restore 38 = .ok (.aload_n 0, 1) := by decide +kernel
theorem dX1_restore_39 : decode cX1_restore 39 = .ok (.getfield 27, 3) := by decide +kernel
theorem dX1_restore_42 : decode cX1_restore 42 = .ok (.iconst 0, 1) := by decide +kernel
theorem dX1_restore_43 : decode cX1_restore 43 = .ok (.aload_n 0, 1) := by decide +kernel
theorem dX1_restore_44 : decode cX1_restore 44 = .ok (.getfield 18, 3) := by decide +kernel
theorem dX1_restore_47 : decode cX1_restore 47 = .ok (.iconst 0, 1) := by decide +kernel
theorem dX1_restore_48 : decode cX1_restore 48 = .ok (.bipush 50, 2) := by decide +kernel
theorem dX1_restore_50 : decode cX1_restore 50 = .ok (.invokestatic 45, 3) := by decide +kernel
theorem dX1_restore_53 : decode cX1_restore 53 = .ok (.return_, 1) := by decide +kernel
theorem dX2_init_0 : decode cX2_init 0 = .ok (.aload_n 0, 1) := by decide +kernel
theorem dX2_init_1 : decode cX2_init 1 = .ok (.invokespecial 3, 3) := by decide +kernel
theorem dX2_init_4 : decode cX2_init 4 = .ok (.aload_n 0, 1) := by decide +kernel
theorem dX2_init_5 : decode cX2_init 5 = .ok (.bipush 10, 2) := by decide +kernel
theorem dX2_init_7 : decode cX2_init 7 = .ok (.newarray .int, 2) := by decide +kernel
theorem dX2_init_9 : decode cX2_init 9 = .ok (.putfield 9, 3) := by decide +kernel
theorem dX2_init_12 : decode cX2_init 12 = .ok (.aload_n 0, 1) := by decide +kernel
theorem dX2_init_13 : decode cX2_init 13 = .ok (.bipush 10, 2) := by decide +kernel
theorem dX2_init_15 : decode cX2_init 15 = .ok (.newarray .int, 2) := by decide +kernel
theorem dX2_init_17 : decode cX2_init 17 = .ok (.putfield 15, 3) := by decide +kernel
theorem dX2_init_20 : decode cX2_init 20 = .ok (.aload_n 0, 1) := by decide +kernel
theorem dX2_init_21 : decode cX2_init 21 = .ok (.bipush 10, 2) := by decide +kernel
theorem dX2_init_23 : decode cX2_init 23 = .ok (.newarray .int, 2) := by decide +kernel
theorem dX2_init_25 : decode cX2_init 25 = .ok (.putfield 18, 3) := by decide +kernel
theorem dX2_init_28 : decode cX2_init 28 = .ok (.return_, 1) := by decide +kernel
theorem dX2_hasRoomFor_0 : decode cX2_hasRoomFor 0 = .ok (.aload_n 0, 1) := by decide +kernel
theorem dX2_hasRoomFor_1 : decode cX2_hasRoomFor 1 = .ok (.getfield 21, 3) := by decide +kernel
theorem dX2_hasRoomFor_4 : decode cX2_hasRoomFor 4 = .ok (.bipush 10, 2) := by decide +kernel
theorem dX2_hasRoomFor_6 : decode cX2_hasRoomFor 6 = .ok (.if_icmp .ge 20, 3) := by decide +kernel
theorem dX2_hasRoomFor_9 : decode cX2_hasRoomFor 9 = .ok (.iload_n 1, 1) := by decide +kernel
theorem dX2_hasRoomFor_10 : decode cX2_hasRoomFor 10 = .ok (.iconst 2, 1) := by decide +kernel
theorem dX2_hasRoomFor_11 : decode cX2_hasRoomFor 11 = .ok (.if_icmp .le 11, 3) := by decide +kernel
theorem dX2_hasRoomFor_14 : decode cX2_hasRoomFor 14 = .ok (.aload_n 0, 1) := by decide +kernel
theorem dX2_hasRoomFor_15 : decode cX2_hasRoomFor 15 = .ok (.getfield 25, 3) := by decide +kernel
theorem dX2_hasRoomFor_18 : decode cX2_hasRoomFor 18 = .ok (.iconst 2, 1) := by decide +kernel
theorem dX2_hasRoomFor_19 : decode cX2_hasRoomFor 19 = .ok (.if_icmp .lt 7, 3) := by decide +kernel
theorem dX2_hasRoomFor_22 : decode cX2_hasRoomFor 22 = .ok (.iconst 1, 1) := by decide +kernel
theorem dX2_hasRoomFor_23 : decode cX2_hasRoomFor 23 = .ok (.goto 4, 3) := by decide +kernel
theorem dX2_hasRoomFor_26 : decode cX2_hasRoomFor 26 = .ok (.iconst 0, 1) := by decide +kernel
theorem dX2_hasRoomFor_27 : decode cX2_hasRoomFor 27 = .ok (.ireturn, 1) := by decide +kernel
theorem dX2_put_0 : decode cX2_put 0 = .ok (.aload_n 0, 1) := by decide +kernel
theorem dX2_put_1 : decode cX2_put 1 = .ok (.getfield 21, 3) := by decide +kernel
theorem dX2_put_4 : decode cX2_put 4 = .ok (.bipush 10, 2) := by decide +kernel
theorem dX2_put_6 : decode cX2_put 6 = .ok (.if_icmp .ge 62, 3) := by decide +kernel
theorem dX2_put_9 : decode cX2_put 9 = .ok (.aload_n 0, 1) := by decide +kernel
theorem dX2_put_10 : decode cX2_put 10 = .ok (.getfield 9, 3) := by decide +kernel
theorem dX2_put_13 : decode cX2_put 13 = .ok (.aload_n 0, 1) := by decide +kernel
theorem dX2_put_14 : decode cX2_put 14 = .ok (.getfield 21, 3) := by decide +kernel
theorem dX2_put_17 : decode cX2_put 17 = .ok (.iload_n 1, 1) := by decide +kernel
theorem dX2_put_18 : decode cX2_put 18 = .ok (.iastore, 1) := by decide +kernel
theorem dX2_put_19 : decode cX2_put 19 = .ok (.aload_n 0, 1) := by decide +kernel
theorem dX2_put_20 : decode cX2_put 20 = .ok (.getfield 15, 3) := by decide +kernel
theorem dX2_put_23 : decode cX2_put 23 = .ok (.aload_n 0, 1) := by decide +kernel
theorem dX2_put_24 : decode cX2_put 24 = .ok (.getfield 21, 3) := by decide +kernel
theorem dX2_put_27 : decode cX2_put 27 = .ok (.iload_n 2, 1) := by decide +kernel
theorem dX2_put_28 : decode cX2_put 28 = .ok (.iastore, 1) := by decide +kernel
theorem dX2_put_29 : decode cX2_put 29 = .ok (.aload_n 0, 1) := by decide +kernel
theorem dX2_put_30 : decode cX2_put 30 = .ok (.getfield 18, 3) := by decide +kernel
theorem dX2_put_33 : decode cX2_put 33 = .ok (.aload_n 0, 1) := by decide +kernel
theorem dX2_put_34 : decode cX2_put 34 = .ok (.getfield 21, 3) := by decide +kernel
theorem dX2_put_37 : decode cX2_put 37 = .ok (.iload_n 3, 1) := by decide +kernel
theorem dX2_put_38 : decode cX2_put 38 = .ok (.iastore, 1) := by decide +kernel
theorem dX2_put_39 : decode cX2_put 39 = .ok (.aload_n 0, 1) := by decide +kernel
theorem dX2_put_40 : decode cX2_put 40 = .ok (.dup, 1) := by decide +kernel
theorem dX2_put_41 : decode cX2_put 41 = .ok (.getfield 21, 3) := by decide +kernel
theorem dX2_put_44 : decode cX2_put 44 = .ok (.iconst 1, 1) := by decide +kernel
theorem dX2_put_45 : decode cX2_put 45 = .ok (.iadd, 1) := by decide +kernel
theorem dX2_put_46 : decode cX2_put 46 = .ok (.putfield 21, 3) := by decide +kernel
theorem dX2_put_49 : decode cX2_put 49 = .ok (.aload_n 0, 1) := by decide +kernel
theorem dX2_put_50 : decode cX2_put 50 = .ok (.dup, 1) := by decide +kernel
theorem dX2_put_51 : decode cX2_put 51 = .ok (.getfield 25, 3) := by decide +kernel
theorem dX2_put_54 : decode cX2_put 54 = .ok (.iload_n 1, 1) := by decide +kernel
theorem dX2_put_55 : decode cX2_put 55 = .ok (.iconst 2, 1) := by decide +kernel
theorem dX2_put_56 : decode cX2_put 56 = .ok (.if_icmp .gt 7, 3) := by decide +kernel
theorem dX2_put_59 : decode cX2_put 59 = .ok (.iconst 1, 1) := by decide +kernel
theorem dX2_put_60 : decode cX2_put 60 = .ok (.goto 4, 3) := by decide +kernel
theorem dX2_put_63 : decode cX2_put 63 = .ok (.iconst (-1), 1) := by decide +kernel
theorem dX2_put_64 : decode cX2_put 64 = .ok (.iadd, 1) := by decide +kernel
theorem dX2_put_65 : decode cX2_put 65 = .ok (.putfield 25, 3) := by decide +kernel
theorem dX2_put_68 : decode cX2_put 68 = .ok (.return_, 1) := by decide +kernel
theorem dX2_looksBeyond_0 : decode cX2_looksBeyond 0 = .ok (.iconst 0, 1) := by decide +kernel
theorem dX2_looksBeyond_1 : decode cX2_looksBeyond 1 = .ok (.istore_n 2, 1) := by decide +kernel
theorem dX2_looksBeyond_2 : decode cX2_looksBeyond 2 = .ok (.iload_n 2, 1) := by decide +kernel
theorem dX2_looksBeyond_3 : decode cX2_looksBeyond 3 = .ok (.aload_n 0, 1) := by decide +kernel
theorem dX2_looksBeyond_4 : decode cX2_looksBeyond 4 = .ok (.getfield 21, 3) := by decide +kernel
theorem dX2_looksBeyond_7 : decode cX2_looksBeyond 7 = .ok (.if_icmp .ge 41, 3) := by decide +kernel
theorem dX2_looksBeyond_10 : decode cX2_looksBeyond 10 = .ok (.aload_n 0, 1) := by decide +kernel
theorem dX2_looksBeyond_11 : decode cX2_looksBeyond 11 = .ok (.getfield 9, 3) := by decide +kernel
theorem dX2_looksBeyond_14 : decode cX2_looksBeyond 14 = .ok (.iload_n 2, 1) := by decide +kernel
theorem dX2_looksBeyond_15 : decode cX2_looksBeyond 15 = .ok (.iaload, 1) := by decide +kernel
theorem dX2_looksBeyond_16 : decode cX2_looksBeyond 16 = .ok (.iconst 1, 1) := by decide +kernel
theorem dX2_looksBeyond_17 : decode cX2_looksBeyond 17 = .ok (.if_icmp .eq 13, 3) := by decide +kernel
theorem dX2_looksBeyond_20 : decode cX2_looksBeyond 20 = .ok (.aload_n 0, 1) := by decide +kernel
theorem dX2_looksBeyond_21 : decode cX2_looksBeyond 21 = .ok (.getfield 9, 3) := by decide +kernel
theorem dX2_looksBeyond_24 : decode cX2_looksBeyond 24 = .ok (.iload_n 2, 1) := by decide +kernel
theorem dX2_looksBeyond_25 : decode cX2_looksBeyond 25 = .ok (.iaload, 1) := by decide +kernel
theorem dX2_looksBeyond_26 : decode cX2_looksBeyond 26 = .ok (.iconst 2, 1) := by decide +kernel
theorem dX2_looksBeyond_27 : decode cX2_looksBeyond 27 = .ok (.if_icmp .ne 15, 3) := by decide +kernel
theorem dX2_looksBeyond_30 : decode cX2_looksBeyond 30 = .ok (.aload_n 0, 1) := by decide +kernel
theorem dX2_looksBeyond_31 : decode cX2_looksBeyond 31 = .ok (.getfield 15, 3) := by decide +kernel
theorem dX2_looksBeyond_34 : decode cX2_looksBeyond 34 = .ok (.iload_n 2, 1) := by decide +kernel
theorem dX2_looksBeyond_35 : decode cX2_looksBeyond 35 = .ok (.iaload, 1) := by decide +kernel
theorem dX2_looksBeyond_36 : decode cX2_looksBeyond 36 = .ok (.iload_n 1, 1) := by decide +kernel
theorem dX2_looksBeyond_37 : decode cX2_looksBeyond 37 = .ok (.if_icmp .lt 5, 3) := by decide +kernel
theorem dX2_looksBeyond_40 : decode cX2_looksBeyond 40 = .ok (.iconst 1, 1) := by decide +kernel
theorem dX2_looksBeyond_41 : decode cX2_looksBeyond 41 = .ok (.ireturn, 1) := by decide +kernel
theorem dX2_looksBeyond_42 : decode cX2_looksBeyond 42 = .ok (.iinc 2 1, 3) := by decide +kernel
theorem dX2_looksBeyond_45 : decode cX2_looksBeyond 45 = .ok (.goto (-43), 3) := by decide +kernel
theorem dX2_looksBeyond_48 : decode cX2_looksBeyond 48 = .ok (.iconst 0, 1) := by decide +kernel
theorem dX2_looksBeyond_49 : decode cX2_looksBeyond 49 = .ok (.ireturn, 1) := by decide +kernel
theorem dX3_init_0 : decode cX3_init 0 = .ok (.aload_n 0, 1) := by decide +kernel
theorem dX3_init_1 : decode cX3_init 1 = .ok (.invokespecial 3, 3) := by decide +kernel
theorem dX3_init_4 : decode cX3_init 4 = .ok (.aload_n 0, 1) := by decide +kernel
theorem dX3_init_5 : decode cX3_init 5 = .ok (.bipush 20, 2) := by decide +kernel
theorem dX3_init_7 : decode cX3_init 7 = .ok (.newarray .int, 2) := by decide +kernel
theorem dX3_init_9 : decode cX3_init 9 = .ok (.putfield 9, 3) := by decide +kernel
theorem dX3_init_12 : decode cX3_init 12 = .ok (.aload_n 0, 1) := by decide +kernel
theorem dX3_init_13 : decode cX3_init 13 = .ok (.bipush 20, 2) := by decide +kernel
theorem dX3_init_15 : decode cX3_init 15 = .ok (.newarray .int, 2) := by decide +kernel
theorem dX3_init_17 : decode cX3_init 17 = .ok (.putfield 15, 3) := by decide +kernel
theorem dX3_init_20 : decode cX3_init 20 = .ok (.aload_n 0, 1) := by decide +kernel
theorem dX3_init_21 : decode cX3_init 21 = .ok (.bipush 20, 2) := by decide +kernel
theorem dX3_init_23 : decode cX3_init 23 = .ok (.newarray .long, 2) := by decide +kernel
theorem dX3_init_25 : decode cX3_init 25 = .ok (.putfield 18, 3) := by decide +kernel
theorem dX3_init_28 : decode cX3_init 28 = .ok (.return_, 1) := by decide +kernel
theorem dX3_has_0 : decode cX3_has 0 = .ok (.iload_n 1, 1) := by decide +kernel
theorem dX3_has_1 : decode cX3_has 1 = .ok (.ifCond .lt 21, 3) := by decide +kernel
theorem dX3_has_4 : decode cX3_has 4 = .ok (.iload_n 1, 1) := by decide +kernel
theorem dX3_has_5 : decode cX3_has 5 = .ok (.aload_n 0, 1) := by decide +kernel
theorem dX3_has_6 : decode cX3_has 6 = .ok (.getfield 22, 3) := by decide +kernel
theorem dX3_has_9 : decode cX3_has 9 = .ok (.if_icmp .ge 13, 3) := by decide +kernel
theorem dX3_has_12 : decode cX3_has 12 = .ok (.iload_n 1, 1) := by decide +kernel
theorem dX3_has_13 : decode cX3_has 13 = .ok (.bipush 20, 2) := by decide +kernel
theorem dX3_has_15 : decode cX3_has 15 = .ok (.if_icmp .ge 7, 3) := by decide +kernel
theorem dX3_has_18 : decode cX3_has 18 = .ok (.iconst 1, 1) := by decide +kernel
theorem dX3_has_19 : decode cX3_has 19 = .ok (.goto 4, 3) := by decide +kernel
theorem dX3_has_22 : decode cX3_has 22 = .ok (.iconst 0, 1) := by decide +kernel
theorem dX3_has_23 : decode cX3_has 23 = .ok (.ireturn, 1) := by decide +kernel
theorem dX3_find_0 : decode cX3_find 0 = .ok (.iconst 0, 1) := by decide +kernel
theorem dX3_find_1 : decode cX3_find 1 = .ok (.istore_n 3, 1) := by decide +kernel
theorem dX3_find_2 : decode cX3_find 2 = .ok (.iload_n 3, 1) := by decide +kernel
theorem dX3_find_3 : decode cX3_find 3 = .ok (.aload_n 0, 1) := by decide +kernel
theorem dX3_find_4 : decode cX3_find 4 = .ok (.getfield 22, 3) := by decide +kernel
theorem dX3_find_7 : decode cX3_find 7 = .ok (.if_icmp .ge 31, 3) := by decide +kernel
theorem dX3_find_10 : decode cX3_find 10 = .ok (.aload_n 0, 1) := by decide +kernel
theorem dX3_find_11 : decode cX3_find 11 = .ok (.getfield 9, 3) := by decide +kernel
theorem dX3_find_14 : decode cX3_find 14 = .ok (.iload_n 3, 1) := by decide +kernel
theorem dX3_find_15 : decode cX3_find 15 = .ok (.iaload, 1) := by decide +kernel
theorem dX3_find_16 : decode cX3_find 16 = .ok (.iload_n 1, 1) := by decide +kernel
theorem dX3_find_17 : decode cX3_find 17 = .ok (.if_icmp .ne 15, 3) := by decide +kernel
theorem dX3_find_20 : decode cX3_find 20 = .ok (.aload_n 0, 1) := by decide +kernel
theorem dX3_find_21 : decode cX3_find 21 = .ok (.getfield 15, 3) := by decide +kernel
theorem dX3_find_24 : decode cX3_find 24 = .ok (.iload_n 3, 1) := by decide +kernel
theorem dX3_find_25 : decode cX3_find 25 = .ok (.iaload, 1) := by decide +kernel
theorem dX3_find_26 : decode cX3_find 26 = .ok (.iload_n 2, 1) := by decide +kernel
theorem dX3_find_27 : decode cX3_find 27 = .ok (.if_icmp .ne 5, 3) := by decide +kernel
theorem dX3_find_30 : decode cX3_find 30 = .ok (.iload_n 3, 1) := by decide +kernel
theorem dX3_find_31 : decode cX3_find 31 = .ok (.ireturn, 1) := by decide +kernel
theorem dX3_find_32 : decode cX3_find 32 = .ok (.iinc 3 1, 3) := by decide +kernel
theorem dX3_find_35 : decode cX3_find 35 = .ok (.goto (-33), 3) := by decide +kernel
theorem dX3_find_38 : decode cX3_find 38 = .ok (.iconst (-1), 1) := by decide +kernel
theorem dX3_find_39 : decode cX3_find 39 = .ok (.ireturn, 1) := by decide +kernel
theorem dX3_cellAt_0 : decode cX3_cellAt 0 = .ok (.aload_n 0, 1) := by decide +kernel
theorem dX3_cellAt_1 : decode cX3_cellAt 1 = .ok (.iload_n 1, 1) := by decide +kernel
theorem dX3_cellAt_2 : decode cX3_cellAt 2 = .ok (.invokevirtual 26, 3) := by decide +kernel
theorem dX3_cellAt_5 : decode cX3_cellAt 5 = .ok (.ifCond .eq 12, 3) := by decide +kernel
theorem dX3_cellAt_8 : decode cX3_cellAt 8 = .ok (.aload_n 0, 1) := by decide +kernel
theorem dX3_cellAt_9 : decode cX3_cellAt 9 = .ok (.getfield 9, 3) := by decide +kernel
theorem dX3_cellAt_12 : decode cX3_cellAt 12 = .ok (.iload_n 1, 1) := by decide +kernel
theorem dX3_cellAt_13 : decode cX3_cellAt 13 = .ok (.iaload, 1) := by decide +kernel
theorem dX3_cellAt_14 : decode cX3_cellAt 14 = .ok (.goto 4, 3) := by decide +kernel
theorem dX3_cellAt_17 : decode cX3_cellAt 17 = .ok (.iconst 0, 1) := by decide +kernel
theorem dX3_cellAt_18 : decode cX3_cellAt 18 = .ok (.ireturn, 1) := by decide +kernel
theorem dX3_measureAt_0 : decode cX3_measureAt 0 = .ok (.aload_n 0, 1) := by decide +kernel
theorem dX3_measureAt_1 : decode cX3_measureAt 1 = .ok (.iload_n 1, 1) := by decide +kernel
theorem dX3_measureAt_2 : decode cX3_measureAt 2 = .ok (.invokevirtual 26, 3) := by decide +kernel
theorem dX3_measureAt_5 : decode cX3_measureAt 5 = .ok (.ifCond .eq 12, 3) := by decide +kernel
theorem dX3_measureAt_8 : decode cX3_measureAt 8 = .ok (.aload_n 0, 1) := by decide +kernel
theorem dX3_measureAt_9 : decode cX3_measureAt 9 = .ok (.getfield 15, 3) := by decide +kernel
theorem dX3_measureAt_12 : decode cX3_measureAt 12 = .ok (.iload_n 1, 1) := by decide +kernel
theorem dX3_measureAt_13 : decode cX3_measureAt 13 = .ok (.iaload, 1) := by decide +kernel
theorem dX3_measureAt_14 : decode cX3_measureAt 14 = .ok (.goto 4, 3) := by decide +kernel
theorem dX3_measureAt_17 : decode cX3_measureAt 17 = .ok (.iconst (-1), 1) := by decide +kernel
theorem dX3_measureAt_18 : decode cX3_measureAt 18 = .ok (.ireturn, 1) := by decide +kernel
theorem dX3_valueAt_0 : decode cX3_valueAt 0 = .ok (.aload_n 0, 1) := by decide +kernel
theorem dX3_valueAt_1 : decode cX3_valueAt 1 = .ok (.iload_n 1, 1) := by decide +kernel
theorem dX3_valueAt_2 : decode cX3_valueAt 2 = .ok (.invokevirtual 26, 3) := by decide +kernel
theorem dX3_valueAt_5 : decode cX3_valueAt 5 = .ok (.ifCond .eq 12, 3) := by decide +kernel
theorem dX3_valueAt_8 : decode cX3_valueAt 8 = .ok (.aload_n 0, 1) := by decide +kernel
theorem dX3_valueAt_9 : decode cX3_valueAt 9 = .ok (.getfield 18, 3) := by decide +kernel
theorem dX3_valueAt_12 : decode cX3_valueAt 12 = .ok (.iload_n 1, 1) := by decide +kernel
theorem dX3_valueAt_13 : decode cX3_valueAt 13 = .ok (.laload, 1) := by decide +kernel
theorem dX3_valueAt_14 : decode cX3_valueAt 14 = .ok (.goto 6, 3) := by decide +kernel
theorem dX3_valueAt_17 : decode cX3_valueAt 17 = .ok (.ldc2_w 30, 3) := by decide +kernel
theorem dX3_valueAt_20 : decode cX3_valueAt 20 = .ok (.lreturn, 1) := by decide +kernel
theorem dX3_shift_0 : decode cX3_shift 0 = .ok (.aload_n 0, 1) := by decide +kernel
theorem dX3_shift_1 : decode cX3_shift 1 = .ok (.iload_n 1, 1) := by decide +kernel
theorem dX3_shift_2 : decode cX3_shift 2 = .ok (.invokevirtual 26, 3) := by decide +kernel
theorem dX3_shift_5 : decode cX3_shift 5 = .ok (.ifCond .eq 47, 3) := by decide +kernel
theorem dX3_shift_8 : decode cX3_shift 8 = .ok (.aload_n 0, 1) := by decide +kernel
theorem dX3_shift_9 : decode cX3_shift 9 = .ok (.iload_n 2, 1) := by decide +kernel
theorem dX3_shift_10 : decode cX3_shift 10 = .ok (.invokevirtual 26, 3) := by decide +kernel
theorem dX3_shift_13 : decode cX3_shift 13 = .ok (.ifCond .eq 39, 3) := by decide +kernel
theorem dX3_shift_16 : decode cX3_shift 16 = .ok (.aload_n 0, 1) := by decide +kernel
theorem dX3_shift_17 : decode cX3_shift 17 = .ok (.getfield 9, 3) := by decide +kernel
theorem dX3_shift_20 : decode cX3_shift 20 = .ok (.iload_n 2, 1) := by decide +kernel
theorem dX3_shift_21 : decode cX3_shift 21 = .ok (.aload_n 0, 1) := by decide +kernel
theorem dX3_shift_22 : decode cX3_shift 22 = .ok (.getfield 9, 3) := by decide +kernel
theorem dX3_shift_25 : decode cX3_shift 25 = .ok (.iload_n 1, 1) := by decide +kernel
theorem dX3_shift_26 : decode cX3_shift 26 = .ok (.iaload, 1) := by decide +kernel
theorem dX3_shift_27 : decode cX3_shift 27 = .ok (.iastore, 1) := by decide +kernel
theorem dX3_shift_28 : decode cX3_shift 28 = .ok (.aload_n 0, 1) := by decide +kernel
theorem dX3_shift_29 : decode cX3_shift 29 = .ok (.getfield 15, 3) := by decide +kernel
theorem dX3_shift_32 : decode cX3_shift 32 = .ok (.iload_n 2, 1) := by decide +kernel
theorem dX3_shift_33 : decode cX3_shift 33 = .ok (.aload_n 0, 1) := by decide +kernel
theorem dX3_shift_34 : decode cX3_shift 34 = .ok (.getfield 15, 3) := by decide +kernel
theorem dX3_shift_37 : decode cX3_shift 37 = .ok (.iload_n 1, 1) := by decide +kernel
theorem dX3_shift_38 : decode cX3_shift 38 = .ok (.iaload, 1) := by decide +kernel
theorem dX3_shift_39 : decode cX3_shift 39 = .ok (.iastore, 1) := by decide +kernel
theorem dX3_shift_40 : decode cX3_shift 40 = .ok (.aload_n 0, 1) := by decide +kernel
theorem dX3_shift_41 : decode cX3_shift 41 = .ok (.getfield 18, 3) := by decide +kernel
theorem dX3_shift_44 : decode cX3_shift 44 = .ok (.iload_n 2, 1) := by decide +kernel
theorem dX3_shift_45 : decode cX3_shift 45 = .ok (.aload_n 0, 1) := by decide +kernel
theorem dX3_shift_46 : decode cX3_shift 46 = .ok (.getfield 18, 3) := by decide +kernel
theorem dX3_shift_49 : decode cX3_shift 49 = .ok (.iload_n 1, 1) := by decide +kernel
theorem dX3_shift_50 : decode cX3_shift 50 = .ok (.laload, 1) := by decide +kernel
theorem dX3_shift_51 : decode cX3_shift 51 = .ok (.lastore, 1) := by decide +kernel
theorem dX3_shift_52 : decode cX3_shift 52 = .ok (.return_, 1) := by decide +kernel
theorem dX3_keep_0 : decode cX3_keep 0 = .ok (.aload_n 0, 1) := by decide +kernel
theorem dX3_keep_1 : decode cX3_keep 1 = .ok (.getfield 22, 3) := by decide +kernel
theorem dX3_keep_4 : decode cX3_keep 4 = .ok (.bipush 20, 2) := by decide +kernel
theorem dX3_keep_6 : decode cX3_keep 6 = .ok (.if_icmp .lt 35, 3) := by decide +kernel
theorem dX3_keep_9 : decode cX3_keep 9 = .ok (.iconst 1, 1) := by decide +kernel
theorem dX3_keep_10 : decode cX3_keep 10 = .ok (.istore 5, 2) := by decide +kernel
theorem dX3_keep_12 : decode cX3_keep 12 = .ok (.iload 5, 2) := by decide +kernel
theorem dX3_keep_14 : decode cX3_keep 14 = .ok (.bipush 20, 2) := by decide +kernel
theorem dX3_keep_16 : decode cX3_keep 16 = .ok (.if_icmp .ge 19, 3) := by decide +kernel
theorem dX3_keep_19 : decode cX3_keep 19 = .ok (.aload_n 0, 1) := by decide +kernel
theorem dX3_keep_20 : decode cX3_keep 20 = .ok (.iload 5, 2) := by decide +kernel
theorem dX3_keep_22 : decode cX3_keep 22 = .ok (.iload 5, 2) := by decide +kernel
theorem dX3_keep_24 : decode cX3_keep 24 = .ok (.iconst 1, 1) := by decide +kernel
theorem dX3_keep_25 : decode cX3_keep 25 = .ok (.isub, 1) := by decide +kernel
theorem dX3_keep_26 : decode cX3_keep 26 = .ok (.invokevirtual 32, 3) := by decide +kernel
theorem dX3_keep_29 : decode cX3_keep 29 = .ok (.iinc 5 1, 3) := by decide +kernel
theorem dX3_keep_32 : decode cX3_keep 32 = .ok (.goto (-20), 3) := by decide +kernel
theorem dX3_keep_35 : decode cX3_keep 35 = .ok (.aload_n 0, 1) := by decide +kernel
theorem dX3_keep_36 : decode cX3_keep 36 = .ok (.bipush 19, 2) := by decide +kernel
theorem dX3_keep_38 : decode cX3_keep 38 = .ok (.putfield 22, 3) := by decide +kernel
theorem dX3_keep_41 : decode cX3_keep 41 = .ok (.aload_n 0, 1) := by decide +kernel
theorem dX3_keep_42 : decode cX3_keep 42 = .ok (.getfield 9, 3) := by decide +kernel
theorem dX3_keep_45 : decode cX3_keep 45 = .ok (.aload_n 0, 1) := by decide +kernel
theorem dX3_keep_46 : decode cX3_keep 46 = .ok (.getfield 22, 3) := by decide +kernel
theorem dX3_keep_49 : decode cX3_keep 49 = .ok (.iload_n 1, 1) := by decide +kernel
theorem dX3_keep_50 : decode cX3_keep 50 = .ok (.iastore, 1) := by decide +kernel
theorem dX3_keep_51 : decode cX3_keep 51 = .ok (.aload_n 0, 1) := by decide +kernel
theorem dX3_keep_52 : decode cX3_keep 52 = .ok (.getfield 15, 3) := by decide +kernel
theorem dX3_keep_55 : decode cX3_keep 55 = .ok (.aload_n 0, 1) := by decide +kernel
theorem dX3_keep_56 : decode cX3_keep 56 = .ok (.getfield 22, 3) := by decide +kernel
theorem dX3_keep_59 : decode cX3_keep 59 = .ok (.iload_n 2, 1) := by decide +kernel
theorem dX3_keep_60 : decode cX3_keep 60 = .ok (.iastore, 1) := by decide +kernel
theorem dX3_keep_61 : decode cX3_keep 61 = .ok (.aload_n 0, 1) := by decide +kernel
theorem dX3_keep_62 : decode cX3_keep 62 = .ok (.getfield 18, 3) := by decide +kernel
theorem dX3_keep_65 : decode cX3_keep 65 = .ok (.aload_n 0, 1) := by decide +kernel
theorem dX3_keep_66 : decode cX3_keep 66 = .ok (.getfield 22, 3) := by decide +kernel
theorem dX3_keep_69 : decode cX3_keep 69 = .ok (.lload_n 3, 1) := by decide +kernel
theorem dX3_keep_70 : decode cX3_keep 70 = .ok (.lastore, 1) := by decide +kernel
theorem dX3_keep_71 : decode cX3_keep 71 = .ok (.aload_n 0, 1) := by decide +kernel
theorem dX3_keep_72 : decode cX3_keep 72 = .ok (.dup, 1) := by decide +kernel
theorem dX3_keep_73 : decode cX3_keep 73 = .ok (.getfield 22, 3) := by decide +kernel
theorem dX3_keep_76 : decode cX3_keep 76 = .ok (.iconst 1, 1) := by decide +kernel
theorem dX3_keep_77 : decode cX3_keep 77 = .ok (.iadd, 1) := by decide +kernel
theorem dX3_keep_78 : decode cX3_keep 78 = .ok (.putfield 22, 3) := by decide +kernel
theorem dX3_keep_81 : decode cX3_keep 81 = .ok (.return_, 1) := by decide +kernel
theorem dX3_dropAll_0 : decode cX3_dropAll 0 = .ok (.aload_n 0, 1) := by decide +kernel
theorem dX3_dropAll_1 : decode cX3_dropAll 1 = .ok (.iconst 0, 1) := by decide +kernel
theorem dX3_dropAll_2 : decode cX3_dropAll 2 = .ok (.putfield 22, 3) := by decide +kernel
theorem dX3_dropAll_5 : decode cX3_dropAll 5 = .ok (.return_, 1) := by decide +kernel
theorem dX4_init_0 : decode cX4_init 0 = .ok (.aload_n 0, 1) := by decide +kernel
theorem dX4_init_1 : decode cX4_init 1 = .ok (.invokespecial 3, 3) := by decide +kernel
theorem dX4_init_4 : decode cX4_init 4 = .ok (.aload_n 0, 1) := by decide +kernel
theorem dX4_init_5 : decode cX4_init 5 = .ok (.iconst 4, 1) := by decide +kernel
theorem dX4_init_6 : decode cX4_init 6 = .ok (.newarray .int, 2) := by decide +kernel
theorem dX4_init_8 : decode cX4_init 8 = .ok (.putfield 9, 3) := by decide +kernel
theorem dX4_init_11 : decode cX4_init 11 = .ok (.aload_n 0, 1) := by decide +kernel
theorem dX4_init_12 : decode cX4_init 12 = .ok (.iconst 4, 1) := by decide +kernel
theorem dX4_init_13 : decode cX4_init 13 = .ok (.newarray .int, 2) := by decide +kernel
theorem dX4_init_15 : decode cX4_init 15 = .ok (.putfield 15, 3) := by decide +kernel
theorem dX4_init_18 : decode cX4_init 18 = .ok (.aload_n 0, 1) := by decide +kernel
theorem dX4_init_19 : decode cX4_init 19 = .ok (.iconst 4, 1) := by decide +kernel
theorem dX4_init_20 : decode cX4_init 20 = .ok (.newarray .int, 2) := by decide +kernel
theorem dX4_init_22 : decode cX4_init 22 = .ok (.putfield 18, 3) := by decide +kernel
theorem dX4_init_25 : decode cX4_init 25 = .ok (.aload_n 0, 1) := by decide +kernel
theorem dX4_init_26 : decode cX4_init 26 = .ok (.iconst 4, 1) := by decide +kernel
theorem dX4_init_27 : decode cX4_init 27 = .ok (.newarray .int, 2) := by decide +kernel
theorem dX4_init_29 : decode cX4_init 29 = .ok (.putfield 21, 3) := by decide +kernel
theorem dX4_init_32 : decode cX4_init 32 = .ok (.aload_n 0, 1) := by decide +kernel
theorem dX4_init_33 : decode cX4_init 33 = .ok (.bipush 12, 2) := by decide +kernel
theorem dX4_init_35 : decode cX4_init 35 = .ok (.newarray .int, 2) := by decide +kernel
theorem dX4_init_37 : decode cX4_init 37 = .ok (.putfield 24, 3) := by decide +kernel
theorem dX4_init_40 : decode cX4_init 40 = .ok (.return_, 1) := by decide +kernel
theorem dX4_has_0 : decode cX4_has 0 = .ok (.iload_n 1, 1) := by decide +kernel
theorem dX4_has_1 : decode cX4_has 1 = .ok (.ifCond .lt 20, 3) := by decide +kernel
theorem dX4_has_4 : decode cX4_has 4 = .ok (.iload_n 1, 1) := by decide +kernel
theorem dX4_has_5 : decode cX4_has 5 = .ok (.aload_n 0, 1) := by decide +kernel
theorem dX4_has_6 : decode cX4_has 6 = .ok (.getfield 27, 3) := by decide +kernel
theorem dX4_has_9 : decode cX4_has 9 = .ok (.if_icmp .ge 12, 3) := by decide +kernel
theorem dX4_has_12 : decode cX4_has 12 = .ok (.iload_n 1, 1) := by decide +kernel
theorem dX4_has_13 : decode cX4_has 13 = .ok (.iconst 4, 1) := by decide +kernel
theorem dX4_has_14 : decode cX4_has 14 = .ok (.if_icmp .ge 7, 3) := by decide +kernel
theorem dX4_has_17 : decode cX4_has 17 = .ok (.iconst 1, 1) := by decide +kernel
theorem dX4_has_18 : decode cX4_has 18 = .ok (.goto 4, 3) := by decide +kernel
theorem dX4_has_21 : decode cX4_has 21 = .ok (.iconst 0, 1) := by decide +kernel
theorem dX4_has_22 : decode cX4_has 22 = .ok (.ireturn, 1) := by decide +kernel
theorem dX4_kindOf_0 : decode cX4_kindOf 0 = .ok (.aload_n 0, 1) := by decide +kernel
theorem dX4_kindOf_1 : decode cX4_kindOf 1 = .ok (.iload_n 1, 1) := by decide +kernel
theorem dX4_kindOf_2 : decode cX4_kindOf 2 = .ok (.invokevirtual 31, 3) := by decide +kernel
theorem dX4_kindOf_5 : decode cX4_kindOf 5 = .ok (.ifCond .eq 12, 3) := by decide +kernel
theorem dX4_kindOf_8 : decode cX4_kindOf 8 = .ok (.aload_n 0, 1) := by decide +kernel
theorem dX4_kindOf_9 : decode cX4_kindOf 9 = .ok (.getfield 9, 3) := by decide +kernel
theorem dX4_kindOf_12 : decode cX4_kindOf 12 = .ok (.iload_n 1, 1) := by decide +kernel
theorem dX4_kindOf_13 : decode cX4_kindOf 13 = .ok (.iaload, 1) := by decide +kernel
theorem dX4_kindOf_14 : decode cX4_kindOf 14 = .ok (.goto 4, 3) := by decide +kernel
theorem dX4_kindOf_17 : decode cX4_kindOf 17 = .ok (.iconst (-1), 1) := by decide +kernel
theorem dX4_kindOf_18 : decode cX4_kindOf 18 = .ok (.ireturn, 1) := by decide +kernel
theorem dX4_add_0 : decode cX4_add 0 = .ok (.aload_n 0, 1) := by decide +kernel
theorem dX4_add_1 : decode cX4_add 1 = .ok (.getfield 27, 3) := by decide +kernel
theorem dX4_add_4 : decode cX4_add 4 = .ok (.iconst 4, 1) := by decide +kernel
theorem dX4_add_5 : decode cX4_add 5 = .ok (.if_icmp .lt 5, 3) := by decide +kernel
theorem dX4_add_8 : decode cX4_add 8 = .ok (.iconst (-1), 1) := by decide +kernel
theorem dX4_add_9 : decode cX4_add 9 = .ok (.ireturn, 1) := by decide +kernel
theorem dX4_add_10 : decode cX4_add 10 = .ok (.aload_n 0, 1) := by decide +kernel
theorem dX4_add_11 : decode cX4_add 11 = .ok (.getfield 9, 3) := by decide +kernel
theorem dX4_add_14 : decode cX4_add 14 = .ok (.aload_n 0, 1) := by decide +kernel
theorem dX4_add_15 : decode cX4_add 15 = .ok (.getfield 27, 3) := by decide +kernel
theorem dX4_add_18 : decode cX4_add 18 = .ok (.iload_n 1, 1) := by decide +kernel
theorem dX4_add_19 : decode cX4_add 19 = .ok (.iastore, 1) := by decide +kernel
theorem dX4_add_20 : decode cX4_add 20 = .ok (.aload_n 0, 1) := by decide +kernel
theorem dX4_add_21 : decode cX4_add 21 = .ok (.getfield 21, 3) := by decide +kernel
theorem dX4_add_24 : decode cX4_add 24 = .ok (.aload_n 0, 1) := by decide +kernel
theorem dX4_add_25 : decode cX4_add 25 = .ok (.getfield 27, 3) := by decide +kernel
theorem dX4_add_28 : decode cX4_add 28 = .ok (.iconst 1, 1) := by decide +kernel
theorem dX4_add_29 : decode cX4_add 29 = .ok (.aload_n 0, 1) := by decide +kernel
theorem dX4_add_30 : decode cX4_add 30 = .ok (.getfield 27, 3) := by decide +kernel
theorem dX4_add_33 : decode cX4_add 33 = .ok (.ishl, 1) := by decide +kernel
theorem dX4_add_34 : decode cX4_add 34 = .ok (.iastore, 1) := by decide +kernel
theorem dX4_add_35 : decode cX4_add 35 = .ok (.iload_n 1, 1) := by decide +kernel
theorem dX4_add_36 : decode cX4_add 36 = .ok (.iconst 3, 1) := by decide +kernel
theorem dX4_add_37 : decode cX4_add 37 = .ok (.if_icmp .ne 64, 3) := by decide +kernel
theorem dX4_add_40 : decode cX4_add 40 = .ok (.aload_n 0, 1) := by decide +kernel
theorem dX4_add_41 : decode cX4_add 41 = .ok (.iload_n 2, 1) := by decide +kernel
theorem dX4_add_42 : decode cX4_add 42 = .ok (.invokevirtual 31, 3) := by decide +kernel
theorem dX4_add_45 : decode cX4_add 45 = .ok (.ifCond .eq 56, 3) := by decide +kernel
theorem dX4_add_48 : decode cX4_add 48 = .ok (.aload_n 0, 1) := by decide +kernel
theorem dX4_add_49 : decode cX4_add 49 = .ok (.iload_n 3, 1) := by decide +kernel
theorem dX4_add_50 : decode cX4_add 50 = .ok (.invokevirtual 31, 3) := by decide +kernel
theorem dX4_add_53 : decode cX4_add 53 = .ok (.ifCond .eq 48, 3) := by decide +kernel
theorem dX4_add_56 : decode cX4_add 56 = .ok (.aload_n 0, 1) := by decide +kernel
theorem dX4_add_57 : decode cX4_add 57 = .ok (.getfield 15, 3) := by decide +kernel
theorem dX4_add_60 : decode cX4_add 60 = .ok (.aload_n 0, 1) := by decide +kernel
theorem dX4_add_61 : decode cX4_add 61 = .ok (.getfield 27, 3) := by decide +kernel
theorem dX4_add_64 : decode cX4_add 64 = .ok (.iload_n 2, 1) := by decide +kernel
theorem dX4_add_65 : decode cX4_add 65 = .ok (.iastore, 1) := by decide +kernel
theorem dX4_add_66 : decode cX4_add 66 = .ok (.aload_n 0, 1) := by decide +kernel
theorem dX4_add_67 : decode cX4_add 67 = .ok (.getfield 18, 3) := by decide +kernel
theorem dX4_add_70 : decode cX4_add 70 = .ok (.aload_n 0, 1) := by decide +kernel
theorem dX4_add_71 : decode cX4_add 71 = .ok (.getfield 27, 3) := by decide +kernel
theorem dX4_add_74 : decode cX4_add 74 = .ok (.iload_n 3, 1) := by decide +kernel
theorem dX4_add_75 : decode cX4_add 75 = .ok (.iastore, 1) := by decide +kernel
theorem dX4_add_76 : decode cX4_add 76 = .ok (.aload_n 0, 1) := by decide +kernel
theorem dX4_add_77 : decode cX4_add 77 = .ok (.getfield 21, 3) := by decide +kernel
theorem dX4_add_80 : decode cX4_add 80 = .ok (.aload_n 0, 1) := by decide +kernel
theorem dX4_add_81 : decode cX4_add 81 = .ok (.getfield 27, 3) := by decide +kernel
theorem dX4_add_84 : decode cX4_add 84 = .ok (.dup2, 1) := by decide +kernel
theorem dX4_add_85 : decode cX4_add 85 = .ok (.iaload, 1) := by decide +kernel
theorem dX4_add_86 : decode cX4_add 86 = .ok (.aload_n 0, 1) := by decide +kernel
theorem dX4_add_87 : decode cX4_add 87 = .ok (.getfield 21, 3) := by decide +kernel
theorem dX4_add_90 : decode cX4_add 90 = .ok (.iload_n 2, 1) := by decide +kernel
theorem dX4_add_91 : decode cX4_add 91 = .ok (.iaload, 1) := by decide +kernel
theorem dX4_add_92 : decode cX4_add 92 = .ok (.aload_n 0, 1) := by decide +kernel
theorem dX4_add_93 : decode cX4_add 93 = .ok (.getfield 21, 3) := by decide +kernel
theorem dX4_add_96 : decode cX4_add 96 = .ok (.iload_n 3, 1) := by decide +kernel
theorem dX4_add_97 : decode cX4_add 97 = .ok (.iaload, 1) := by decide +kernel
theorem dX4_add_98 : decode cX4_add 98 = .ok (.ior, 1) := by decide +kernel
theorem dX4_add_99 : decode cX4_add 99 = .ok (.ior, 1) := by decide +kernel
theorem dX4_add_100 : decode cX4_add 100 = .ok (.iastore, 1) := by decide +kernel
theorem dX4_add_101 : decode cX4_add 101 = .ok (.aload_n 0, 1) := by decide +kernel
theorem dX4_add_102 : decode cX4_add 102 = .ok (.dup, 1) := by decide +kernel
theorem dX4_add_103 : decode cX4_add 103 = .ok (.getfield 27, 3) := by decide +kernel
theorem dX4_add_106 : decode cX4_add 106 = .ok (.iconst 1, 1) := by decide +kernel
theorem dX4_add_107 : decode cX4_add 107 = .ok (.iadd, 1) := by decide +kernel
theorem dX4_add_108 : decode cX4_add 108 = .ok (.putfield 27, 3) := by decide +kernel
theorem dX4_add_111 : decode cX4_add 111 = .ok (.aload_n 0, 1) := by decide +kernel
theorem dX4_add_112 : decode cX4_add 112 = .ok (.getfield 27, 3) := by decide +kernel
theorem dX4_add_115 : decode cX4_add 115 = .ok (.iconst 1, 1) := by decide +kernel
theorem dX4_add_116 : decode cX4_add 116 = .ok (.isub, 1) := by decide +kernel
theorem dX4_add_117 : decode cX4_add 117 = .ok (.ireturn, 1) := by decide +kernel
theorem dX4_needs_0 : decode cX4_needs 0 = .ok (.aload_n 0, 1) := by decide +kernel
theorem dX4_needs_1 : decode cX4_needs 1 = .ok (.iload_n 1, 1) := by decide +kernel
theorem dX4_needs_2 : decode cX4_needs 2 = .ok (.invokevirtual 31, 3) := by decide +kernel
theorem dX4_needs_5 : decode cX4_needs 5 = .ok (.ifCond .eq 29, 3) := by decide +kernel
theorem dX4_needs_8 : decode cX4_needs 8 = .ok (.aload_n 0, 1) := by decide +kernel
theorem dX4_needs_9 : decode cX4_needs 9 = .ok (.iload_n 2, 1) := by decide +kernel
theorem dX4_needs_10 : decode cX4_needs 10 = .ok (.invokevirtual 31, 3) := by decide +kernel
theorem dX4_needs_13 : decode cX4_needs 13 = .ok (.ifCond .eq 21, 3) := by decide +kernel
theorem dX4_needs_16 : decode cX4_needs 16 = .ok (.aload_n 0, 1) := by decide +kernel
theorem dX4_needs_17 : decode cX4_needs 17 = .ok (.getfield 21, 3) := by decide +kernel
theorem dX4_needs_20 : decode cX4_needs 20 = .ok (.iload_n 1, 1) := by decide +kernel
theorem dX4_needs_21 : decode cX4_needs 21 = .ok (.iaload, 1) := by decide +kernel
theorem dX4_needs_22 : decode cX4_needs 22 = .ok (.iload_n 2, 1) := by decide +kernel
theorem dX4_needs_23 : decode cX4_needs 23 = .ok (.ishr, 1) := by decide +kernel
theorem dX4_needs_24 : decode cX4_needs 24 = .ok (.iconst 1, 1) := by decide +kernel
theorem dX4_needs_25 : decode cX4_needs 25 = .ok (.iand, 1) := by decide +kernel
theorem dX4_needs_26 : decode cX4_needs 26 = .ok (.iconst 1, 1) := by decide +kernel
theorem dX4_needs_27 : decode cX4_needs 27 = .ok (.if_icmp .ne 7, 3) := by decide +kernel
theorem dX4_needs_30 : decode cX4_needs 30 = .ok (.iconst 1, 1) := by decide +kernel
theorem dX4_needs_31 : decode cX4_needs 31 = .ok (.goto 4, 3) := by decide +kernel
theorem dX4_needs_34 : decode cX4_needs 34 = .ok (.iconst 0, 1) := by decide +kernel
theorem dX4_needs_35 : decode cX4_needs 35 = .ok (.ireturn, 1) := by decide +kernel
theorem dX4_leastDepth_0 : decode cX4_leastDepth 0 = .ok (.aload_n 0, 1) := by decide +kernel
theorem dX4_leastDepth_1 : decode cX4_leastDepth 1 = .ok (.iload_n 1, 1) := by decide +kernel
theorem dX4_leastDepth_2 : decode cX4_leastDepth 2 = .ok (.invokevirtual 31, 3) := by decide +kernel
theorem dX4_leastDepth_5 : decode cX4_leastDepth 5 = .ok (.ifCond .eq 16, 3) := by decide +kernel
theorem dX4_leastDepth_8 : decode cX4_leastDepth 8 = .ok (.iload_n 2, 1) := by decide +kernel
theorem dX4_leastDepth_9 : decode cX4_leastDepth 9 = .ok (.ifCond .lt 12, 3) := by decide +kernel
theorem dX4_leastDepth_12 : decode cX4_leastDepth 12 = .ok (.iload_n 2, 1) := by decide +kernel
theorem dX4_leastDepth_13 : decode cX4_leastDepth 13 = .ok (.iconst 3, 1) := by decide +kernel
theorem dX4_leastDepth_14 : decode cX4_leastDepth 14 = .ok (.if_icmp .ge 7, 3) := by decide +kernel
theorem dX4_leastDepth_17 : decode cX4_leastDepth 17 = .ok (.iconst 1, 1) := by decide +kernel
theorem dX4_leastDepth_18 : decode cX4_leastDepth 18 = .ok (.goto 4, 3) := by decide +kernel
theorem dX4_leastDepth_21 : decode cX4_leastDepth 21 = .ok (.iconst 0, 1) := by decide +kernel
theorem dX4_leastDepth_22 : decode cX4_leastDepth 22 = .ok (.istore_n 3, 1) := by decide +kernel
theorem dX4_leastDepth_23 : decode cX4_leastDepth 23 = .ok (.iload_n 3, 1) := by decide +kernel
theorem dX4_leastDepth_24 : decode cX4_leastDepth 24 = .ok (.ifCond .eq 16, 3) := by decide +kernel
theorem dX4_leastDepth_27 : decode cX4_leastDepth 27 = .ok (.aload_n 0, 1) := by decide +kernel
theorem dX4_leastDepth_28 : decode cX4_leastDepth 28 = .ok (.getfield 24, 3) := by decide +kernel
theorem dX4_leastDepth_31 : decode cX4_leastDepth 31 = .ok (.iload_n 1, 1) := by decide +kernel
theorem dX4_leastDepth_32 : decode cX4_leastDepth 32 = .ok (.iconst 3, 1) := by decide +kernel
theorem dX4_leastDepth_33 : decode cX4_leastDepth 33 = .ok (.imul, 1) := by decide +kernel
theorem dX4_leastDepth_34 : decode cX4_leastDepth 34 = .ok (.iload_n 2, 1) := by decide +kernel
theorem dX4_leastDepth_35 : decode cX4_leastDepth 35 = .ok (.iadd, 1) := by decide +kernel
theorem dX4_leastDepth_36 : decode cX4_leastDepth 36 = .ok (.iaload, 1) := by decide +kernel
theorem dX4_leastDepth_37 : decode cX4_leastDepth 37 = .ok (.goto 4, 3) := by decide +kernel
theorem dX4_leastDepth_40 : decode cX4_leastDepth 40 = .ok (.iconst 0, 1) := by decide +kernel
theorem dX4_leastDepth_41 : decode cX4_leastDepth 41 = .ok (.ireturn, 1) := by decide +kernel
theorem dX4_setLeastDepth_0 : decode cX4_setLeastDepth 0 = .ok (.aload_n 0, 1) := by decide +kernel
theorem dX4_setLeastDepth_1 : decode cX4_setLeastDepth 1 = .ok (.iload_n 1, 1) := by decide +kernel
theorem dX4_setLeastDepth_2 : decode cX4_setLeastDepth 2 = .ok (.iload_n 2, 1) := by decide +kernel
theorem dX4_setLeastDepth_3 : decode cX4_setLeastDepth 3 = .ok (.invokevirtual 35, 3) := by decide +kernel
theorem dX4_setLeastDepth_6 : decode cX4_setLeastDepth 6 = .ok (.istore 4, 2) := by decide +kernel
theorem dX4_setLeastDepth_8 : decode cX4_setLeastDepth 8 = .ok (.aload_n 0, 1) := by decide +kernel
theorem dX4_setLeastDepth_9 : decode cX4_setLeastDepth 9 = .ok (.iload_n 1, 1) := by decide +kernel
theorem dX4_setLeastDepth_10 : decode cX4_setLeastDepth 10 = .ok (.invokevirtual 31, 3) := by decide +kernel
theorem dX4_setLeastDepth_13 : decode cX4_setLeastDepth 13 = .ok (.ifCond .eq 23, 3) := by decide +kernel
theorem dX4_setLeastDepth_16 : decode cX4_setLeastDepth 16 = .ok (.iload_n 2, 1) := by decide +kernel
theorem dX4_setLeastDepth_17 : decode cX4_setLeastDepth 17 = .ok (.ifCond .lt 19, 3) := by decide +kernel
theorem dX4_setLeastDepth_20 : decode cX4_setLeastDepth 20 = .ok (.iload_n 2, 1) := by decide +kernel
theorem dX4_setLeastDepth_21 : decode cX4_setLeastDepth 21 = .ok (.iconst 3, 1) := by decide +kernel
theorem dX4_setLeastDepth_22 : decode cX4_setLeastDepth 22 = .ok (.if_icmp .ge 14, 3) := by decide +kernel
theorem dX4_setLeastDepth_25 : decode cX4_setLeastDepth 25 = .ok (.aload_n 0, 1) := by decide +kernel
theorem dX4_setLeastDepth_26 : decode cX4_setLeastDepth 26 = .ok (.getfield 24, 3) := by decide +kernel
theorem dX4_setLeastDepth_29 : decode cX4_setLeastDepth 29 = .ok (.iload_n 1, 1) := by decide +kernel
theorem dX4_setLeastDepth_30 : decode cX4_setLeastDepth 30 = .ok (.iconst 3, 1) := by decide +kernel
theorem dX4_setLeastDepth_31 : decode cX4_setLeastDepth 31 = .ok (.imul, 1) := by decide +kernel
theorem dX4_setLeastDepth_32 : decode cX4_setLeastDepth 32 = .ok (.iload_n 2, 1) := by decide +kernel
theorem dX4_setLeastDepth_33 : decode cX4_setLeastDepth 33 = .ok (.iadd, 1) := by decide +kernel
theorem dX4_setLeastDepth_34 : decode cX4_setLeastDepth 34 = .ok (.iload_n 3, 1) := by decide +kernel
theorem dX4_setLeastDepth_35 : decode cX4_setLeastDepth 35 = .ok (.iastore, 1) := by decide +kernel
theorem dX4_setLeastDepth_36 : decode cX4_setLeastDepth 36 = .ok (.iload 4, 2) := by decide +kernel
theorem dX4_setLeastDepth_38 : decode cX4_setLeastDepth 38 = .ok (.ireturn, 1) := by decide +kernel
theorem dX5_init_0 : decode cX5_init 0 = .ok (.aload_n 0, 1) := by decide +kernel
theorem dX5_init_1 : decode cX5_init 1 = .ok (.invokespecial 3, 3) := by decide +kernel
theorem dX5_init_4 : decode cX5_init 4 = .ok (.aload_n 0, 1) := by decide +kernel
theorem dX5_init_5 : decode cX5_init 5 = .ok (.bipush 10, 2) := by decide +kernel
theorem dX5_init_7 : decode cX5_init 7 = .ok (.newarray .int, 2) := by decide +kernel
theorem dX5_init_9 : decode cX5_init 9 = .ok (.putfield 9, 3) := by decide +kernel
theorem dX5_init_12 : decode cX5_init 12 = .ok (.aload_n 0, 1) := by decide +kernel
theorem dX5_init_13 : decode cX5_init 13 = .ok (.bipush 10, 2) := by decide +kernel
theorem dX5_init_15 : decode cX5_init 15 = .ok (.newarray .int, 2) := by decide +kernel
theorem dX5_init_17 : decode cX5_init 17 = .ok (.putfield 15, 3) := by decide +kernel
theorem dX5_init_20 : decode cX5_init 20 = .ok (.aload_n 0, 1) := by decide +kernel
theorem dX5_init_21 : decode cX5_init 21 = .ok (.bipush 10, 2) := by decide +kernel
theorem dX5_init_23 : decode cX5_init 23 = .ok (.newarray .int, 2) := by decide +kernel
theorem dX5_init_25 : decode cX5_init 25 = .ok (.putfield 18, 3) := by decide +kernel
theorem dX5_init_28 : decode cX5_init 28 = .ok (.return_, 1) := by decide +kernel
theorem dX5_tell_0 : decode cX5_tell 0 = .ok (.aload_n 0, 1) := by decide +kernel
theorem dX5_tell_1 : decode cX5_tell 1 = .ok (.getfield 21, 3) := by decide +kernel
theorem dX5_tell_4 : decode cX5_tell 4 = .ok (.bipush 10, 2) := by decide +kernel
theorem dX5_tell_6 : decode cX5_tell 6 = .ok (.if_icmp .ge 43, 3) := by decide +kernel
theorem dX5_tell_9 : decode cX5_tell 9 = .ok (.aload_n 0, 1) := by decide +kernel
theorem dX5_tell_10 : decode cX5_tell 10 = .ok (.getfield 9, 3) := by decide +kernel
theorem dX5_tell_13 : decode cX5_tell 13 = .ok (.aload_n 0, 1) := by decide +kernel
theorem dX5_tell_14 : decode cX5_tell 14 = .ok (.getfield 21, 3) := by decide +kernel
theorem dX5_tell_17 : decode cX5_tell 17 = .ok (.iload_n 1, 1) := by decide +kernel
theorem dX5_tell_18 : decode cX5_tell 18 = .ok (.iastore, 1) := by decide +kernel
theorem dX5_tell_19 : decode cX5_tell 19 = .ok (.aload_n 0, 1) := by decide +kernel
theorem dX5_tell_20 : decode cX5_tell 20 = .ok (.getfield 15, 3) := by decide +kernel
theorem dX5_tell_23 : decode cX5_tell 23 = .ok (.aload_n 0, 1) := by decide +kernel
theorem dX5_tell_24 : decode cX5_tell 24 = .ok (.getfield 21, 3) := by decide +kernel
theorem dX5_tell_27 : decode cX5_tell 27 = .ok (.iload_n 2, 1) := by decide +kernel
theorem dX5_tell_28 : decode cX5_tell 28 = .ok (.iastore, 1) := by decide +kernel
theorem dX5_tell_29 : decode cX5_tell 29 = .ok (.aload_n 0, 1) := by decide +kernel
theorem dX5_tell_30 : decode cX5_tell 30 = .ok (.getfield 18, 3) := by decide +kernel
theorem dX5_tell_33 : decode cX5_tell 33 = .ok (.aload_n 0, 1) := by decide +kernel
theorem dX5_tell_34 : decode cX5_tell 34 = .ok (.getfield 21, 3) := by decide +kernel
theorem dX5_tell_37 : decode cX5_tell 37 = .ok (.iload_n 3, 1) := by decide +kernel
theorem dX5_tell_38 : decode cX5_tell 38 = .ok (.iastore, 1) := by decide +kernel
theorem dX5_tell_39 : decode cX5_tell 39 = .ok (.aload_n 0, 1) := by decide +kernel
theorem dX5_tell_40 : decode cX5_tell 40 = .ok (.dup, 1) := by decide +kernel
theorem dX5_tell_41 : decode cX5_tell 41 = .ok (.getfield 21, 3) := by decide +kernel
theorem dX5_tell_44 : decode cX5_tell 44 = .ok (.iconst 1, 1) := by decide +kernel
theorem dX5_tell_45 : decode cX5_tell 45 = .ok (.iadd, 1) := by decide +kernel
theorem dX5_tell_46 : decode cX5_tell 46 = .ok (.putfield 21, 3) := by decide +kernel
theorem dX5_tell_49 : decode cX5_tell 49 = .ok (.return_, 1) := by decide +kernel
theorem dX5_parentAt_0 : decode cX5_parentAt 0 = .ok (.iload_n 2, 1) := by decide +kernel
theorem dX5_parentAt_1 : decode cX5_parentAt 1 = .ok (.istore 5, 2) := by decide +kernel
theorem dX5_parentAt_3 : decode cX5_parentAt 3 = .ok (.iconst (-1), 1) := by decide +kernel
theorem dX5_parentAt_4 : decode cX5_parentAt 4 = .ok (.istore 6, 2) := by decide +kernel
theorem dX5_parentAt_6 : decode cX5_parentAt 6 = .ok (.iconst 0, 1) := by decide +kernel
theorem dX5_parentAt_7 : decode cX5_parentAt 7 = .ok (.istore 7, 2) := by decide +kernel
theorem dX5_parentAt_9 : decode cX5_parentAt 9 = .ok (.iload 7, 2) := by decide +kernel
theorem dX5_parentAt_11 : decode cX5_parentAt 11 = .ok (.aload_n 0, 1) := by decide +kernel
theorem dX5_parentAt_12 : decode cX5_parentAt 12 = .ok (.getfield 21, 3) := by decide +kernel
theorem dX5_parentAt_15 : decode cX5_parentAt 15 = .ok (.if_icmp .ge 60, 3) := by decide +kernel
theorem dX5_parentAt_18 : decode cX5_parentAt 18 = .ok (.aload 4, 2) := by decide +kernel
theorem dX5_parentAt_20 : decode cX5_parentAt 20 = .ok (.aload_n 0, 1) := by decide +kernel
theorem dX5_parentAt_21 : decode cX5_parentAt 21 = .ok (.getfield 18, 3) := by decide +kernel
theorem dX5_parentAt_24 : decode cX5_parentAt 24 = .ok (.iload 7, 2) := by decide +kernel
theorem dX5_parentAt_26 : decode cX5_parentAt 26 = .ok (.iaload, 1) := by decide +kernel
theorem dX5_parentAt_27 : decode cX5_parentAt 27 = .ok (.invokevirtual 25, 3) := by decide +kernel
theorem dX5_parentAt_30 : decode cX5_parentAt 30 = .ok (.istore 8, 2) := by decide +kernel
theorem dX5_parentAt_32 : decode cX5_parentAt 32 = .ok (.aload_n 0, 1) := by decide +kernel
theorem dX5_parentAt_33 : decode cX5_parentAt 33 = .ok (.getfield 9, 3) := by decide +kernel
theorem dX5_parentAt_36 : decode cX5_parentAt 36 = .ok (.iload 7, 2) := by decide +kernel
theorem dX5_parentAt_38 : decode cX5_parentAt 38 = .ok (.iaload, 1) := by decide +kernel
theorem dX5_parentAt_39 : decode cX5_parentAt 39 = .ok (.iload_n 1, 1) := by decide +kernel
theorem dX5_parentAt_40 : decode cX5_parentAt 40 = .ok (.if_icmp .ne 29, 3) := by decide +kernel
theorem dX5_parentAt_43 : decode cX5_parentAt 43 = .ok (.iload 8, 2) := by decide +kernel
theorem dX5_parentAt_45 : decode cX5_parentAt 45 = .ok (.iload_n 3, 1) := by decide +kernel
theorem dX5_parentAt_46 : decode cX5_parentAt 46 = .ok (.if_icmp .gt 23, 3) := by decide +kernel
theorem dX5_parentAt_49 : decode cX5_parentAt 49 = .ok (.iload 8, 2) := by decide +kernel
theorem dX5_parentAt_51 : decode cX5_parentAt 51 = .ok (.iload 6, 2) := by decide +kernel
theorem dX5_parentAt_53 : decode cX5_parentAt 53 = .ok (.if_icmp .lt 16, 3) := by decide +kernel
theorem dX5_parentAt_56 : decode cX5_parentAt 56 = .ok (.iload 8, 2) := by decide +kernel
theorem dX5_parentAt_58 : decode cX5_parentAt 58 = .ok (.istore 6, 2) := by decide +kernel
theorem dX5_parentAt_60 : decode cX5_parentAt 60 = .ok (.aload_n 0, 1) := by decide +kernel
theorem dX5_parentAt_61 : decode cX5_parentAt 61 = .ok (.getfield 15, 3) := by decide +kernel
theorem dX5_parentAt_64 : decode cX5_parentAt 64 = .ok (.iload 7, 2) := by decide +kernel
theorem dX5_parentAt_66 : decode cX5_parentAt 66 = .ok (.iaload, 1) := by decide +kernel
theorem dX5_parentAt_67 : decode cX5_parentAt 67 = .ok (.istore 5, 2) := by decide +kernel
theorem dX5_parentAt_69 : decode cX5_parentAt 69 = .ok (.iinc 7 1, 3) := by decide +kernel
theorem dX5_parentAt_72 : decode cX5_parentAt 72 = .ok (.goto (-63), 3) := by decide +kernel
theorem dX5_parentAt_75 : decode cX5_parentAt 75 = .ok (.iload 5, 2) := by decide +kernel
theorem dX5_parentAt_77 : decode cX5_parentAt 77 = .ok (.ireturn, 1) := by decide +kernel
theorem dX6_init_0 : decode cX6_init 0 = .ok (.aload_n 0, 1) := by decide +kernel
theorem dX6_init_1 : decode cX6_init 1 = .ok (.invokespecial 3, 3) := by decide +kernel
theorem dX6_init_4 : decode cX6_init 4 = .ok (.aload_n 0, 1) := by decide +kernel
theorem dX6_init_5 : decode cX6_init 5 = .ok (.sipush 1728, 3) := by decide +kernel
theorem dX6_init_8 : decode cX6_init 8 = .ok (.newarray .int, 2) := by decide +kernel
theorem dX6_init_10 : decode cX6_init 10 = .ok (.putfield 9, 3) := by decide +kernel
theorem dX6_init_13 : decode cX6_init 13 = .ok (.aload_n 0, 1) := by decide +kernel
theorem dX6_init_14 : decode cX6_init 14 = .ok (.sipush 1728, 3) := by decide +kernel
theorem dX6_init_17 : decode cX6_init 17 = .ok (.newarray .long, 2) := by decide +kernel
theorem dX6_init_19 : decode cX6_init 19 = .ok (.putfield 15, 3) := by decide +kernel
theorem dX6_init_22 : decode cX6_init 22 = .ok (.aload_n 0, 1) := by decide +kernel
theorem dX6_init_23 : decode cX6_init 23 = .ok (.sipush 410, 3) := by decide +kernel
theorem dX6_init_26 : decode cX6_init 26 = .ok (.newarray .long, 2) := by decide +kernel
theorem dX6_init_28 : decode cX6_init 28 = .ok (.putfield 19, 3) := by decide +kernel
theorem dX6_init_31 : decode cX6_init 31 = .ok (.aload_n 0, 1) := by decide +kernel
theorem dX6_init_32 : decode cX6_init 32 = .ok (.iconst 4, 1) := by decide +kernel
theorem dX6_init_33 : decode cX6_init 33 = .ok (.newarray .long, 2) := by decide +kernel
theorem dX6_init_35 : decode cX6_init 35 = .ok (.putfield 22, 3) := by decide +kernel
theorem dX6_init_38 : decode cX6_init 38 = .ok (.aload_n 0, 1) := by decide +kernel
theorem dX6_init_39 : decode cX6_init 39 = .ok (.bipush 50, 2) := by decide +kernel
theorem dX6_init_41 : decode cX6_init 41 = .ok (.newarray .int, 2) := by decide +kernel
theorem dX6_init_43 : decode cX6_init 43 = .ok (.putfield 25, 3) := by decide +kernel
theorem dX6_init_46 : decode cX6_init 46 = .ok (.aload_n 0, 1) := by decide +kernel
theorem dX6_init_47 : decode cX6_init 47 = .ok (.bipush 50, 2) := by decide +kernel
theorem dX6_init_49 : decode cX6_init 49 = .ok (.newarray .int, 2) := by decide +kernel
theorem dX6_init_51 : decode cX6_init 51 = .ok (.putfield 28, 3) := by decide +kernel
theorem dX6_init_54 : decode cX6_init 54 = .ok (.aload_n 0, 1) := by decide +kernel
theorem dX6_init_55 : decode cX6_init 55 = .ok (.bipush 50, 2) := by decide +kernel
theorem dX6_init_57 : decode cX6_init 57 = .ok (.newarray .int, 2) := by decide +kernel
theorem dX6_init_59 : decode cX6_init 59 = .ok (.putfield 31, 3) := by decide +kernel
theorem dX6_init_62 : decode cX6_init 62 = .ok (.aload_n 0, 1) := by decide +kernel
theorem dX6_init_63 : decode cX6_init 63 = .ok (.bipush 12, 2) := by decide +kernel
theorem dX6_init_65 : decode cX6_init 65 = .ok (.newarray .long, 2) := by decide +kernel
theorem dX6_init_67 : decode cX6_init 67 = .ok (.putfield 34, 3) := by decide +kernel
theorem dX6_init_70 : decode cX6_init 70 = .ok (.aload_n 0, 1) := by decide +kernel
theorem dX6_init_71 : decode cX6_init 71 = .ok (.aload_n 1, 1) := by decide +kernel
theorem dX6_init_72 : decode cX6_init 72 = .ok (.putfield 37, 3) := by decide +kernel
theorem dX6_init_75 : decode cX6_init 75 = .ok (.aload_n 0, 1) := by decide +kernel
theorem dX6_init_76 : decode cX6_init 76 = .ok (.aload_n 2, 1) := by decide +kernel
theorem dX6_init_77 : decode cX6_init 77 = .ok (.putfield 41, 3) := by decide +kernel
theorem dX6_init_80 : decode cX6_init 80 = .ok (.aload_n 0, 1) := by decide +kernel
theorem dX6_init_81 : decode cX6_init 81 = .ok (.aload_n 3, 1) := by decide +kernel
theorem dX6_init_82 : decode cX6_init 82 = .ok (.putfield 45, 3) := by decide +kernel
theorem dX6_init_85 : decode cX6_init 85 = .ok (.return_, 1) := by decide +kernel
theorem dX6_begins_0 : decode cX6_begins 0 = .ok (.aload_n 0, 1) := by decide +kernel
theorem dX6_begins_1 : decode cX6_begins 1 = .ok (.iload_n 1, 1) := by decide +kernel
theorem dX6_begins_2 : decode cX6_begins 2 = .ok (.putfield 49, 3) := by decide +kernel
theorem dX6_begins_5 : decode cX6_begins 5 = .ok (.aload_n 0, 1) := by decide +kernel
theorem dX6_begins_6 : decode cX6_begins 6 = .ok (.dup, 1) := by decide +kernel
theorem dX6_begins_7 : decode cX6_begins 7 = .ok (.getfield 53, 3) := by decide +kernel
theorem dX6_begins_10 : decode cX6_begins 10 = .ok (.iconst 1, 1) := by decide +kernel
theorem dX6_begins_11 : decode cX6_begins 11 = .ok (.iadd, 1) := by decide +kernel
theorem dX6_begins_12 : decode cX6_begins 12 = .ok (.putfield 53, 3) := by decide +kernel
theorem dX6_begins_15 : decode cX6_begins 15 = .ok (.return_, 1) := by decide +kernel
theorem dX6_asAsked_0 : decode cX6_asAsked 0 = .ok (.aload_n 0, 1) := by decide +kernel
theorem dX6_asAsked_1 : decode cX6_asAsked 1 = .ok (.getfield 37, 3) := by decide +kernel
theorem dX6_asAsked_4 : decode cX6_asAsked 4 = .ok (.iload_n 1, 1) := by decide +kernel
theorem dX6_asAsked_5 : decode cX6_asAsked 5 = .ok (.invokevirtual 56, 3) := by decide +kernel
theorem dX6_asAsked_8 : decode cX6_asAsked 8 = .ok (.ifCond .eq 12, 3) := by decide +kernel
theorem dX6_asAsked_11 : decode cX6_asAsked 11 = .ok (.aload_n 0, 1) := by decide +kernel
theorem dX6_asAsked_12 : decode cX6_asAsked 12 = .ok (.iload_n 1, 1) := by decide +kernel
theorem dX6_asAsked_13 : decode cX6_asAsked 13 = .ok (.iconst 0, 1) := by decide +kernel
theorem dX6_asAsked_14 : decode cX6_asAsked 14 = .ok (.invokevirtual 62, 3) := by decide +kernel
theorem dX6_asAsked_17 : decode cX6_asAsked 17 = .ok (.goto 6, 3) := by decide +kernel
theorem dX6_asAsked_20 : decode cX6_asAsked 20 = .ok (.ldc2_w 66, 3) := by decide +kernel
theorem dX6_asAsked_23 : decode cX6_asAsked 23 = .ok (.lreturn, 1) := by decide +kernel
theorem dX6_valueOf_0 : decode cX6_valueOf 0 = .ok (.iload_n 1, 1) := by decide +kernel
theorem dX6_valueOf_1 : decode cX6_valueOf 1 = .ok (.ifCond .lt 16, 3) := by decide +kernel
theorem dX6_valueOf_4 : decode cX6_valueOf 4 = .ok (.iload_n 1, 1) := by decide +kernel
theorem dX6_valueOf_5 : decode cX6_valueOf 5 = .ok (.sipush 1728, 3) := by decide +kernel
theorem dX6_valueOf_8 : decode cX6_valueOf 8 = .ok (.if_icmp .ge 9, 3) := by decide +kernel
theorem dX6_valueOf_11 : decode cX6_valueOf 11 = .ok (.iload_n 2, 1) := by decide +kernel
theorem dX6_valueOf_12 : decode cX6_valueOf 12 = .ok (.bipush 40, 2) := by decide +kernel
theorem dX6_valueOf_14 : decode cX6_valueOf 14 = .ok (.if_icmp .le 7, 3) := by decide +kernel
theorem dX6_valueOf_17 : decode cX6_valueOf 17 = .ok (.ldc2_w 66, 3) := by decide +kernel
theorem dX6_valueOf_20 : decode cX6_valueOf 20 = .ok (.lreturn, 1) := by decide +kernel
theorem dX6_valueOf_21 : decode cX6_valueOf 21 = .ok (.aload_n 0, 1) := by decide +kernel
theorem dX6_valueOf_22 : decode cX6_valueOf 22 = .ok (.getfield 9, 3) := by decide +kernel
theorem dX6_valueOf_25 : decode cX6_valueOf 25 = .ok (.iload_n 1, 1) := by decide +kernel
theorem dX6_valueOf_26 : decode cX6_valueOf 26 = .ok (.iaload, 1) := by decide +kernel
theorem dX6_valueOf_27 : decode cX6_valueOf 27 = .ok (.aload_n 0, 1) := by decide +kernel
theorem dX6_valueOf_28 : decode cX6_valueOf 28 = .ok (.getfield 53, 3) := by decide +kernel
theorem dX6_valueOf_31 : decode cX6_valueOf 31 = .ok (.if_icmp .eq 48, 3) := by decide +kernel
theorem dX6_valueOf_34 : decode cX6_valueOf 34 = .ok (.aload_n 0, 1) := by decide +kernel
theorem dX6_valueOf_35 : decode cX6_valueOf 35 = .ok (.getfield 37, 3) := by decide +kernel
theorem dX6_valueOf_38 : decode cX6_valueOf 38 = .ok (.iload_n 1, 1) := by decide +kernel
theorem dX6_valueOf_39 : decode cX6_valueOf 39 = .ok (.invokevirtual 68, 3) := by decide +kernel
theorem dX6_valueOf_42 : decode cX6_valueOf 42 = .ok (.istore_n 3, 1) := by decide +kernel
theorem dX6_valueOf_43 : decode cX6_valueOf 43 = .ok (.aload_n 0, 1) := by decide +kernel
theorem dX6_valueOf_44 : decode cX6_valueOf 44 = .ok (.getfield 15, 3) := by decide +kernel
theorem dX6_valueOf_47 : decode cX6_valueOf 47 = .ok (.iload_n 1, 1) := by decide +kernel
theorem dX6_valueOf_48 : decode cX6_valueOf 48 = .ok (.iload_n 3, 1) := by decide +kernel
theorem dX6_valueOf_49 : decode cX6_valueOf 49 = .ok (.iconst (-1), 1) := by decide +kernel
theorem dX6_valueOf_50 : decode cX6_valueOf 50 = .ok (.if_icmp .ne 11, 3) := by decide +kernel
theorem dX6_valueOf_53 : decode cX6_valueOf 53 = .ok (.aload_n 0, 1) := by decide +kernel
theorem dX6_valueOf_54 : decode cX6_valueOf 54 = .ok (.iload_n 1, 1) := by decide +kernel
theorem dX6_valueOf_55 : decode cX6_valueOf 55 = .ok (.invokevirtual 72, 3) := by decide +kernel
theorem dX6_valueOf_58 : decode cX6_valueOf 58 = .ok (.goto 10, 3) := by decide +kernel
theorem dX6_valueOf_61 : decode cX6_valueOf 61 = .ok (.aload_n 0, 1) := by decide +kernel
theorem dX6_valueOf_62 : decode cX6_valueOf 62 = .ok (.iload_n 1, 1) := by decide +kernel
theorem dX6_valueOf_63 : decode cX6_valueOf 63 = .ok (.iload_n 3, 1) := by decide +kernel
theorem dX6_valueOf_64 : decode cX6_valueOf 64 = .ok (.iload_n 2, 1) := by decide +kernel
theorem dX6_valueOf_65 : decode cX6_valueOf 65 = .ok (.invokevirtual 76, 3) := by decide +kernel
theorem dX6_valueOf_68 : decode cX6_valueOf 68 = .ok (.lastore, 1) := by decide +kernel
theorem dX6_valueOf_69 : decode cX6_valueOf 69 = .ok (.aload_n 0, 1) := by decide +kernel
theorem dX6_valueOf_70 : decode cX6_valueOf 70 = .ok (.getfield 9, 3) := by decide +kernel
theorem dX6_valueOf_73 : decode cX6_valueOf 73 = .ok (.iload_n 1, 1) := by decide +kernel
theorem dX6_valueOf_74 : decode cX6_valueOf 74 = .ok (.aload_n 0, 1) := by decide +kernel
theorem dX6_valueOf_75 : decode cX6_valueOf 75 = .ok (.getfield 53, 3) := by decide +kernel
theorem dX6_valueOf_78 : decode cX6_valueOf 78 = .ok (.iastore, 1) := by decide +kernel
theorem dX6_valueOf_79 : decode cX6_valueOf 79 = .ok (.aload_n 0, 1) := by decide +kernel
theorem dX6_valueOf_80 : decode cX6_valueOf 80 = .ok (.getfield 15, 3) := by decide +kernel
theorem dX6_valueOf_83 : decode cX6_valueOf 83 = .ok (.iload_n 1, 1) := by decide +kernel
theorem dX6_valueOf_84 : decode cX6_valueOf 84 = .ok (.laload, 1) := by decide +kernel
theorem dX6_valueOf_85 : decode cX6_valueOf 85 = .ok (.lreturn, 1) := by decide +kernel
theorem dX6_formulaValue_0 : decode cX6_formulaValue 0 = .ok (.aload_n 0, 1) := by decide +kernel
theorem dX6_formulaValue_1 : decode cX6_formulaValue 1 = .ok (.getfield 37, 3) := by decide +kernel
theorem dX6_formulaValue_4 : decode cX6_formulaValue 4 = .ok (.iload_n 2, 1) := by decide +kernel
theorem dX6_formulaValue_5 : decode cX6_formulaValue 5 = .ok (.invokevirtual 80, 3) := by decide +kernel
theorem dX6_formulaValue_8 : decode cX6_formulaValue 8 = .ok (.iload_n 1, 1) := by decide +kernel
theorem dX6_formulaValue_9 : decode cX6_formulaValue 9 = .ok (.iload_n 2, 1) := by decide +kernel
theorem dX6_formulaValue_10 : decode cX6_formulaValue 10 = .ok (.invokestatic 84, 3) := by decide +kernel
theorem dX6_formulaValue_13 : decode cX6_formulaValue 13 = .ok (.invokevirtual 88, 3) := by decide +kernel
theorem dX6_formulaValue_16 : decode cX6_formulaValue 16 = .ok (.astore 4, 2) := by decide +kernel
theorem dX6_formulaValue_18 : decode cX6_formulaValue 18 = .ok (.aload 4, 2) := by decide +kernel
theorem dX6_formulaValue_20 : decode cX6_formulaValue 20 = .ok (.ifnonnull 7, 3) := by decide +kernel
theorem dX6_formulaValue_23 : decode cX6_formulaValue 23 = .ok (.ldc2_w 66, 3) := by decide +kernel
theorem dX6_formulaValue_26 : decode cX6_formulaValue 26 = .ok (.lreturn, 1) := by decide +kernel
theorem dX6_formulaValue_27 : decode cX6_formulaValue 27 = .ok (.iload_n 3, 1) := by decide +kernel
theorem dX6_formulaValue_28 : decode cX6_formulaValue 28 = .ok (.bipush 10, 2) := by decide +kernel
theorem dX6_formulaValue_30 : decode cX6_formulaValue 30 = .ok (.imul, 1) := by decide +kernel
theorem dX6_formulaValue_31 : decode cX6_formulaValue 31 = .ok (.istore 5, 2) := by decide +kernel
theorem dX6_formulaValue_33 : decode cX6_formulaValue 33 = .ok (.iload 5, 2) := by decide +kernel
theorem dX6_formulaValue_35 : decode cX6_formulaValue 35 = .ok (.istore 6, 2) := by decide +kernel
theorem dX6_formulaValue_37 : decode cX6_formulaValue 37 = .ok (.iconst 0, 1) := by decide +kernel
theorem dX6_formulaValue_38 : decode cX6_formulaValue 38 = .ok (.istore 7, 2) := by decide +kernel
theorem dX6_formulaValue_40 : decode cX6_formulaValue 40 = .ok (.iload 7, 2) := by decide +kernel
theorem dX6_formulaValue_42 : decode cX6_formulaValue 42 = .ok (.aload 4, 2) := by decide +kernel
theorem dX6_formulaValue_44 : decode cX6_formulaValue 44 = .ok (.getfield 94, 3) := by decide +kernel
theorem dX6_formulaValue_47 : decode cX6_formulaValue 47 = .ok (.if_icmp .ge 153, 3) := by decide +kernel
theorem dX6_formulaValue_50 : decode cX6_formulaValue 50 = .ok (.aload 4, 2) := by decide +kernel
theorem dX6_formulaValue_52 : decode cX6_formulaValue 52 = .ok (.getfield 99, 3) := by decide +kernel
theorem dX6_formulaValue_55 : decode cX6_formulaValue 55 = .ok (.iload 7, 2) := by decide +kernel
theorem dX6_formulaValue_57 : decode cX6_formulaValue 57 = .ok (.iaload, 1) := by decide +kernel
theorem dX6_formulaValue_58 : decode cX6_formulaValue 58 = .ok (.istore 8, 2) := by decide +kernel
theorem dX6_formulaValue_60 : decode cX6_formulaValue 60 = .ok (.iload 8, 2) := by decide +kernel
theorem dX6_formulaValue_62 : decode cX6_formulaValue 62 = .ok (.ifCond .ne 25, 3) := by decide +kernel
theorem dX6_formulaValue_65 : decode cX6_formulaValue 65 = .ok (.aload_n 0, 1) := by decide +kernel
theorem dX6_formulaValue_66 : decode cX6_formulaValue 66 = .ok (.getfield 19, 3) := by decide +kernel
theorem dX6_formulaValue_69 : decode cX6_formulaValue 69 = .ok (.iload 6, 2) := by decide +kernel
theorem dX6_formulaValue_71 : decode cX6_formulaValue 71 = .ok (.aload 4, 2) := by decide +kernel
theorem dX6_formulaValue_73 : decode cX6_formulaValue 73 = .ok (.getfield 102, 3) := by decide +kernel
theorem dX6_formulaValue_76 : decode cX6_formulaValue 76 = .ok (.iload 7, 2) := by decide +kernel
theorem dX6_formulaValue_78 : decode cX6_formulaValue 78 = .ok (.iaload, 1) := by decide +kernel
theorem dX6_formulaValue_79 : decode cX6_formulaValue 79 = .ok (.i2l, 1) := by decide +kernel
theorem dX6_formulaValue_80 : decode cX6_formulaValue 80 = .ok (.lastore, 1) := by decide +kernel
theorem dX6_formulaValue_81 : decode cX6_formulaValue 81 = .ok (.iinc 6 1, 3) := by decide +kernel
theorem dX6_formulaValue_84 : decode cX6_formulaValue 84 = .ok (.goto 110, 3) := by decide +kernel
theorem dX6_formulaValue_87 : decode cX6_formulaValue 87 = .ok (.iload 8, 2) := by decide +kernel
theorem dX6_formulaValue_89 : decode cX6_formulaValue 89 = .ok (.iconst 2, 1) := by decide +kernel
theorem dX6_formulaValue_90 : decode cX6_formulaValue 90 = .ok (.if_icmp .gt 62, 3) := by decide +kernel
theorem dX6_formulaValue_93 : decode cX6_formulaValue 93 = .ok (.iload_n 1, 1) := by decide +kernel
theorem dX6_formulaValue_94 : decode cX6_formulaValue 94 = .ok (.iload_n 2, 1) := by decide +kernel
theorem dX6_formulaValue_95 : decode cX6_formulaValue 95 = .ok (.aload 4, 2) := by decide +kernel
theorem dX6_formulaValue_97 : decode cX6_formulaValue 97 = .ok (.getfield 102, 3) := by decide +kernel
theorem dX6_formulaValue_100 : decode cX6_formulaValue 100 = .ok (.iload 7, 2) := by decide +kernel
theorem dX6_formulaValue_102 : decode cX6_formulaValue 102 = .ok (.iaload, 1) := by decide +kernel
theorem dX6_formulaValue_103 : decode cX6_formulaValue 103 = .ok (.invokestatic 105, 3) := by decide +kernel
theorem dX6_formulaValue_106 : decode cX6_formulaValue 106 = .ok (.istore 9, 2) := by decide +kernel
theorem dX6_formulaValue_108 : decode cX6_formulaValue 108 = .ok (.aload_n 0, 1) := by decide +kernel
theorem dX6_formulaValue_109 : decode cX6_formulaValue 109 = .ok (.getfield 19, 3) := by decide +kernel
theorem dX6_formulaValue_112 : decode cX6_formulaValue 112 = .ok (.iload 6, 2) := by decide +kernel
theorem dX6_formulaValue_114 : decode cX6_formulaValue 114 = .ok (.iload 8, 2) := by decide +kernel
theorem dX6_formulaValue_116 : decode cX6_formulaValue 116 = .ok (.iconst 2, 1) := by decide +kernel
theorem dX6_formulaValue_117 : decode cX6_formulaValue 117 = .ok (.if_icmp .ne 13, 3) := by decide +kernel
theorem dX6_formulaValue_120 : decode cX6_formulaValue 120 = .ok (.aload_n 0, 1) := by decide +kernel
theorem dX6_formulaValue_121 : decode cX6_formulaValue 121 = .ok (.iload 9, 2) := by decide +kernel
theorem dX6_formulaValue_123 : decode cX6_formulaValue 123 = .ok (.iload_n 3, 1) := by decide +kernel
theorem dX6_formulaValue_124 : decode cX6_formulaValue 124 = .ok (.invokevirtual 109, 3) := by decide +kernel
theorem dX6_formulaValue_127 : decode cX6_formulaValue 127 = .ok (.goto 18, 3) := by decide +kernel
theorem dX6_formulaValue_130 : decode cX6_formulaValue 130 = .ok (.aload_n 0, 1) := by decide +kernel
theorem dX6_formulaValue_131 : decode cX6_formulaValue 131 = .ok (.iload 9, 2) := by decide +kernel
theorem dX6_formulaValue_133 : decode cX6_formulaValue 133 = .ok (.aload 4, 2) := by decide +kernel
theorem dX6_formulaValue_135 : decode cX6_formulaValue 135 = .ok (.getfield 112, 3) := by decide +kernel
theorem dX6_formulaValue_138 : decode cX6_formulaValue 138 = .ok (.iload 7, 2) := by decide +kernel
theorem dX6_formulaValue_140 : decode cX6_formulaValue 140 = .ok (.iaload, 1) := by decide +kernel
theorem dX6_formulaValue_141 : decode cX6_formulaValue 141 = .ok (.iload_n 3, 1) := by decide +kernel
theorem dX6_formulaValue_142 : decode cX6_formulaValue 142 = .ok (.invokevirtual 115, 3) := by decide +kernel
theorem dX6_formulaValue_145 : decode cX6_formulaValue 145 = .ok (.lastore, 1) := by decide +kernel
theorem dX6_formulaValue_146 : decode cX6_formulaValue 146 = .ok (.iinc 6 1, 3) := by decide +kernel
theorem dX6_formulaValue_149 : decode cX6_formulaValue 149 = .ok (.goto 45, 3) := by decide +kernel
theorem dX6_formulaValue_152 : decode cX6_formulaValue 152 = .ok (.iload 6, 2) := by decide +kernel
theorem dX6_formulaValue_154 : decode cX6_formulaValue 154 = .ok (.iload 5, 2) := by decide +kernel
theorem dX6_formulaValue_156 : decode cX6_formulaValue 156 = .ok (.isub, 1) := by decide +kernel
theorem dX6_formulaValue_157 : decode cX6_formulaValue 157 = .ok (.iconst 2, 1) := by decide +kernel
theorem dX6_formulaValue_158 : decode cX6_formulaValue 158 = .ok (.if_icmp .lt 36, 3) := by decide +kernel
theorem dX6_formulaValue_161 : decode cX6_formulaValue 161 = .ok (.iinc 6 (-1), 3) := by decide +kernel
theorem dX6_formulaValue_164 : decode cX6_formulaValue 164 = .ok (.aload_n 0, 1) := by decide +kernel
theorem dX6_formulaValue_165 : decode cX6_formulaValue 165 = .ok (.getfield 19, 3) := by decide +kernel
theorem dX6_formulaValue_168 : decode cX6_formulaValue 168 = .ok (.iload 6, 2) := by decide +kernel
theorem dX6_formulaValue_170 : decode cX6_formulaValue 170 = .ok (.iconst 1, 1) := by decide +kernel
theorem dX6_formulaValue_171 : decode cX6_formulaValue 171 = .ok (.isub, 1) := by decide +kernel
theorem dX6_formulaValue_172 : decode cX6_formulaValue 172 = .ok (.iload 8, 2) := by decide +kernel
theorem dX6_formulaValue_174 : decode cX6_formulaValue 174 = .ok (.aload_n 0, 1) := by decide +kernel
theorem dX6_formulaValue_175 : decode cX6_formulaValue 175 = .ok (.getfield 19, 3) := by decide +kernel
theorem dX6_formulaValue_178 : decode cX6_formulaValue 178 = .ok (.iload 6, 2) := by decide +kernel
theorem dX6_formulaValue_180 : decode cX6_formulaValue 180 = .ok (.iconst 1, 1) := by decide +kernel
theorem dX6_formulaValue_181 : decode cX6_formulaValue 181 = .ok (.isub, 1) := by decide +kernel
theorem dX6_formulaValue_182 : decode cX6_formulaValue 182 = .ok (.laload, 1) := by decide +kernel
theorem dX6_formulaValue_183 : decode cX6_formulaValue 183 = .ok (.aload_n 0, 1) := by decide +kernel
theorem dX6_formulaValue_184 : decode cX6_formulaValue 184 = .ok (.getfield 19, 3) := by decide +kernel
theorem dX6_formulaValue_187 : decode cX6_formulaValue 187 = .ok (.iload 6, 2) := by decide +kernel
theorem dX6_formulaValue_189 : decode cX6_formulaValue 189 = .ok (.laload, 1) := by decide +kernel
theorem dX6_formulaValue_190 : decode cX6_formulaValue 190 = .ok (.invokestatic 118, 3) := by decide +kernel
theorem dX6_formulaValue_193 : decode cX6_formulaValue 193 = .ok (.lastore, 1) := by decide +kernel
theorem dX6_formulaValue_194 : decode cX6_formulaValue 194 = .ok (.iinc 7 1, 3) := by decide +kernel
theorem dX6_formulaValue_197 : decode cX6_formulaValue 197 = .ok (.goto (-157), 3) := by decide +kernel
theorem dX6_formulaValue_200 : decode cX6_formulaValue 200 = .ok (.iload 6, 2) := by decide +kernel
theorem dX6_formulaValue_202 : decode cX6_formulaValue 202 = .ok (.iload 5, 2) := by decide +kernel
theorem dX6_formulaValue_204 : decode cX6_formulaValue 204 = .ok (.if_icmp .le 13, 3) := by decide +kernel
theorem dX6_formulaValue_207 : decode cX6_formulaValue 207 = .ok (.aload_n 0, 1) := by decide +kernel
theorem dX6_formulaValue_208 : decode cX6_formulaValue 208 = .ok (.getfield 19, 3) := by decide +kernel
theorem dX6_formulaValue_211 : decode cX6_formulaValue 211 = .ok (.iload 5, 2) := by decide +kernel
theorem dX6_formulaValue_213 : decode cX6_formulaValue 213 = .ok (.laload, 1) := by decide +kernel
theorem dX6_formulaValue_214 : decode cX6_formulaValue 214 = .ok (.goto 6, 3) := by decide +kernel
theorem dX6_formulaValue_217 : decode cX6_formulaValue 217 = .ok (.ldc2_w 66, 3) := by decide +kernel
theorem dX6_formulaValue_220 : decode cX6_formulaValue 220 = .ok (.lreturn, 1) := by decide +kernel
theorem dX6_back_0 : decode cX6_back 0 = .ok (.iload_n 2, 1) := by decide +kernel
theorem dX6_back_1 : decode cX6_back 1 = .ok (.ifCond .ne 12, 3) := by decide +kernel
theorem dX6_back_4 : decode cX6_back 4 = .ok (.aload_n 0, 1) := by decide +kernel
theorem dX6_back_5 : decode cX6_back 5 = .ok (.iload_n 1, 1) := by decide +kernel
theorem dX6_back_6 : decode cX6_back 6 = .ok (.iload_n 3, 1) := by decide +kernel
theorem dX6_back_7 : decode cX6_back 7 = .ok (.iconst 1, 1) := by decide +kernel
theorem dX6_back_8 : decode cX6_back 8 = .ok (.iadd, 1) := by decide +kernel
theorem dX6_back_9 : decode cX6_back 9 = .ok (.invokevirtual 62, 3) := by decide +kernel
theorem dX6_back_12 : decode cX6_back 12 = .ok (.lreturn, 1) := by decide +kernel
theorem dX6_back_13 : decode cX6_back 13 = .ok (.iload_n 1, 1) := by decide +kernel
theorem dX6_back_14 : decode cX6_back 14 = .ok (.iconst 0, 1) := by decide +kernel
theorem dX6_back_15 : decode cX6_back 15 = .ok (.invokestatic 84, 3) := by decide +kernel
theorem dX6_back_18 : decode cX6_back 18 = .ok (.istore 4, 2) := by decide +kernel
theorem dX6_back_20 : decode cX6_back 20 = .ok (.aload_n 0, 1) := by decide +kernel
theorem dX6_back_21 : decode cX6_back 21 = .ok (.getfield 37, 3) := by decide +kernel
theorem dX6_back_24 : decode cX6_back 24 = .ok (.getfield 122, 3) := by decide +kernel
theorem dX6_back_27 : decode cX6_back 27 = .ok (.iload 4, 2) := by decide +kernel
theorem dX6_back_29 : decode cX6_back 29 = .ok (.invokevirtual 126, 3) := by decide +kernel
theorem dX6_back_32 : decode cX6_back 32 = .ok (.ifCond .eq 26, 3) := by decide +kernel
theorem dX6_back_35 : decode cX6_back 35 = .ok (.aload_n 0, 1) := by decide +kernel
theorem dX6_back_36 : decode cX6_back 36 = .ok (.getfield 37, 3) := by decide +kernel
theorem dX6_back_39 : decode cX6_back 39 = .ok (.getfield 129, 3) := by decide +kernel
theorem dX6_back_42 : decode cX6_back 42 = .ok (.iload 4, 2) := by decide +kernel
theorem dX6_back_44 : decode cX6_back 44 = .ok (.iload_n 2, 1) := by decide +kernel
theorem dX6_back_45 : decode cX6_back 45 = .ok (.aload_n 0, 1) := by decide +kernel
theorem dX6_back_46 : decode cX6_back 46 = .ok (.getfield 37, 3) := by decide +kernel
theorem dX6_back_49 : decode cX6_back 49 = .ok (.getfield 122, 3) := by decide +kernel
theorem dX6_back_52 : decode cX6_back 52 = .ok (.invokevirtual 133, 3) := by decide +kernel
theorem dX6_back_55 : decode cX6_back 55 = .ok (.goto 4, 3) := by decide +kernel
theorem dX6_back_58 : decode cX6_back 58 = .ok (.iconst (-1), 1) := by decide +kernel
theorem dX6_back_59 : decode cX6_back 59 = .ok (.istore 5, 2) := by decide +kernel
theorem dX6_back_61 : decode cX6_back 61 = .ok (.iload 5, 2) := by decide +kernel
theorem dX6_back_63 : decode cX6_back 63 = .ok (.iconst (-1), 1) := by decide +kernel
theorem dX6_back_64 : decode cX6_back 64 = .ok (.if_icmp .ne 9, 3) := by decide +kernel
theorem dX6_back_67 : decode cX6_back 67 = .ok (.ldc2_w 66, 3) := by decide +kernel
theorem dX6_back_70 : decode cX6_back 70 = .ok (.goto 17, 3) := by decide +kernel
theorem dX6_back_73 : decode cX6_back 73 = .ok (.aload_n 0, 1) := by decide +kernel
theorem dX6_back_74 : decode cX6_back 74 = .ok (.iload_n 1, 1) := by decide +kernel
theorem dX6_back_75 : decode cX6_back 75 = .ok (.iconst 0, 1) := by decide +kernel
theorem dX6_back_76 : decode cX6_back 76 = .ok (.iload 5, 2) := by decide +kernel
theorem dX6_back_78 : decode cX6_back 78 = .ok (.invokestatic 105, 3) := by decide +kernel
theorem dX6_back_81 : decode cX6_back 81 = .ok (.iload_n 3, 1) := by decide +kernel
theorem dX6_back_82 : decode cX6_back 82 = .ok (.iconst 1, 1) := by decide +kernel
theorem dX6_back_83 : decode cX6_back 83 = .ok (.iadd, 1) := by decide +kernel
theorem dX6_back_84 : decode cX6_back 84 = .ok (.invokevirtual 62, 3) := by decide +kernel
theorem dX6_back_87 : decode cX6_back 87 = .ok (.lreturn, 1) := by decide +kernel
theorem dX6_toDate_0 : decode cX6_toDate 0 = .ok (.iload_n 1, 1) := by decide +kernel
theorem dX6_toDate_1 : decode cX6_toDate 1 = .ok (.iconst 0, 1) := by decide +kernel
theorem dX6_toDate_2 : decode cX6_toDate 2 = .ok (.invokestatic 84, 3) := by decide +kernel
theorem dX6_toDate_5 : decode cX6_toDate 5 = .ok (.istore_n 3, 1) := by decide +kernel
theorem dX6_toDate_6 : decode cX6_toDate 6 = .ok (.aload_n 0, 1) := by decide +kernel
theorem dX6_toDate_7 : decode cX6_toDate 7 = .ok (.getfield 37, 3) := by decide +kernel
theorem dX6_toDate_10 : decode cX6_toDate 10 = .ok (.getfield 122, 3) := by decide +kernel
theorem dX6_toDate_13 : decode cX6_toDate 13 = .ok (.iload_n 3, 1) := by decide +kernel
theorem dX6_toDate_14 : decode cX6_toDate 14 = .ok (.invokevirtual 126, 3) := by decide +kernel
theorem dX6_toDate_17 : decode cX6_toDate 17 = .ok (.ifCond .ne 7, 3) := by decide +kernel
theorem dX6_toDate_20 : decode cX6_toDate 20 = .ok (.ldc2_w 66, 3) := by decide +kernel
theorem dX6_toDate_23 : decode cX6_toDate 23 = .ok (.lreturn, 1) := by decide +kernel
theorem dX6_toDate_24 : decode cX6_toDate 24 = .ok (.aload_n 0, 1) := by decide +kernel
theorem dX6_toDate_25 : decode cX6_toDate 25 = .ok (.getfield 37, 3) := by decide +kernel
theorem dX6_toDate_28 : decode cX6_toDate 28 = .ok (.getfield 122, 3) := by decide +kernel
theorem dX6_toDate_31 : decode cX6_toDate 31 = .ok (.iload_n 3, 1) := by decide +kernel
theorem dX6_toDate_32 : decode cX6_toDate 32 = .ok (.invokevirtual 139, 3) := by decide +kernel
theorem dX6_toDate_35 : decode cX6_toDate 35 = .ok (.istore 4, 2) := by decide +kernel
theorem dX6_toDate_37 : decode cX6_toDate 37 = .ok (.ldc2_w 66, 3) := by decide +kernel
theorem dX6_toDate_40 : decode cX6_toDate 40 = .ok (.lstore 5, 2) := by decide +kernel
theorem dX6_toDate_42 : decode cX6_toDate 42 = .ok (.iconst 0, 1) := by decide +kernel
theorem dX6_toDate_43 : decode cX6_toDate 43 = .ok (.istore 7, 2) := by decide +kernel
theorem dX6_toDate_45 : decode cX6_toDate 45 = .ok (.iload 7, 2) := by decide +kernel
theorem dX6_toDate_47 : decode cX6_toDate 47 = .ok (.iload_n 3, 1) := by decide +kernel
theorem dX6_toDate_48 : decode cX6_toDate 48 = .ok (.if_icmp .gt 63, 3) := by decide +kernel
theorem dX6_toDate_51 : decode cX6_toDate 51 = .ok (.aload_n 0, 1) := by decide +kernel
theorem dX6_toDate_52 : decode cX6_toDate 52 = .ok (.getfield 37, 3) := by decide +kernel
theorem dX6_toDate_55 : decode cX6_toDate 55 = .ok (.getfield 122, 3) := by decide +kernel
theorem dX6_toDate_58 : decode cX6_toDate 58 = .ok (.iload 7, 2) := by decide +kernel
theorem dX6_toDate_60 : decode cX6_toDate 60 = .ok (.invokevirtual 126, 3) := by decide +kernel
theorem dX6_toDate_63 : decode cX6_toDate 63 = .ok (.ifCond .eq 42, 3) := by decide +kernel
theorem dX6_toDate_66 : decode cX6_toDate 66 = .ok (.aload_n 0, 1) := by decide +kernel
theorem dX6_toDate_67 : decode cX6_toDate 67 = .ok (.getfield 37, 3) := by decide +kernel
theorem dX6_toDate_70 : decode cX6_toDate 70 = .ok (.getfield 122, 3) := by decide +kernel
theorem dX6_toDate_73 : decode cX6_toDate 73 = .ok (.iload 7, 2) := by decide +kernel
theorem dX6_toDate_75 : decode cX6_toDate 75 = .ok (.invokevirtual 139, 3) := by decide +kernel
theorem dX6_toDate_78 : decode cX6_toDate 78 = .ok (.iload 4, 2) := by decide +kernel
theorem dX6_toDate_80 : decode cX6_toDate 80 = .ok (.if_icmp .ne 25, 3) := by decide +kernel
theorem dX6_toDate_83 : decode cX6_toDate 83 = .ok (.lload 5, 2) := by decide +kernel
theorem dX6_toDate_85 : decode cX6_toDate 85 = .ok (.aload_n 0, 1) := by decide +kernel
theorem dX6_toDate_86 : decode cX6_toDate 86 = .ok (.iload_n 1, 1) := by decide +kernel
theorem dX6_toDate_87 : decode cX6_toDate 87 = .ok (.iconst 0, 1) := by decide +kernel
theorem dX6_toDate_88 : decode cX6_toDate 88 = .ok (.iload 7, 2) := by decide +kernel
theorem dX6_toDate_90 : decode cX6_toDate 90 = .ok (.invokestatic 105, 3) := by decide +kernel
theorem dX6_toDate_93 : decode cX6_toDate 93 = .ok (.iload_n 2, 1) := by decide +kernel
theorem dX6_toDate_94 : decode cX6_toDate 94 = .ok (.iconst 1, 1) := by decide +kernel
theorem dX6_toDate_95 : decode cX6_toDate 95 = .ok (.iadd, 1) := by decide +kernel
theorem dX6_toDate_96 : decode cX6_toDate 96 = .ok (.invokevirtual 62, 3) := by decide +kernel
theorem dX6_toDate_99 : decode cX6_toDate 99 = .ok (.iconst 1, 1) := by decide +kernel
theorem dX6_toDate_100 : decode cX6_toDate 100 = .ok (.invokestatic 142, 3) := by decide +kernel
theorem dX6_toDate_103 : decode cX6_toDate 103 = .ok (.lstore 5, 2) := by decide +kernel
theorem dX6_toDate_105 : decode cX6_toDate 105 = .ok (.iinc 7 1, 3) := by decide +kernel
theorem dX6_toDate_108 : decode cX6_toDate 108 = .ok (.goto (-63), 3) := by decide +kernel
theorem dX6_toDate_111 : decode cX6_toDate 111 = .ok (.lload 5, 2) := by decide +kernel
theorem dX6_toDate_113 : decode cX6_toDate 113 = .ok (.lreturn, 1) := by decide +kernel
theorem dX6_joined_0 : decode cX6_joined 0 = .ok (.iload_n 0, 1) := by decide +kernel
theorem dX6_joined_1 : decode cX6_joined 1 = .ok (.iconst 3, 1) := by decide +kernel
theorem dX6_joined_2 : decode cX6_joined 2 = .ok (.if_icmp .eq 8, 3) := by decide +kernel
theorem dX6_joined_5 : decode cX6_joined 5 = .ok (.iload_n 0, 1) := by decide +kernel
theorem dX6_joined_6 : decode cX6_joined 6 = .ok (.iconst 4, 1) := by decide +kernel
theorem dX6_joined_7 : decode cX6_joined 7 = .ok (.if_icmp .ne 19, 3) := by decide +kernel
theorem dX6_joined_10 : decode cX6_joined 10 = .ok (.lload_n 1, 1) := by decide +kernel
theorem dX6_joined_11 : decode cX6_joined 11 = .ok (.lload_n 3, 1) := by decide +kernel
theorem dX6_joined_12 : decode cX6_joined 12 = .ok (.iload_n 0, 1) := by decide +kernel
theorem dX6_joined_13 : decode cX6_joined 13 = .ok (.iconst 3, 1) := by decide +kernel
theorem dX6_joined_14 : decode cX6_joined 14 = .ok (.if_icmp .ne 7, 3) := by decide +kernel
theorem dX6_joined_17 : decode cX6_joined 17 = .ok (.iconst 1, 1) := by decide +kernel
theorem dX6_joined_18 : decode cX6_joined 18 = .ok (.goto 4, 3) := by decide +kernel
theorem dX6_joined_21 : decode cX6_joined 21 = .ok (.iconst (-1), 1) := by decide +kernel
theorem dX6_joined_22 : decode cX6_joined 22 = .ok (.invokestatic 142, 3) := by decide +kernel
theorem dX6_joined_25 : decode cX6_joined 25 = .ok (.lreturn, 1) := by decide +kernel
theorem dX6_joined_26 : decode cX6_joined 26 = .ok (.iload_n 0, 1) := by decide +kernel
theorem dX6_joined_27 : decode cX6_joined 27 = .ok (.iconst 5, 1) := by decide +kernel
theorem dX6_joined_28 : decode cX6_joined 28 = .ok (.if_icmp .ne 11, 3) := by decide +kernel
theorem dX6_joined_31 : decode cX6_joined 31 = .ok (.lload_n 1, 1) := by decide +kernel
theorem dX6_joined_32 : decode cX6_joined 32 = .ok (.lload_n 3, 1) := by decide +kernel
theorem dX6_joined_33 : decode cX6_joined 33 = .ok (.invokestatic 146, 3) := by decide +kernel
theorem dX6_joined_36 : decode cX6_joined 36 = .ok (.goto 8, 3) := by decide +kernel
theorem dX6_joined_39 : decode cX6_joined 39 = .ok (.lload_n 1, 1) := by decide +kernel
theorem dX6_joined_40 : decode cX6_joined 40 = .ok (.lload_n 3, 1) := by decide +kernel
theorem dX6_joined_41 : decode cX6_joined 41 = .ok (.invokestatic 150, 3) := by decide +kernel
theorem dX6_joined_44 : decode cX6_joined 44 = .ok (.lreturn, 1) := by decide +kernel
theorem dX6_plus_0 : decode cX6_plus 0 = .ok (.lload_n 0, 1) := by decide +kernel
theorem dX6_plus_1 : decode cX6_plus 1 = .ok (.ldc2_w 66, 3) := by decide +kernel
theorem dX6_plus_4 : decode cX6_plus 4 = .ok (.lcmp, 1) := by decide +kernel
theorem dX6_plus_5 : decode cX6_plus 5 = .ok (.ifCond .ne 15, 3) := by decide +kernel
theorem dX6_plus_8 : decode cX6_plus 8 = .ok (.lload_n 2, 1) := by decide +kernel
theorem dX6_plus_9 : decode cX6_plus 9 = .ok (.ldc2_w 66, 3) := by decide +kernel
theorem dX6_plus_12 : decode cX6_plus 12 = .ok (.lcmp, 1) := by decide +kernel
theorem dX6_plus_13 : decode cX6_plus 13 = .ok (.ifCond .ne 7, 3) := by decide +kernel
theorem dX6_plus_16 : decode cX6_plus 16 = .ok (.ldc2_w 66, 3) := by decide +kernel
theorem dX6_plus_19 : decode cX6_plus 19 = .ok (.lreturn, 1) := by decide +kernel
theorem dX6_plus_20 : decode cX6_plus 20 = .ok (.lload_n 0, 1) := by decide +kernel
theorem dX6_plus_21 : decode cX6_plus 21 = .ok (.ldc2_w 66, 3) := by decide +kernel
theorem dX6_plus_24 : decode cX6_plus 24 = .ok (.lcmp, 1) := by decide +kernel
theorem dX6_plus_25 : decode cX6_plus 25 = .ok (.ifCond .ne 7, 3) := by decide +kernel
theorem dX6_plus_28 : decode cX6_plus 28 = .ok (.lconst 0, 1) := by decide +kernel
theorem dX6_plus_29 : decode cX6_plus 29 = .ok (.goto 4, 3) := by decide +kernel
theorem dX6_plus_32 : decode cX6_plus 32 = .ok (.lload_n 0, 1) := by decide +kernel
theorem dX6_plus_33 : decode cX6_plus 33 = .ok (.lload_n 2, 1) := by decide +kernel
theorem dX6_plus_34 : decode cX6_plus 34 = .ok (.ldc2_w 66, 3) := by decide +kernel
theorem dX6_plus_37 : decode cX6_plus 37 = .ok (.lcmp, 1) := by decide +kernel
theorem dX6_plus_38 : decode cX6_plus 38 = .ok (.ifCond .ne 7, 3) := by decide +kernel
theorem dX6_plus_41 : decode cX6_plus 41 = .ok (.lconst 0, 1) := by decide +kernel
theorem dX6_plus_42 : decode cX6_plus 42 = .ok (.goto 8, 3) := by decide +kernel
theorem dX6_plus_45 : decode cX6_plus 45 = .ok (.iload 4, 2) := by decide +kernel
theorem dX6_plus_47 : decode cX6_plus 47 = .ok (.i2l, 1) := by decide +kernel
theorem dX6_plus_48 : decode cX6_plus 48 = .ok (.lload_n 2, 1) := by decide +kernel
theorem dX6_plus_49 : decode cX6_plus 49 = .ok (.lmul, 1) := by decide +kernel
theorem dX6_plus_50 : decode cX6_plus 50 = .ok (.ladd, 1) := by decide +kernel
theorem dX6_plus_51 : decode cX6_plus 51 = .ok (.invokestatic 153, 3) := by decide +kernel
theorem dX6_plus_54 : decode cX6_plus 54 = .ok (.lreturn, 1) := by decide +kernel
theorem dX6_product_0 : decode cX6_product 0 = .ok (.lload_n 0, 1) := by decide +kernel
theorem dX6_product_1 : decode cX6_product 1 = .ok (.ldc2_w 66, 3) := by decide +kernel
theorem dX6_product_4 : decode cX6_product 4 = .ok (.lcmp, 1) := by decide +kernel
theorem dX6_product_5 : decode cX6_product 5 = .ok (.ifCond .eq 11, 3) := by decide +kernel
theorem dX6_product_8 : decode cX6_product 8 = .ok (.lload_n 2, 1) := by decide +kernel
theorem dX6_product_9 : decode cX6_product 9 = .ok (.ldc2_w 66, 3) := by decide +kernel
theorem dX6_product_12 : decode cX6_product 12 = .ok (.lcmp, 1) := by decide +kernel
theorem dX6_product_13 : decode cX6_product 13 = .ok (.ifCond .ne 7, 3) := by decide +kernel
theorem dX6_product_16 : decode cX6_product 16 = .ok (.ldc2_w 66, 3) := by decide +kernel
theorem dX6_product_19 : decode cX6_product 19 = .ok (.lreturn, 1) := by decide +kernel
theorem dX6_product_20 : decode cX6_product 20 = .ok (.lload_n 0, 1) := by decide +kernel
theorem dX6_product_21 : decode cX6_product 21 = .ok (.lconst 0, 1) := by decide +kernel
theorem dX6_product_22 : decode cX6_product 22 = .ok (.lcmp, 1) := by decide +kernel
theorem dX6_product_23 : decode cX6_product 23 = .ok (.ifCond .eq 9, 3) := by decide +kernel
theorem dX6_product_26 : decode cX6_product 26 = .ok (.lload_n 2, 1) := by decide +kernel
theorem dX6_product_27 : decode cX6_product 27 = .ok (.lconst 0, 1) := by decide +kernel
theorem dX6_product_28 : decode cX6_product 28 = .ok (.lcmp, 1) := by decide +kernel
theorem dX6_product_29 : decode cX6_product 29 = .ok (.ifCond .ne 5, 3) := by decide +kernel
theorem dX6_product_32 : decode cX6_product 32 = .ok (.lconst 0, 1) := by decide +kernel
theorem dX6_product_33 : decode cX6_product 33 = .ok (.lreturn, 1) := by decide +kernel
theorem dX6_product_34 : decode cX6_product 34 = .ok (.lload_n 0, 1) := by decide +kernel
theorem dX6_product_35 : decode cX6_product 35 = .ok (.invokestatic 157, 3) := by decide +kernel
theorem dX6_product_38 : decode cX6_product 38 = .ok (.ldc2_w 162, 3) := by decide +kernel
theorem dX6_product_41 : decode cX6_product 41 = .ok (.lload_n 2, 1) := by decide +kernel
theorem dX6_product_42 : decode cX6_product 42 = .ok (.invokestatic 157, 3) := by decide +kernel
theorem dX6_product_45 : decode cX6_product 45 = .ok (.ldiv, 1) := by decide +kernel
theorem dX6_product_46 : decode cX6_product 46 = .ok (.lcmp, 1) := by decide +kernel
theorem dX6_product_47 : decode cX6_product 47 = .ok (.ifCond .le 38, 3) := by decide +kernel
theorem dX6_product_50 : decode cX6_product 50 = .ok (.lload_n 0, 1) := by decide +kernel
theorem dX6_product_51 : decode cX6_product 51 = .ok (.lconst 0, 1) := by decide +kernel
theorem dX6_product_52 : decode cX6_product 52 = .ok (.lcmp, 1) := by decide +kernel
theorem dX6_product_53 : decode cX6_product 53 = .ok (.ifCond .ge 7, 3) := by decide +kernel
theorem dX6_product_56 : decode cX6_product 56 = .ok (.iconst 1, 1) := by decide +kernel
theorem dX6_product_57 : decode cX6_product 57 = .ok (.goto 4, 3) := by decide +kernel
theorem dX6_product_60 : decode cX6_product 60 = .ok (.iconst 0, 1) := by decide +kernel
theorem dX6_product_61 : decode cX6_product 61 = .ok (.lload_n 2, 1) := by decide +kernel
theorem dX6_product_62 : decode cX6_product 62 = .ok (.lconst 0, 1) := by decide +kernel
theorem dX6_product_63 : decode cX6_product 63 = .ok (.lcmp, 1) := by decide +kernel
theorem dX6_product_64 : decode cX6_product 64 = .ok (.ifCond .ge 7, 3) := by decide +kernel
theorem dX6_product_67 : decode cX6_product 67 = .ok (.iconst 1, 1) := by decide +kernel
theorem dX6_product_68 : decode cX6_product 68 = .ok (.goto 4, 3) := by decide +kernel
theorem dX6_product_71 : decode cX6_product 71 = .ok (.iconst 0, 1) := by decide +kernel
theorem dX6_product_72 : decode cX6_product 72 = .ok (.if_icmp .ne 9, 3) := by decide +kernel
theorem dX6_product_75 : decode cX6_product 75 = .ok (.ldc2_w 162, 3) := by decide +kernel
theorem dX6_product_78 : decode cX6_product 78 = .ok (.goto 6, 3) := by decide +kernel
theorem dX6_product_81 : decode cX6_product 81 = .ok (.ldc2_w 164, 3) := by decide +kernel
theorem dX6_product_84 : decode cX6_product 84 = .ok (.lreturn, 1) := by decide +kernel
theorem dX6_product_85 : decode cX6_product 85 = .ok (.lload_n 0, 1) := by decide +kernel
theorem dX6_product_86 : decode cX6_product 86 = .ok (.lload_n 2, 1) := by decide +kernel
theorem dX6_product_87 : decode cX6_product 87 = .ok (.lmul, 1) := by decide +kernel
theorem dX6_product_88 : decode cX6_product 88 = .ok (.lreturn, 1) := by decide +kernel
theorem dX6_ratio_0 : decode cX6_ratio 0 = .ok (.lload_n 0, 1) := by decide +kernel
theorem dX6_ratio_1 : decode cX6_ratio 1 = .ok (.ldc2_w 66, 3) := by decide +kernel
theorem dX6_ratio_4 : decode cX6_ratio 4 = .ok (.lcmp, 1) := by decide +kernel
theorem dX6_ratio_5 : decode cX6_ratio 5 = .ok (.ifCond .eq 17, 3) := by decide +kernel
theorem dX6_ratio_8 : decode cX6_ratio 8 = .ok (.lload_n 2, 1) := by decide +kernel
theorem dX6_ratio_9 : decode cX6_ratio 9 = .ok (.ldc2_w 66, 3) := by decide +kernel
theorem dX6_ratio_12 : decode cX6_ratio 12 = .ok (.lcmp, 1) := by decide +kernel
theorem dX6_ratio_13 : decode cX6_ratio 13 = .ok (.ifCond .eq 9, 3) := by decide +kernel
theorem dX6_ratio_16 : decode cX6_ratio 16 = .ok (.lload_n 2, 1) := by decide +kernel
theorem dX6_ratio_17 : decode cX6_ratio 17 = .ok (.lconst 0, 1) := by decide +kernel
theorem dX6_ratio_18 : decode cX6_ratio 18 = .ok (.lcmp, 1) := by decide +kernel
theorem dX6_ratio_19 : decode cX6_ratio 19 = .ok (.ifCond .ne 7, 3) := by decide +kernel
theorem dX6_ratio_22 : decode cX6_ratio 22 = .ok (.ldc2_w 66, 3) := by decide +kernel
theorem dX6_ratio_25 : decode cX6_ratio 25 = .ok (.lreturn, 1) := by decide +kernel
theorem dX6_ratio_26 : decode cX6_ratio 26 = .ok (.ldc2_w 166, 3) := by decide +kernel
theorem dX6_ratio_29 : decode cX6_ratio 29 = .ok (.lload_n 0, 1) := by decide +kernel
theorem dX6_ratio_30 : decode cX6_ratio 30 = .ok (.lmul, 1) := by decide +kernel
theorem dX6_ratio_31 : decode cX6_ratio 31 = .ok (.lload_n 2, 1) := by decide +kernel
theorem dX6_ratio_32 : decode cX6_ratio 32 = .ok (.ldiv, 1) := by decide +kernel
theorem dX6_ratio_33 : decode cX6_ratio 33 = .ok (.invokestatic 153, 3) := by decide +kernel
theorem dX6_ratio_36 : decode cX6_ratio 36 = .ok (.lreturn, 1) := by decide +kernel
theorem dX6_plainValue_0 : decode cX6_plainValue 0 = .ok (.aload_n 0, 1) := by decide +kernel
theorem dX6_plainValue_1 : decode cX6_plainValue 1 = .ok (.iload_n 1, 1) := by decide +kernel
theorem dX6_plainValue_2 : decode cX6_plainValue 2 = .ok (.invokevirtual 168, 3) := by decide +kernel
theorem dX6_plainValue_5 : decode cX6_plainValue 5 = .ok (.ifCond .eq 7, 3) := by decide +kernel
theorem dX6_plainValue_8 : decode cX6_plainValue 8 = .ok (.ldc2_w 66, 3) := by decide +kernel
theorem dX6_plainValue_11 : decode cX6_plainValue 11 = .ok (.lreturn, 1) := by decide +kernel
theorem dX6_plainValue_12 : decode cX6_plainValue 12 = .ok (.iconst 0, 1) := by decide +kernel
theorem dX6_plainValue_13 : decode cX6_plainValue 13 = .ok (.istore_n 2, 1) := by decide +kernel
theorem dX6_plainValue_14 : decode cX6_plainValue 14 = .ok (.iload_n 2, 1) := by decide +kernel
theorem dX6_plainValue_15 : decode cX6_plainValue 15 = .ok (.aload_n 0, 1) := by decide +kernel
theorem dX6_plainValue_16 : decode cX6_plainValue 16 = .ok (.getfield 49, 3) := by decide +kernel
theorem dX6_plainValue_19 : decode cX6_plainValue 19 = .ok (.if_icmp .gt 46, 3) := by decide +kernel
theorem dX6_plainValue_22 : decode cX6_plainValue 22 = .ok (.iload_n 2, 1) := by decide +kernel
theorem dX6_plainValue_23 : decode cX6_plainValue 23 = .ok (.iconst 4, 1) := by decide +kernel
theorem dX6_plainValue_24 : decode cX6_plainValue 24 = .ok (.if_icmp .ge 41, 3) := by decide +kernel
theorem dX6_plainValue_27 : decode cX6_plainValue 27 = .ok (.aload_n 0, 1) := by decide +kernel
theorem dX6_plainValue_28 : decode cX6_plainValue 28 = .ok (.getfield 41, 3) := by decide +kernel
theorem dX6_plainValue_31 : decode cX6_plainValue 31 = .ok (.aload_n 0, 1) := by decide +kernel
theorem dX6_plainValue_32 : decode cX6_plainValue 32 = .ok (.getfield 49, 3) := by decide +kernel
theorem dX6_plainValue_35 : decode cX6_plainValue 35 = .ok (.iload_n 2, 1) := by decide +kernel
theorem dX6_plainValue_36 : decode cX6_plainValue 36 = .ok (.invokevirtual 171, 3) := by decide +kernel
theorem dX6_plainValue_39 : decode cX6_plainValue 39 = .ok (.ifCond .eq 20, 3) := by decide +kernel
theorem dX6_plainValue_42 : decode cX6_plainValue 42 = .ok (.aload_n 0, 1) := by decide +kernel
theorem dX6_plainValue_43 : decode cX6_plainValue 43 = .ok (.iload_n 1, 1) := by decide +kernel
theorem dX6_plainValue_44 : decode cX6_plainValue 44 = .ok (.iload_n 2, 1) := by decide +kernel
theorem dX6_plainValue_45 : decode cX6_plainValue 45 = .ok (.invokevirtual 177, 3) := by decide +kernel
theorem dX6_plainValue_48 : decode cX6_plainValue 48 = .ok (.aload_n 0, 1) := by decide +kernel
theorem dX6_plainValue_49 : decode cX6_plainValue 49 = .ok (.getfield 22, 3) := by decide +kernel
theorem dX6_plainValue_52 : decode cX6_plainValue 52 = .ok (.iload_n 2, 1) := by decide +kernel
theorem dX6_plainValue_53 : decode cX6_plainValue 53 = .ok (.aload_n 0, 1) := by decide +kernel
theorem dX6_plainValue_54 : decode cX6_plainValue 54 = .ok (.iload_n 2, 1) := by decide +kernel
theorem dX6_plainValue_55 : decode cX6_plainValue 55 = .ok (.invokevirtual 181, 3) := by decide +kernel
theorem dX6_plainValue_58 : decode cX6_plainValue 58 = .ok (.lastore, 1) := by decide +kernel
theorem dX6_plainValue_59 : decode cX6_plainValue 59 = .ok (.iinc 2 1, 3) := by decide +kernel
theorem dX6_plainValue_62 : decode cX6_plainValue 62 = .ok (.goto (-48), 3) := by decide +kernel
theorem dX6_plainValue_65 : decode cX6_plainValue 65 = .ok (.aload_n 0, 1) := by decide +kernel
theorem dX6_plainValue_66 : decode cX6_plainValue 66 = .ok (.getfield 41, 3) := by decide +kernel
theorem dX6_plainValue_69 : decode cX6_plainValue 69 = .ok (.aload_n 0, 1) := by decide +kernel
theorem dX6_plainValue_70 : decode cX6_plainValue 70 = .ok (.getfield 49, 3) := by decide +kernel
theorem dX6_plainValue_73 : decode cX6_plainValue 73 = .ok (.invokevirtual 184, 3) := by decide +kernel
theorem dX6_plainValue_76 : decode cX6_plainValue 76 = .ok (.ifCond .eq 15, 3) := by decide +kernel
theorem dX6_plainValue_79 : decode cX6_plainValue 79 = .ok (.aload_n 0, 1) := by decide +kernel
theorem dX6_plainValue_80 : decode cX6_plainValue 80 = .ok (.getfield 22, 3) := by decide +kernel
theorem dX6_plainValue_83 : decode cX6_plainValue 83 = .ok (.aload_n 0, 1) := by decide +kernel
theorem dX6_plainValue_84 : decode cX6_plainValue 84 = .ok (.getfield 49, 3) := by decide +kernel
theorem dX6_plainValue_87 : decode cX6_plainValue 87 = .ok (.laload, 1) := by decide +kernel
theorem dX6_plainValue_88 : decode cX6_plainValue 88 = .ok (.goto 6, 3) := by decide +kernel
theorem dX6_plainValue_91 : decode cX6_plainValue 91 = .ok (.ldc2_w 66, 3) := by decide +kernel
theorem dX6_plainValue_94 : decode cX6_plainValue 94 = .ok (.lreturn, 1) := by decide +kernel
theorem dX6_meansNothing_0 : decode cX6_meansNothing 0 = .ok (.iconst 0, 1) := by decide +kernel
theorem dX6_meansNothing_1 : decode cX6_meansNothing 1 = .ok (.istore_n 2, 1) := by decide +kernel
theorem dX6_meansNothing_2 : decode cX6_meansNothing 2 = .ok (.iload_n 2, 1) := by decide +kernel
theorem dX6_meansNothing_3 : decode cX6_meansNothing 3 = .ok (.iconst 3, 1) := by decide +kernel
theorem dX6_meansNothing_4 : decode cX6_meansNothing 4 = .ok (.if_icmp .ge 57, 3) := by decide +kernel
theorem dX6_meansNothing_7 : decode cX6_meansNothing 7 = .ok (.aload_n 0, 1) := by decide +kernel
theorem dX6_meansNothing_8 : decode cX6_meansNothing 8 = .ok (.getfield 37, 3) := by decide +kernel
theorem dX6_meansNothing_11 : decode cX6_meansNothing 11 = .ok (.iload_n 2, 1) := by decide +kernel
theorem dX6_meansNothing_12 : decode cX6_meansNothing 12 = .ok (.invokevirtual 80, 3) := by decide +kernel
theorem dX6_meansNothing_15 : decode cX6_meansNothing 15 = .ok (.astore_n 3, 1) := by decide +kernel
theorem dX6_meansNothing_16 : decode cX6_meansNothing 16 = .ok (.iload_n 1, 1) := by decide +kernel
theorem dX6_meansNothing_17 : decode cX6_meansNothing 17 = .ok (.iload_n 2, 1) := by decide +kernel
theorem dX6_meansNothing_18 : decode cX6_meansNothing 18 = .ok (.invokestatic 84, 3) := by decide +kernel
theorem dX6_meansNothing_21 : decode cX6_meansNothing 21 = .ok (.istore 4, 2) := by decide +kernel
theorem dX6_meansNothing_23 : decode cX6_meansNothing 23 = .ok (.aload_n 3, 1) := by decide +kernel
theorem dX6_meansNothing_24 : decode cX6_meansNothing 24 = .ok (.iload 4, 2) := by decide +kernel
theorem dX6_meansNothing_26 : decode cX6_meansNothing 26 = .ok (.invokevirtual 126, 3) := by decide +kernel
theorem dX6_meansNothing_29 : decode cX6_meansNothing 29 = .ok (.ifCond .eq 26, 3) := by decide +kernel
theorem dX6_meansNothing_32 : decode cX6_meansNothing 32 = .ok (.aload_n 3, 1) := by decide +kernel
theorem dX6_meansNothing_33 : decode cX6_meansNothing 33 = .ok (.iload 4, 2) := by decide +kernel
theorem dX6_meansNothing_35 : decode cX6_meansNothing 35 = .ok (.invokevirtual 187, 3) := by decide +kernel
theorem dX6_meansNothing_38 : decode cX6_meansNothing 38 = .ok (.aload_n 0, 1) := by decide +kernel
theorem dX6_meansNothing_39 : decode cX6_meansNothing 39 = .ok (.getfield 41, 3) := by decide +kernel
theorem dX6_meansNothing_42 : decode cX6_meansNothing 42 = .ok (.aload_n 0, 1) := by decide +kernel
theorem dX6_meansNothing_43 : decode cX6_meansNothing 43 = .ok (.getfield 49, 3) := by decide +kernel
theorem dX6_meansNothing_46 : decode cX6_meansNothing 46 = .ok (.iload_n 2, 1) := by decide +kernel
theorem dX6_meansNothing_47 : decode cX6_meansNothing 47 = .ok (.invokevirtual 190, 3) := by decide +kernel
theorem dX6_meansNothing_50 : decode cX6_meansNothing 50 = .ok (.if_icmp .ge 5, 3) := by decide +kernel
theorem dX6_meansNothing_53 : decode cX6_meansNothing 53 = .ok (.iconst 1, 1) := by decide +kernel
theorem dX6_meansNothing_54 : decode cX6_meansNothing 54 = .ok (.ireturn, 1) := by decide +kernel
theorem dX6_meansNothing_55 : decode cX6_meansNothing 55 = .ok (.iinc 2 1, 3) := by decide +kernel
theorem dX6_meansNothing_58 : decode cX6_meansNothing 58 = .ok (.goto (-56), 3) := by decide +kernel
theorem dX6_meansNothing_61 : decode cX6_meansNothing 61 = .ok (.iconst 0, 1) := by decide +kernel
theorem dX6_meansNothing_62 : decode cX6_meansNothing 62 = .ok (.ireturn, 1) := by decide +kernel
theorem dX6_ofGathered_0 : decode cX6_ofGathered 0 = .ok (.aload_n 0, 1) := by decide +kernel
theorem dX6_ofGathered_1 : decode cX6_ofGathered 1 = .ok (.getfield 41, 3) := by decide +kernel
theorem dX6_ofGathered_4 : decode cX6_ofGathered 4 = .ok (.iload_n 1, 1) := by decide +kernel
theorem dX6_ofGathered_5 : decode cX6_ofGathered 5 = .ok (.invokevirtual 193, 3) := by decide +kernel
theorem dX6_ofGathered_8 : decode cX6_ofGathered 8 = .ok (.istore_n 2, 1) := by decide +kernel
theorem dX6_ofGathered_9 : decode cX6_ofGathered 9 = .ok (.iload_n 2, 1) := by decide +kernel
theorem dX6_ofGathered_10 : decode cX6_ofGathered 10 = .ok (.iconst 3, 1) := by decide +kernel
theorem dX6_ofGathered_11 : decode cX6_ofGathered 11 = .ok (.if_icmp .ne 35, 3) := by decide +kernel
theorem dX6_ofGathered_14 : decode cX6_ofGathered 14 = .ok (.aload_n 0, 1) := by decide +kernel
theorem dX6_ofGathered_15 : decode cX6_ofGathered 15 = .ok (.getfield 22, 3) := by decide +kernel
theorem dX6_ofGathered_18 : decode cX6_ofGathered 18 = .ok (.aload_n 0, 1) := by decide +kernel
theorem dX6_ofGathered_19 : decode cX6_ofGathered 19 = .ok (.getfield 41, 3) := by decide +kernel
theorem dX6_ofGathered_22 : decode cX6_ofGathered 22 = .ok (.getfield 196, 3) := by decide +kernel
theorem dX6_ofGathered_25 : decode cX6_ofGathered 25 = .ok (.iload_n 1, 1) := by decide +kernel
theorem dX6_ofGathered_26 : decode cX6_ofGathered 26 = .ok (.iaload, 1) := by decide +kernel
theorem dX6_ofGathered_27 : decode cX6_ofGathered 27 = .ok (.laload, 1) := by decide +kernel
theorem dX6_ofGathered_28 : decode cX6_ofGathered 28 = .ok (.aload_n 0, 1) := by decide +kernel
theorem dX6_ofGathered_29 : decode cX6_ofGathered 29 = .ok (.getfield 22, 3) := by decide +kernel
theorem dX6_ofGathered_32 : decode cX6_ofGathered 32 = .ok (.aload_n 0, 1) := by decide +kernel
theorem dX6_ofGathered_33 : decode cX6_ofGathered 33 = .ok (.getfield 41, 3) := by decide +kernel
theorem dX6_ofGathered_36 : decode cX6_ofGathered 36 = .ok (.getfield 199, 3) := by decide +kernel
theorem dX6_ofGathered_39 : decode cX6_ofGathered 39 = .ok (.iload_n 1, 1) := by decide +kernel
theorem dX6_ofGathered_40 : decode cX6_ofGathered 40 = .ok (.iaload, 1) := by decide +kernel
theorem dX6_ofGathered_41 : decode cX6_ofGathered 41 = .ok (.laload, 1) := by decide +kernel
theorem dX6_ofGathered_42 : decode cX6_ofGathered 42 = .ok (.invokestatic 150, 3) := by decide +kernel
theorem dX6_ofGathered_45 : decode cX6_ofGathered 45 = .ok (.lreturn, 1) := by decide +kernel
theorem dX6_ofGathered_46 : decode cX6_ofGathered 46 = .ok (.aload_n 0, 1) := by decide +kernel
theorem dX6_ofGathered_47 : decode cX6_ofGathered 47 = .ok (.getfield 202, 3) := by decide +kernel
theorem dX6_ofGathered_50 : decode cX6_ofGathered 50 = .ok (.ifCond .ne 7, 3) := by decide +kernel
theorem dX6_ofGathered_53 : decode cX6_ofGathered 53 = .ok (.ldc2_w 66, 3) := by decide +kernel
theorem dX6_ofGathered_56 : decode cX6_ofGathered 56 = .ok (.lreturn, 1) := by decide +kernel
theorem dX6_ofGathered_57 : decode cX6_ofGathered 57 = .ok (.iload_n 2, 1) := by decide +kernel
theorem dX6_ofGathered_58 : decode cX6_ofGathered 58 = .ok (.iconst 2, 1) := by decide +kernel
theorem dX6_ofGathered_59 : decode cX6_ofGathered 59 = .ok (.if_icmp .ne 8, 3) := by decide +kernel
theorem dX6_ofGathered_62 : decode cX6_ofGathered 62 = .ok (.aload_n 0, 1) := by decide +kernel
theorem dX6_ofGathered_63 : decode cX6_ofGathered 63 = .ok (.invokevirtual 205, 3) := by decide +kernel
theorem dX6_ofGathered_66 : decode cX6_ofGathered 66 = .ok (.lreturn, 1) := by decide +kernel
theorem dX6_ofGathered_67 : decode cX6_ofGathered 67 = .ok (.iload_n 2, 1) := by decide +kernel
theorem dX6_ofGathered_68 : decode cX6_ofGathered 68 = .ok (.iconst 1, 1) := by decide +kernel
theorem dX6_ofGathered_69 : decode cX6_ofGathered 69 = .ok (.if_icmp .ne 14, 3) := by decide +kernel
theorem dX6_ofGathered_72 : decode cX6_ofGathered 72 = .ok (.aload_n 0, 1) := by decide +kernel
theorem dX6_ofGathered_73 : decode cX6_ofGathered 73 = .ok (.aload_n 0, 1) := by decide +kernel
theorem dX6_ofGathered_74 : decode cX6_ofGathered 74 = .ok (.invokevirtual 209, 3) := by decide +kernel
theorem dX6_ofGathered_77 : decode cX6_ofGathered 77 = .ok (.invokevirtual 213, 3) := by decide +kernel
theorem dX6_ofGathered_80 : decode cX6_ofGathered 80 = .ok (.goto 8, 3) := by decide +kernel
theorem dX6_ofGathered_83 : decode cX6_ofGathered 83 = .ok (.aload_n 0, 1) := by decide +kernel
theorem dX6_ofGathered_84 : decode cX6_ofGathered 84 = .ok (.iconst (-1), 1) := by decide +kernel
theorem dX6_ofGathered_85 : decode cX6_ofGathered 85 = .ok (.invokevirtual 213, 3) := by decide +kernel
theorem dX6_ofGathered_88 : decode cX6_ofGathered 88 = .ok (.lreturn, 1) := by decide +kernel
theorem dX6_gather_0 : decode cX6_gather 0 = .ok (.aload_n 0, 1) := by decide +kernel
theorem dX6_gather_1 : decode cX6_gather 1 = .ok (.iconst 0, 1) := by decide +kernel
theorem dX6_gather_2 : decode cX6_gather 2 = .ok (.putfield 202, 3) := by decide +kernel
theorem dX6_gather_5 : decode cX6_gather 5 = .ok (.iconst 0, 1) := by decide +kernel
theorem dX6_gather_6 : decode cX6_gather 6 = .ok (.istore_n 3, 1) := by decide +kernel
theorem dX6_gather_7 : decode cX6_gather 7 = .ok (.iload_n 3, 1) := by decide +kernel
theorem dX6_gather_8 : decode cX6_gather 8 = .ok (.aload_n 0, 1) := by decide +kernel
theorem dX6_gather_9 : decode cX6_gather 9 = .ok (.getfield 45, 3) := by decide +kernel
theorem dX6_gather_12 : decode cX6_gather 12 = .ok (.getfield 216, 3) := by decide +kernel
theorem dX6_gather_15 : decode cX6_gather 15 = .ok (.if_icmp .ge 110, 3) := by decide +kernel
theorem dX6_gather_18 : decode cX6_gather 18 = .ok (.aload_n 0, 1) := by decide +kernel
theorem dX6_gather_19 : decode cX6_gather 19 = .ok (.getfield 45, 3) := by decide +kernel
theorem dX6_gather_22 : decode cX6_gather 22 = .ok (.iload_n 3, 1) := by decide +kernel
theorem dX6_gather_23 : decode cX6_gather 23 = .ok (.invokevirtual 219, 3) := by decide +kernel
theorem dX6_gather_26 : decode cX6_gather 26 = .ok (.iload_n 2, 1) := by decide +kernel
theorem dX6_gather_27 : decode cX6_gather 27 = .ok (.if_icmp .ne 22, 3) := by decide +kernel
theorem dX6_gather_30 : decode cX6_gather 30 = .ok (.aload_n 0, 1) := by decide +kernel
theorem dX6_gather_31 : decode cX6_gather 31 = .ok (.getfield 37, 3) := by decide +kernel
theorem dX6_gather_34 : decode cX6_gather 34 = .ok (.aload_n 0, 1) := by decide +kernel
theorem dX6_gather_35 : decode cX6_gather 35 = .ok (.getfield 45, 3) := by decide +kernel
theorem dX6_gather_38 : decode cX6_gather 38 = .ok (.iload_n 3, 1) := by decide +kernel
theorem dX6_gather_39 : decode cX6_gather 39 = .ok (.invokevirtual 222, 3) := by decide +kernel
theorem dX6_gather_42 : decode cX6_gather 42 = .ok (.iload_n 1, 1) := by decide +kernel
theorem dX6_gather_43 : decode cX6_gather 43 = .ok (.invokevirtual 225, 3) := by decide +kernel
theorem dX6_gather_46 : decode cX6_gather 46 = .ok (.goto 4, 3) := by decide +kernel
theorem dX6_gather_49 : decode cX6_gather 49 = .ok (.iconst 0, 1) := by decide +kernel
theorem dX6_gather_50 : decode cX6_gather 50 = .ok (.istore 4, 2) := by decide +kernel
theorem dX6_gather_52 : decode cX6_gather 52 = .ok (.iload 4, 2) := by decide +kernel
theorem dX6_gather_54 : decode cX6_gather 54 = .ok (.ifCond .eq 65, 3) := by decide +kernel
theorem dX6_gather_57 : decode cX6_gather 57 = .ok (.aload_n 0, 1) := by decide +kernel
theorem dX6_gather_58 : decode cX6_gather 58 = .ok (.getfield 25, 3) := by decide +kernel
theorem dX6_gather_61 : decode cX6_gather 61 = .ok (.aload_n 0, 1) := by decide +kernel
theorem dX6_gather_62 : decode cX6_gather 62 = .ok (.getfield 202, 3) := by decide +kernel
theorem dX6_gather_65 : decode cX6_gather 65 = .ok (.iload_n 3, 1) := by decide +kernel
theorem dX6_gather_66 : decode cX6_gather 66 = .ok (.iastore, 1) := by decide +kernel
theorem dX6_gather_67 : decode cX6_gather 67 = .ok (.aload_n 0, 1) := by decide +kernel
theorem dX6_gather_68 : decode cX6_gather 68 = .ok (.getfield 28, 3) := by decide +kernel
theorem dX6_gather_71 : decode cX6_gather 71 = .ok (.aload_n 0, 1) := by decide +kernel
theorem dX6_gather_72 : decode cX6_gather 72 = .ok (.getfield 202, 3) := by decide +kernel
theorem dX6_gather_75 : decode cX6_gather 75 = .ok (.iload 4, 2) := by decide +kernel
theorem dX6_gather_77 : decode cX6_gather 77 = .ok (.iastore, 1) := by decide +kernel
theorem dX6_gather_78 : decode cX6_gather 78 = .ok (.aload_n 0, 1) := by decide +kernel
theorem dX6_gather_79 : decode cX6_gather 79 = .ok (.getfield 31, 3) := by decide +kernel
theorem dX6_gather_82 : decode cX6_gather 82 = .ok (.aload_n 0, 1) := by decide +kernel
theorem dX6_gather_83 : decode cX6_gather 83 = .ok (.getfield 202, 3) := by decide +kernel
theorem dX6_gather_86 : decode cX6_gather 86 = .ok (.aload_n 0, 1) := by decide +kernel
theorem dX6_gather_87 : decode cX6_gather 87 = .ok (.getfield 37, 3) := by decide +kernel
theorem dX6_gather_90 : decode cX6_gather 90 = .ok (.getfield 129, 3) := by decide +kernel
theorem dX6_gather_93 : decode cX6_gather 93 = .ok (.aload_n 0, 1) := by decide +kernel
theorem dX6_gather_94 : decode cX6_gather 94 = .ok (.getfield 45, 3) := by decide +kernel
theorem dX6_gather_97 : decode cX6_gather 97 = .ok (.iload_n 3, 1) := by decide +kernel
theorem dX6_gather_98 : decode cX6_gather 98 = .ok (.invokevirtual 222, 3) := by decide +kernel
theorem dX6_gather_101 : decode cX6_gather 101 = .ok (.iconst 0, 1) := by decide +kernel
theorem dX6_gather_102 : decode cX6_gather 102 = .ok (.invokestatic 84, 3) := by decide +kernel
theorem dX6_gather_105 : decode cX6_gather 105 = .ok (.invokevirtual 228, 3) := by decide +kernel
theorem dX6_gather_108 : decode cX6_gather 108 = .ok (.iastore, 1) := by decide +kernel
theorem dX6_gather_109 : decode cX6_gather 109 = .ok (.aload_n 0, 1) := by decide +kernel
theorem dX6_gather_110 : decode cX6_gather 110 = .ok (.dup, 1) := by decide +kernel
theorem dX6_gather_111 : decode cX6_gather 111 = .ok (.getfield 202, 3) := by decide +kernel
theorem dX6_gather_114 : decode cX6_gather 114 = .ok (.iconst 1, 1) := by decide +kernel
theorem dX6_gather_115 : decode cX6_gather 115 = .ok (.iadd, 1) := by decide +kernel
theorem dX6_gather_116 : decode cX6_gather 116 = .ok (.putfield 202, 3) := by decide +kernel
theorem dX6_gather_119 : decode cX6_gather 119 = .ok (.iinc 3 1, 3) := by decide +kernel
theorem dX6_gather_122 : decode cX6_gather 122 = .ok (.goto (-115), 3) := by decide +kernel
theorem dX6_gather_125 : decode cX6_gather 125 = .ok (.return_, 1) := by decide +kernel
theorem dX6_rowAt_0 : decode cX6_rowAt 0 = .ok (.iload_n 1, 1) := by decide +kernel
theorem dX6_rowAt_1 : decode cX6_rowAt 1 = .ok (.ifCond .lt 26, 3) := by decide +kernel
theorem dX6_rowAt_4 : decode cX6_rowAt 4 = .ok (.iload_n 1, 1) := by decide +kernel
theorem dX6_rowAt_5 : decode cX6_rowAt 5 = .ok (.aload_n 0, 1) := by decide +kernel
theorem dX6_rowAt_6 : decode cX6_rowAt 6 = .ok (.getfield 202, 3) := by decide +kernel
theorem dX6_rowAt_9 : decode cX6_rowAt 9 = .ok (.if_icmp .ge 18, 3) := by decide +kernel
theorem dX6_rowAt_12 : decode cX6_rowAt 12 = .ok (.iload_n 1, 1) := by decide +kernel
theorem dX6_rowAt_13 : decode cX6_rowAt 13 = .ok (.bipush 50, 2) := by decide +kernel
theorem dX6_rowAt_15 : decode cX6_rowAt 15 = .ok (.if_icmp .ge 12, 3) := by decide +kernel
theorem dX6_rowAt_18 : decode cX6_rowAt 18 = .ok (.aload_n 0, 1) := by decide +kernel
theorem dX6_rowAt_19 : decode cX6_rowAt 19 = .ok (.getfield 25, 3) := by decide +kernel
theorem dX6_rowAt_22 : decode cX6_rowAt 22 = .ok (.iload_n 1, 1) := by decide +kernel
theorem dX6_rowAt_23 : decode cX6_rowAt 23 = .ok (.iaload, 1) := by decide +kernel
theorem dX6_rowAt_24 : decode cX6_rowAt 24 = .ok (.goto 4, 3) := by decide +kernel
theorem dX6_rowAt_27 : decode cX6_rowAt 27 = .ok (.iconst (-1), 1) := by decide +kernel
theorem dX6_rowAt_28 : decode cX6_rowAt 28 = .ok (.ireturn, 1) := by decide +kernel
theorem dX6_allWeighOne_0 : decode cX6_allWeighOne 0 = .ok (.iconst 0, 1) := by decide +kernel
theorem dX6_allWeighOne_1 : decode cX6_allWeighOne 1 = .ok (.istore_n 1, 1) := by decide +kernel
theorem dX6_allWeighOne_2 : decode cX6_allWeighOne 2 = .ok (.iload_n 1, 1) := by decide +kernel
theorem dX6_allWeighOne_3 : decode cX6_allWeighOne 3 = .ok (.aload_n 0, 1) := by decide +kernel
theorem dX6_allWeighOne_4 : decode cX6_allWeighOne 4 = .ok (.getfield 202, 3) := by decide +kernel
theorem dX6_allWeighOne_7 : decode cX6_allWeighOne 7 = .ok (.if_icmp .ge 21, 3) := by decide +kernel
theorem dX6_allWeighOne_10 : decode cX6_allWeighOne 10 = .ok (.aload_n 0, 1) := by decide +kernel
theorem dX6_allWeighOne_11 : decode cX6_allWeighOne 11 = .ok (.getfield 28, 3) := by decide +kernel
theorem dX6_allWeighOne_14 : decode cX6_allWeighOne 14 = .ok (.iload_n 1, 1) := by decide +kernel
theorem dX6_allWeighOne_15 : decode cX6_allWeighOne 15 = .ok (.iaload, 1) := by decide +kernel
theorem dX6_allWeighOne_16 : decode cX6_allWeighOne 16 = .ok (.iconst 1, 1) := by decide +kernel
theorem dX6_allWeighOne_17 : decode cX6_allWeighOne 17 = .ok (.if_icmp .eq 5, 3) := by decide +kernel
theorem dX6_allWeighOne_20 : decode cX6_allWeighOne 20 = .ok (.iconst 0, 1) := by decide +kernel
theorem dX6_allWeighOne_21 : decode cX6_allWeighOne 21 = .ok (.ireturn, 1) := by decide +kernel
theorem dX6_allWeighOne_22 : decode cX6_allWeighOne 22 = .ok (.iinc 1 1, 3) := by decide +kernel
theorem dX6_allWeighOne_25 : decode cX6_allWeighOne 25 = .ok (.goto (-23), 3) := by decide +kernel
theorem dX6_allWeighOne_28 : decode cX6_allWeighOne 28 = .ok (.iconst 1, 1) := by decide +kernel
theorem dX6_allWeighOne_29 : decode cX6_allWeighOne 29 = .ok (.ireturn, 1) := by decide +kernel
theorem dX6_lastPlace_0 : decode cX6_lastPlace 0 = .ok (.iconst (-1), 1) := by decide +kernel
theorem dX6_lastPlace_1 : decode cX6_lastPlace 1 = .ok (.istore_n 1, 1) := by decide +kernel
theorem dX6_lastPlace_2 : decode cX6_lastPlace 2 = .ok (.iconst 0, 1) := by decide +kernel
theorem dX6_lastPlace_3 : decode cX6_lastPlace 3 = .ok (.istore_n 2, 1) := by decide +kernel
theorem dX6_lastPlace_4 : decode cX6_lastPlace 4 = .ok (.iload_n 2, 1) := by decide +kernel
theorem dX6_lastPlace_5 : decode cX6_lastPlace 5 = .ok (.aload_n 0, 1) := by decide +kernel
theorem dX6_lastPlace_6 : decode cX6_lastPlace 6 = .ok (.getfield 202, 3) := by decide +kernel
theorem dX6_lastPlace_9 : decode cX6_lastPlace 9 = .ok (.if_icmp .ge 20, 3) := by decide +kernel
theorem dX6_lastPlace_12 : decode cX6_lastPlace 12 = .ok (.iload_n 1, 1) := by decide +kernel
theorem dX6_lastPlace_13 : decode cX6_lastPlace 13 = .ok (.aload_n 0, 1) := by decide +kernel
theorem dX6_lastPlace_14 : decode cX6_lastPlace 14 = .ok (.getfield 31, 3) := by decide +kernel
theorem dX6_lastPlace_17 : decode cX6_lastPlace 17 = .ok (.iload_n 2, 1) := by decide +kernel
theorem dX6_lastPlace_18 : decode cX6_lastPlace 18 = .ok (.iaload, 1) := by decide +kernel
theorem dX6_lastPlace_19 : decode cX6_lastPlace 19 = .ok (.invokestatic 231, 3) := by decide +kernel
theorem dX6_lastPlace_22 : decode cX6_lastPlace 22 = .ok (.istore_n 1, 1) := by decide +kernel
theorem dX6_lastPlace_23 : decode cX6_lastPlace 23 = .ok (.iinc 2 1, 3) := by decide +kernel
theorem dX6_lastPlace_26 : decode cX6_lastPlace 26 = .ok (.goto (-22), 3) := by decide +kernel
theorem dX6_lastPlace_29 : decode cX6_lastPlace 29 = .ok (.iload_n 1, 1) := by decide +kernel
theorem dX6_lastPlace_30 : decode cX6_lastPlace 30 = .ok (.ireturn, 1) := by decide +kernel
theorem dX6_sum_0 : decode cX6_sum 0 = .ok (.lconst 0, 1) := by decide +kernel
theorem dX6_sum_1 : decode cX6_sum 1 = .ok (.lstore_n 2, 1) := by decide +kernel
theorem dX6_sum_2 : decode cX6_sum 2 = .ok (.iconst 0, 1) := by decide +kernel
theorem dX6_sum_3 : decode cX6_sum 3 = .ok (.istore 4, 2) := by decide +kernel
theorem dX6_sum_5 : decode cX6_sum 5 = .ok (.iload 4, 2) := by decide +kernel
theorem dX6_sum_7 : decode cX6_sum 7 = .ok (.aload_n 0, 1) := by decide +kernel
theorem dX6_sum_8 : decode cX6_sum 8 = .ok (.getfield 202, 3) := by decide +kernel
theorem dX6_sum_11 : decode cX6_sum 11 = .ok (.if_icmp .ge 52, 3) := by decide +kernel
theorem dX6_sum_14 : decode cX6_sum 14 = .ok (.iload_n 1, 1) := by decide +kernel
theorem dX6_sum_15 : decode cX6_sum 15 = .ok (.iconst (-1), 1) := by decide +kernel
theorem dX6_sum_16 : decode cX6_sum 16 = .ok (.if_icmp .eq 14, 3) := by decide +kernel
theorem dX6_sum_19 : decode cX6_sum 19 = .ok (.aload_n 0, 1) := by decide +kernel
theorem dX6_sum_20 : decode cX6_sum 20 = .ok (.getfield 31, 3) := by decide +kernel
theorem dX6_sum_23 : decode cX6_sum 23 = .ok (.iload 4, 2) := by decide +kernel
theorem dX6_sum_25 : decode cX6_sum 25 = .ok (.iaload, 1) := by decide +kernel
theorem dX6_sum_26 : decode cX6_sum 26 = .ok (.iload_n 1, 1) := by decide +kernel
theorem dX6_sum_27 : decode cX6_sum 27 = .ok (.if_icmp .ne 30, 3) := by decide +kernel
theorem dX6_sum_30 : decode cX6_sum 30 = .ok (.lload_n 2, 1) := by decide +kernel
theorem dX6_sum_31 : decode cX6_sum 31 = .ok (.aload_n 0, 1) := by decide +kernel
theorem dX6_sum_32 : decode cX6_sum 32 = .ok (.getfield 28, 3) := by decide +kernel
theorem dX6_sum_35 : decode cX6_sum 35 = .ok (.iload 4, 2) := by decide +kernel
theorem dX6_sum_37 : decode cX6_sum 37 = .ok (.iaload, 1) := by decide +kernel
theorem dX6_sum_38 : decode cX6_sum 38 = .ok (.i2l, 1) := by decide +kernel
theorem dX6_sum_39 : decode cX6_sum 39 = .ok (.aload_n 0, 1) := by decide +kernel
theorem dX6_sum_40 : decode cX6_sum 40 = .ok (.getfield 45, 3) := by decide +kernel
theorem dX6_sum_43 : decode cX6_sum 43 = .ok (.aload_n 0, 1) := by decide +kernel
theorem dX6_sum_44 : decode cX6_sum 44 = .ok (.getfield 25, 3) := by decide +kernel
theorem dX6_sum_47 : decode cX6_sum 47 = .ok (.iload 4, 2) := by decide +kernel
theorem dX6_sum_49 : decode cX6_sum 49 = .ok (.iaload, 1) := by decide +kernel
theorem dX6_sum_50 : decode cX6_sum 50 = .ok (.invokevirtual 234, 3) := by decide +kernel
theorem dX6_sum_53 : decode cX6_sum 53 = .ok (.i2l, 1) := by decide +kernel
theorem dX6_sum_54 : decode cX6_sum 54 = .ok (.lmul, 1) := by decide +kernel
theorem dX6_sum_55 : decode cX6_sum 55 = .ok (.ladd, 1) := by decide +kernel
theorem dX6_sum_56 : decode cX6_sum 56 = .ok (.lstore_n 2, 1) := by decide +kernel
theorem dX6_sum_57 : decode cX6_sum 57 = .ok (.iinc 4 1, 3) := by decide +kernel
theorem dX6_sum_60 : decode cX6_sum 60 = .ok (.goto (-55), 3) := by decide +kernel
theorem dX6_sum_63 : decode cX6_sum 63 = .ok (.lload_n 2, 1) := by decide +kernel
theorem dX6_sum_64 : decode cX6_sum 64 = .ok (.lreturn, 1) := by decide +kernel
theorem dX6_different_0 : decode cX6_different 0 = .ok (.iconst 0, 1) := by decide +kernel
theorem dX6_different_1 : decode cX6_different 1 = .ok (.istore_n 1, 1) := by decide +kernel
theorem dX6_different_2 : decode cX6_different 2 = .ok (.iconst 0, 1) := by decide +kernel
theorem dX6_different_3 : decode cX6_different 3 = .ok (.istore_n 2, 1) := by decide +kernel
theorem dX6_different_4 : decode cX6_different 4 = .ok (.iload_n 2, 1) := by decide +kernel
theorem dX6_different_5 : decode cX6_different 5 = .ok (.aload_n 0, 1) := by decide +kernel
theorem dX6_different_6 : decode cX6_different 6 = .ok (.getfield 202, 3) := by decide +kernel
theorem dX6_different_9 : decode cX6_different 9 = .ok (.if_icmp .ge 73, 3) := by decide +kernel
theorem dX6_different_12 : decode cX6_different 12 = .ok (.iconst 1, 1) := by decide +kernel
theorem dX6_different_13 : decode cX6_different 13 = .ok (.istore_n 3, 1) := by decide +kernel
theorem dX6_different_14 : decode cX6_different 14 = .ok (.iconst 0, 1) := by decide +kernel
theorem dX6_different_15 : decode cX6_different 15 = .ok (.istore 4, 2) := by decide +kernel
theorem dX6_different_17 : decode cX6_different 17 = .ok (.iload 4, 2) := by decide +kernel
theorem dX6_different_19 : decode cX6_different 19 = .ok (.iload_n 2, 1) := by decide +kernel
theorem dX6_different_20 : decode cX6_different 20 = .ok (.if_icmp .ge 49, 3) := by decide +kernel
theorem dX6_different_23 : decode cX6_different 23 = .ok (.iload_n 3, 1) := by decide +kernel
theorem dX6_different_24 : decode cX6_different 24 = .ok (.ifCond .eq 45, 3) := by decide +kernel
theorem dX6_different_27 : decode cX6_different 27 = .ok (.aload_n 0, 1) := by decide +kernel
theorem dX6_different_28 : decode cX6_different 28 = .ok (.getfield 45, 3) := by decide +kernel
theorem dX6_different_31 : decode cX6_different 31 = .ok (.aload_n 0, 1) := by decide +kernel
theorem dX6_different_32 : decode cX6_different 32 = .ok (.getfield 25, 3) := by decide +kernel
theorem dX6_different_35 : decode cX6_different 35 = .ok (.iload 4, 2) := by decide +kernel
theorem dX6_different_37 : decode cX6_different 37 = .ok (.iaload, 1) := by decide +kernel
theorem dX6_different_38 : decode cX6_different 38 = .ok (.invokevirtual 234, 3) := by decide +kernel
theorem dX6_different_41 : decode cX6_different 41 = .ok (.aload_n 0, 1) := by decide +kernel
theorem dX6_different_42 : decode cX6_different 42 = .ok (.getfield 45, 3) := by decide +kernel
theorem dX6_different_45 : decode cX6_different 45 = .ok (.aload_n 0, 1) := by decide +kernel
theorem dX6_different_46 : decode cX6_different 46 = .ok (.getfield 25, 3) := by decide +kernel
theorem dX6_different_49 : decode cX6_different 49 = .ok (.iload_n 2, 1) := by decide +kernel
theorem dX6_different_50 : decode cX6_different 50 = .ok (.iaload, 1) := by decide +kernel
theorem dX6_different_51 : decode cX6_different 51 = .ok (.invokevirtual 234, 3) := by decide +kernel
theorem dX6_different_54 : decode cX6_different 54 = .ok (.if_icmp .eq 7, 3) := by decide +kernel
theorem dX6_different_57 : decode cX6_different 57 = .ok (.iconst 1, 1) := by decide +kernel
theorem dX6_different_58 : decode cX6_different 58 = .ok (.goto 4, 3) := by decide +kernel
theorem dX6_different_61 : decode cX6_different 61 = .ok (.iconst 0, 1) := by decide +kernel
theorem dX6_different_62 : decode cX6_different 62 = .ok (.istore_n 3, 1) := by decide +kernel
theorem dX6_different_63 : decode cX6_different 63 = .ok (.iinc 4 1, 3) := by decide +kernel
theorem dX6_different_66 : decode cX6_different 66 = .ok (.goto (-49), 3) := by decide +kernel
theorem dX6_different_69 : decode cX6_different 69 = .ok (.iload_n 3, 1) := by decide +kernel
theorem dX6_different_70 : decode cX6_different 70 = .ok (.ifCond .eq 6, 3) := by decide +kernel
theorem dX6_different_73 : decode cX6_different 73 = .ok (.iinc 1 1, 3) := by decide +kernel
theorem dX6_different_76 : decode cX6_different 76 = .ok (.iinc 2 1, 3) := by decide +kernel
theorem dX6_different_79 : decode cX6_different 79 = .ok (.goto (-75), 3) := by decide +kernel
theorem dX6_different_82 : decode cX6_different 82 = .ok (.iload_n 1, 1) := by decide +kernel
theorem dX6_different_83 : decode cX6_different 83 = .ok (.i2l, 1) := by decide +kernel
theorem dX6_different_84 : decode cX6_different 84 = .ok (.lreturn, 1) := by decide +kernel
theorem dX6_keepTop_0 : decode cX6_keepTop 0 = .ok (.aload_n 0, 1) := by decide +kernel
theorem dX6_keepTop_1 : decode cX6_keepTop 1 = .ok (.getfield 37, 3) := by decide +kernel
theorem dX6_keepTop_4 : decode cX6_keepTop 4 = .ok (.iload_n 1, 1) := by decide +kernel
theorem dX6_keepTop_5 : decode cX6_keepTop 5 = .ok (.invokevirtual 80, 3) := by decide +kernel
theorem dX6_keepTop_8 : decode cX6_keepTop 8 = .ok (.astore_n 3, 1) := by decide +kernel
theorem dX6_keepTop_9 : decode cX6_keepTop 9 = .ok (.aload_n 3, 1) := by decide +kernel
theorem dX6_keepTop_10 : decode cX6_keepTop 10 = .ok (.getfield 237, 3) := by decide +kernel
theorem dX6_keepTop_13 : decode cX6_keepTop 13 = .ok (.istore 4, 2) := by decide +kernel
theorem dX6_keepTop_15 : decode cX6_keepTop 15 = .ok (.iconst 0, 1) := by decide +kernel
theorem dX6_keepTop_16 : decode cX6_keepTop 16 = .ok (.istore 5, 2) := by decide +kernel
theorem dX6_keepTop_18 : decode cX6_keepTop 18 = .ok (.iconst 0, 1) := by decide +kernel
theorem dX6_keepTop_19 : decode cX6_keepTop 19 = .ok (.istore 6, 2) := by decide +kernel
theorem dX6_keepTop_21 : decode cX6_keepTop 21 = .ok (.iload 6, 2) := by decide +kernel
theorem dX6_keepTop_23 : decode cX6_keepTop 23 = .ok (.iload 4, 2) := by decide +kernel
theorem dX6_keepTop_25 : decode cX6_keepTop 25 = .ok (.if_icmp .ge 89, 3) := by decide +kernel
theorem dX6_keepTop_28 : decode cX6_keepTop 28 = .ok (.iload 5, 2) := by decide +kernel
theorem dX6_keepTop_30 : decode cX6_keepTop 30 = .ok (.bipush 12, 2) := by decide +kernel
theorem dX6_keepTop_32 : decode cX6_keepTop 32 = .ok (.if_icmp .ge 82, 3) := by decide +kernel
theorem dX6_keepTop_35 : decode cX6_keepTop 35 = .ok (.aload_n 3, 1) := by decide +kernel
theorem dX6_keepTop_36 : decode cX6_keepTop 36 = .ok (.iload 6, 2) := by decide +kernel
theorem dX6_keepTop_38 : decode cX6_keepTop 38 = .ok (.invokevirtual 240, 3) := by decide +kernel
theorem dX6_keepTop_41 : decode cX6_keepTop 41 = .ok (.istore 7, 2) := by decide +kernel
theorem dX6_keepTop_43 : decode cX6_keepTop 43 = .ok (.aload_n 0, 1) := by decide +kernel
theorem dX6_keepTop_44 : decode cX6_keepTop 44 = .ok (.getfield 37, 3) := by decide +kernel
theorem dX6_keepTop_47 : decode cX6_keepTop 47 = .ok (.invokevirtual 243, 3) := by decide +kernel
theorem dX6_keepTop_50 : decode cX6_keepTop 50 = .ok (.iload_n 1, 1) := by decide +kernel
theorem dX6_keepTop_51 : decode cX6_keepTop 51 = .ok (.iload 7, 2) := by decide +kernel
theorem dX6_keepTop_53 : decode cX6_keepTop 53 = .ok (.invokestatic 105, 3) := by decide +kernel
theorem dX6_keepTop_56 : decode cX6_keepTop 56 = .ok (.istore 8, 2) := by decide +kernel
theorem dX6_keepTop_58 : decode cX6_keepTop 58 = .ok (.aload_n 0, 1) := by decide +kernel
theorem dX6_keepTop_59 : decode cX6_keepTop 59 = .ok (.getfield 37, 3) := by decide +kernel
theorem dX6_keepTop_62 : decode cX6_keepTop 62 = .ok (.iload 8, 2) := by decide +kernel
theorem dX6_keepTop_64 : decode cX6_keepTop 64 = .ok (.invokevirtual 56, 3) := by decide +kernel
theorem dX6_keepTop_67 : decode cX6_keepTop 67 = .ok (.ifCond .eq 13, 3) := by decide +kernel
theorem dX6_keepTop_70 : decode cX6_keepTop 70 = .ok (.aload_n 0, 1) := by decide +kernel
theorem dX6_keepTop_71 : decode cX6_keepTop 71 = .ok (.iload 8, 2) := by decide +kernel
theorem dX6_keepTop_73 : decode cX6_keepTop 73 = .ok (.iconst 0, 1) := by decide +kernel
theorem dX6_keepTop_74 : decode cX6_keepTop 74 = .ok (.invokevirtual 62, 3) := by decide +kernel
theorem dX6_keepTop_77 : decode cX6_keepTop 77 = .ok (.goto 6, 3) := by decide +kernel
theorem dX6_keepTop_80 : decode cX6_keepTop 80 = .ok (.ldc2_w 66, 3) := by decide +kernel
theorem dX6_keepTop_83 : decode cX6_keepTop 83 = .ok (.lstore 9, 2) := by decide +kernel
theorem dX6_keepTop_85 : decode cX6_keepTop 85 = .ok (.lload 9, 2) := by decide +kernel
theorem dX6_keepTop_87 : decode cX6_keepTop 87 = .ok (.ldc2_w 66, 3) := by decide +kernel
theorem dX6_keepTop_90 : decode cX6_keepTop 90 = .ok (.lcmp, 1) := by decide +kernel
theorem dX6_keepTop_91 : decode cX6_keepTop 91 = .ok (.ifCond .eq 17, 3) := by decide +kernel
theorem dX6_keepTop_94 : decode cX6_keepTop 94 = .ok (.aload_n 0, 1) := by decide +kernel
theorem dX6_keepTop_95 : decode cX6_keepTop 95 = .ok (.aload_n 3, 1) := by decide +kernel
theorem dX6_keepTop_96 : decode cX6_keepTop 96 = .ok (.iload 5, 2) := by decide +kernel
theorem dX6_keepTop_98 : decode cX6_keepTop 98 = .ok (.iload 7, 2) := by decide +kernel
theorem dX6_keepTop_100 : decode cX6_keepTop 100 = .ok (.lload 9, 2) := by decide +kernel
theorem dX6_keepTop_102 : decode cX6_keepTop 102 = .ok (.invokevirtual 246, 3) := by decide +kernel
theorem dX6_keepTop_105 : decode cX6_keepTop 105 = .ok (.iinc 5 1, 3) := by decide +kernel
theorem dX6_keepTop_108 : decode cX6_keepTop 108 = .ok (.iinc 6 1, 3) := by decide +kernel
theorem dX6_keepTop_111 : decode cX6_keepTop 111 = .ok (.goto (-90), 3) := by decide +kernel
theorem dX6_keepTop_114 : decode cX6_keepTop 114 = .ok (.aload_n 3, 1) := by decide +kernel
theorem dX6_keepTop_115 : decode cX6_keepTop 115 = .ok (.iload 5, 2) := by decide +kernel
theorem dX6_keepTop_117 : decode cX6_keepTop 117 = .ok (.iload_n 2, 1) := by decide +kernel
theorem dX6_keepTop_118 : decode cX6_keepTop 118 = .ok (.invokestatic 250, 3) := by decide +kernel
theorem dX6_keepTop_121 : decode cX6_keepTop 121 = .ok (.putfield 237, 3) := by decide +kernel
theorem dX6_keepTop_124 : decode cX6_keepTop 124 = .ok (.return_, 1) := by decide +kernel
theorem dX6_rank_0 : decode cX6_rank 0 = .ok (.iload_n 2, 1) := by decide +kernel
theorem dX6_rank_1 : decode cX6_rank 1 = .ok (.istore 6, 2) := by decide +kernel
theorem dX6_rank_3 : decode cX6_rank 3 = .ok (.iload 6, 2) := by decide +kernel
theorem dX6_rank_5 : decode cX6_rank 5 = .ok (.ifCond .le 56, 3) := by decide +kernel
theorem dX6_rank_8 : decode cX6_rank 8 = .ok (.aload_n 0, 1) := by decide +kernel
theorem dX6_rank_9 : decode cX6_rank 9 = .ok (.getfield 34, 3) := by decide +kernel
theorem dX6_rank_12 : decode cX6_rank 12 = .ok (.iload 6, 2) := by decide +kernel
theorem dX6_rank_14 : decode cX6_rank 14 = .ok (.iconst 1, 1) := by decide +kernel
theorem dX6_rank_15 : decode cX6_rank 15 = .ok (.isub, 1) := by decide +kernel
theorem dX6_rank_16 : decode cX6_rank 16 = .ok (.laload, 1) := by decide +kernel
theorem dX6_rank_17 : decode cX6_rank 17 = .ok (.lload 4, 2) := by decide +kernel
theorem dX6_rank_19 : decode cX6_rank 19 = .ok (.lcmp, 1) := by decide +kernel
theorem dX6_rank_20 : decode cX6_rank 20 = .ok (.ifCond .ge 41, 3) := by decide +kernel
theorem dX6_rank_23 : decode cX6_rank 23 = .ok (.aload_n 0, 1) := by decide +kernel
theorem dX6_rank_24 : decode cX6_rank 24 = .ok (.getfield 34, 3) := by decide +kernel
theorem dX6_rank_27 : decode cX6_rank 27 = .ok (.iload 6, 2) := by decide +kernel
theorem dX6_rank_29 : decode cX6_rank 29 = .ok (.aload_n 0, 1) := by decide +kernel
theorem dX6_rank_30 : decode cX6_rank 30 = .ok (.getfield 34, 3) := by decide +kernel
theorem dX6_rank_33 : decode cX6_rank 33 = .ok (.iload 6, 2) := by decide +kernel
theorem dX6_rank_35 : decode cX6_rank 35 = .ok (.iconst 1, 1) := by decide +kernel
theorem dX6_rank_36 : decode cX6_rank 36 = .ok (.isub, 1) := by decide +kernel
theorem dX6_rank_37 : decode cX6_rank 37 = .ok (.laload, 1) := by decide +kernel
theorem dX6_rank_38 : decode cX6_rank 38 = .ok (.lastore, 1) := by decide +kernel
theorem dX6_rank_39 : decode cX6_rank 39 = .ok (.aload_n 1, 1) := by decide +kernel
theorem dX6_rank_40 : decode cX6_rank 40 = .ok (.getfield 253, 3) := by decide +kernel
theorem dX6_rank_43 : decode cX6_rank 43 = .ok (.iload 6, 2) := by decide +kernel
theorem dX6_rank_45 : decode cX6_rank 45 = .ok (.aload_n 1, 1) := by decide +kernel
theorem dX6_rank_46 : decode cX6_rank 46 = .ok (.getfield 253, 3) := by decide +kernel
theorem dX6_rank_49 : decode cX6_rank 49 = .ok (.iload 6, 2) := by decide +kernel
theorem dX6_rank_51 : decode cX6_rank 51 = .ok (.iconst 1, 1) := by decide +kernel
theorem dX6_rank_52 : decode cX6_rank 52 = .ok (.isub, 1) := by decide +kernel
theorem dX6_rank_53 : decode cX6_rank 53 = .ok (.iaload, 1) := by decide +kernel
theorem dX6_rank_54 : decode cX6_rank 54 = .ok (.iastore, 1) := by decide +kernel
theorem dX6_rank_55 : decode cX6_rank 55 = .ok (.iinc 6 (-1), 3) := by decide +kernel
theorem dX6_rank_58 : decode cX6_rank 58 = .ok (.goto (-55), 3) := by decide +kernel
theorem dX6_rank_61 : decode cX6_rank 61 = .ok (.aload_n 0, 1) := by decide +kernel
theorem dX6_rank_62 : decode cX6_rank 62 = .ok (.getfield 34, 3) := by decide +kernel
theorem dX6_rank_65 : decode cX6_rank 65 = .ok (.iload 6, 2) := by decide +kernel
theorem dX6_rank_67 : decode cX6_rank 67 = .ok (.lload 4, 2) := by decide +kernel
theorem dX6_rank_69 : decode cX6_rank 69 = .ok (.lastore, 1) := by decide +kernel
theorem dX6_rank_70 : decode cX6_rank 70 = .ok (.aload_n 1, 1) := by decide +kernel
theorem dX6_rank_71 : decode cX6_rank 71 = .ok (.getfield 253, 3) := by decide +kernel
theorem dX6_rank_74 : decode cX6_rank 74 = .ok (.iload 6, 2) := by decide +kernel
theorem dX6_rank_76 : decode cX6_rank 76 = .ok (.iload_n 3, 1) := by decide +kernel
theorem dX6_rank_77 : decode cX6_rank 77 = .ok (.iastore, 1) := by decide +kernel
theorem dX6_rank_78 : decode cX6_rank 78 = .ok (.return_, 1) := by decide +kernel
theorem dX7_init_0 : decode cX7_init 0 = .ok (.aload_n 0, 1) := by decide +kernel
theorem dX7_init_1 : decode cX7_init 1 = .ok (.invokespecial 3, 3) := by decide +kernel
theorem dX7_init_4 : decode cX7_init 4 = .ok (.aload_n 0, 1) := by decide +kernel
theorem dX7_init_5 : decode cX7_init 5 = .ok (.new 9, 3) := by decide +kernel
theorem dX7_init_8 : decode cX7_init 8 = .ok (.dup, 1) := by decide +kernel
theorem dX7_init_9 : decode cX7_init 9 = .ok (.invokespecial 11, 3) := by decide +kernel
theorem dX7_init_12 : decode cX7_init 12 = .ok (.putfield 12, 3) := by decide +kernel
theorem dX7_init_15 : decode cX7_init 15 = .ok (.aload_n 0, 1) := by decide +kernel
theorem dX7_init_16 : decode cX7_init 16 = .ok (.new 9, 3) := by decide +kernel
theorem dX7_init_19 : decode cX7_init 19 = .ok (.dup, 1) := by decide +kernel
theorem dX7_init_20 : decode cX7_init 20 = .ok (.invokespecial 11, 3) := by decide +kernel
theorem dX7_init_23 : decode cX7_init 23 = .ok (.putfield 18, 3) := by decide +kernel
theorem dX7_init_26 : decode cX7_init 26 = .ok (.aload_n 0, 1) := by decide +kernel
theorem dX7_init_27 : decode cX7_init 27 = .ok (.new 9, 3) := by decide +kernel
theorem dX7_init_30 : decode cX7_init 30 = .ok (.dup, 1) := by decide +kernel
theorem dX7_init_31 : decode cX7_init 31 = .ok (.invokespecial 11, 3) := by decide +kernel
theorem dX7_init_34 : decode cX7_init 34 = .ok (.putfield 21, 3) := by decide +kernel
theorem dX7_init_37 : decode cX7_init 37 = .ok (.aload_n 0, 1) := by decide +kernel
theorem dX7_init_38 : decode cX7_init 38 = .ok (.new 24, 3) := by decide +kernel
theorem dX7_init_41 : decode cX7_init 41 = .ok (.dup, 1) := by decide +kernel
theorem dX7_init_42 : decode cX7_init 42 = .ok (.invokespecial 26, 3) := by decide +kernel
theorem dX7_init_45 : decode cX7_init 45 = .ok (.putfield 27, 3) := by decide +kernel
theorem dX7_init_48 : decode cX7_init 48 = .ok (.return_, 1) := by decide +kernel
theorem dX7_dimension_0 : decode cX7_dimension 0 = .ok (.iload_n 1, 1) := by decide +kernel
theorem dX7_dimension_1 : decode cX7_dimension 1 = .ok (.ifCond .ne 8, 3) := by decide +kernel
theorem dX7_dimension_4 : decode cX7_dimension 4 = .ok (.aload_n 0, 1) := by decide +kernel
theorem dX7_dimension_5 : decode cX7_dimension 5 = .ok (.getfield 12, 3) := by decide +kernel
theorem dX7_dimension_8 : decode cX7_dimension 8 = .ok (.areturn, 1) := by decide +kernel
theorem dX7_dimension_9 : decode cX7_dimension 9 = .ok (.iload_n 1, 1) := by decide +kernel
theorem dX7_dimension_10 : decode cX7_dimension 10 = .ok (.iconst 1, 1) := by decide +kernel
theorem dX7_dimension_11 : decode cX7_dimension 11 = .ok (.if_icmp .ne 10, 3) := by decide +kernel
theorem dX7_dimension_14 : decode cX7_dimension 14 = .ok (.aload_n 0, 1) := by decide +kernel
theorem dX7_dimension_15 : decode cX7_dimension 15 = .ok (.getfield 18, 3) := by decide +kernel
theorem dX7_dimension_18 : decode cX7_dimension 18 = .ok (.goto 7, 3) := by decide +kernel
theorem dX7_dimension_21 : decode cX7_dimension 21 = .ok (.aload_n 0, 1) := by decide +kernel
theorem dX7_dimension_22 : decode cX7_dimension 22 = .ok (.getfield 21, 3) := by decide +kernel
theorem dX7_dimension_25 : decode cX7_dimension 25 = .ok (.areturn, 1) := by decide +kernel
theorem dX7_movesTold_0 : decode cX7_movesTold 0 = .ok (.aload_n 0, 1) := by decide +kernel
theorem dX7_movesTold_1 : decode cX7_movesTold 1 = .ok (.getfield 18, 3) := by decide +kernel
theorem dX7_movesTold_4 : decode cX7_movesTold 4 = .ok (.getfield 31, 3) := by decide +kernel
theorem dX7_movesTold_7 : decode cX7_movesTold 7 = .ok (.getfield 35, 3) := by decide +kernel
theorem dX7_movesTold_10 : decode cX7_movesTold 10 = .ok (.aload_n 0, 1) := by decide +kernel
theorem dX7_movesTold_11 : decode cX7_movesTold 11 = .ok (.getfield 21, 3) := by decide +kernel
theorem dX7_movesTold_14 : decode cX7_movesTold 14 = .ok (.getfield 31, 3) := by decide +kernel
theorem dX7_movesTold_17 : decode cX7_movesTold 17 = .ok (.getfield 35, 3) := by decide +kernel
theorem dX7_movesTold_20 : decode cX7_movesTold 20 = .ok (.iadd, 1) := by decide +kernel
theorem dX7_movesTold_21 : decode cX7_movesTold 21 = .ok (.ireturn, 1) := by decide +kernel
theorem dX7_weigh_0 : decode cX7_weigh 0 = .ok (.aload_n 0, 1) := by decide +kernel
theorem dX7_weigh_1 : decode cX7_weigh 1 = .ok (.getfield 12, 3) := by decide +kernel
theorem dX7_weigh_4 : decode cX7_weigh 4 = .ok (.aload_n 0, 1) := by decide +kernel
theorem dX7_weigh_5 : decode cX7_weigh 5 = .ok (.getfield 27, 3) := by decide +kernel
theorem dX7_weigh_8 : decode cX7_weigh 8 = .ok (.invokevirtual 41, 3) := by decide +kernel
theorem dX7_weigh_11 : decode cX7_weigh 11 = .ok (.aload_n 0, 1) := by decide +kernel
theorem dX7_weigh_12 : decode cX7_weigh 12 = .ok (.getfield 18, 3) := by decide +kernel
theorem dX7_weigh_15 : decode cX7_weigh 15 = .ok (.aload_n 0, 1) := by decide +kernel
theorem dX7_weigh_16 : decode cX7_weigh 16 = .ok (.getfield 27, 3) := by decide +kernel
theorem dX7_weigh_19 : decode cX7_weigh 19 = .ok (.invokevirtual 41, 3) := by decide +kernel
theorem dX7_weigh_22 : decode cX7_weigh 22 = .ok (.aload_n 0, 1) := by decide +kernel
theorem dX7_weigh_23 : decode cX7_weigh 23 = .ok (.getfield 21, 3) := by decide +kernel
theorem dX7_weigh_26 : decode cX7_weigh 26 = .ok (.aload_n 0, 1) := by decide +kernel
theorem dX7_weigh_27 : decode cX7_weigh 27 = .ok (.getfield 27, 3) := by decide +kernel
theorem dX7_weigh_30 : decode cX7_weigh 30 = .ok (.invokevirtual 41, 3) := by decide +kernel
theorem dX7_weigh_33 : decode cX7_weigh 33 = .ok (.return_, 1) := by decide +kernel
theorem dX7_isPlain_0 : decode cX7_isPlain 0 = .ok (.aload_n 0, 1) := by decide +kernel
theorem dX7_isPlain_1 : decode cX7_isPlain 1 = .ok (.getfield 12, 3) := by decide +kernel
theorem dX7_isPlain_4 : decode cX7_isPlain 4 = .ok (.iload_n 1, 1) := by decide +kernel
theorem dX7_isPlain_5 : decode cX7_isPlain 5 = .ok (.iconst 0, 1) := by decide +kernel
theorem dX7_isPlain_6 : decode cX7_isPlain 6 = .ok (.invokestatic 45, 3) := by decide +kernel
theorem dX7_isPlain_9 : decode cX7_isPlain 9 = .ok (.invokevirtual 49, 3) := by decide +kernel
theorem dX7_isPlain_12 : decode cX7_isPlain 12 = .ok (.ifCond .eq 37, 3) := by decide +kernel
theorem dX7_isPlain_15 : decode cX7_isPlain 15 = .ok (.aload_n 0, 1) := by decide +kernel
theorem dX7_isPlain_16 : decode cX7_isPlain 16 = .ok (.getfield 18, 3) := by decide +kernel
theorem dX7_isPlain_19 : decode cX7_isPlain 19 = .ok (.iload_n 1, 1) := by decide +kernel
theorem dX7_isPlain_20 : decode cX7_isPlain 20 = .ok (.iconst 1, 1) := by decide +kernel
theorem dX7_isPlain_21 : decode cX7_isPlain 21 = .ok (.invokestatic 45, 3) := by decide +kernel
theorem dX7_isPlain_24 : decode cX7_isPlain 24 = .ok (.invokevirtual 49, 3) := by decide +kernel
theorem dX7_isPlain_27 : decode cX7_isPlain 27 = .ok (.ifCond .eq 22, 3) := by decide +kernel
theorem dX7_isPlain_30 : decode cX7_isPlain 30 = .ok (.aload_n 0, 1) := by decide +kernel
theorem dX7_isPlain_31 : decode cX7_isPlain 31 = .ok (.getfield 21, 3) := by decide +kernel
theorem dX7_isPlain_34 : decode cX7_isPlain 34 = .ok (.iload_n 1, 1) := by decide +kernel
theorem dX7_isPlain_35 : decode cX7_isPlain 35 = .ok (.iconst 2, 1) := by decide +kernel
theorem dX7_isPlain_36 : decode cX7_isPlain 36 = .ok (.invokestatic 45, 3) := by decide +kernel
theorem dX7_isPlain_39 : decode cX7_isPlain 39 = .ok (.invokevirtual 49, 3) := by decide +kernel
theorem dX7_isPlain_42 : decode cX7_isPlain 42 = .ok (.ifCond .eq 7, 3) := by decide +kernel
theorem dX7_isPlain_45 : decode cX7_isPlain 45 = .ok (.iconst 1, 1) := by decide +kernel
theorem dX7_isPlain_46 : decode cX7_isPlain 46 = .ok (.goto 4, 3) := by decide +kernel
theorem dX7_isPlain_49 : decode cX7_isPlain 49 = .ok (.iconst 0, 1) := by decide +kernel
theorem dX7_isPlain_50 : decode cX7_isPlain 50 = .ok (.ireturn, 1) := by decide +kernel
theorem dX7_isSeen_0 : decode cX7_isSeen 0 = .ok (.aload_n 0, 1) := by decide +kernel
theorem dX7_isSeen_1 : decode cX7_isSeen 1 = .ok (.getfield 12, 3) := by decide +kernel
theorem dX7_isSeen_4 : decode cX7_isSeen 4 = .ok (.iload_n 1, 1) := by decide +kernel
theorem dX7_isSeen_5 : decode cX7_isSeen 5 = .ok (.iconst 0, 1) := by decide +kernel
theorem dX7_isSeen_6 : decode cX7_isSeen 6 = .ok (.invokestatic 45, 3) := by decide +kernel
theorem dX7_isSeen_9 : decode cX7_isSeen 9 = .ok (.invokevirtual 53, 3) := by decide +kernel
theorem dX7_isSeen_12 : decode cX7_isSeen 12 = .ok (.ifCond .eq 37, 3) := by decide +kernel
theorem dX7_isSeen_15 : decode cX7_isSeen 15 = .ok (.aload_n 0, 1) := by decide +kernel
theorem dX7_isSeen_16 : decode cX7_isSeen 16 = .ok (.getfield 18, 3) := by decide +kernel
theorem dX7_isSeen_19 : decode cX7_isSeen 19 = .ok (.iload_n 1, 1) := by decide +kernel
theorem dX7_isSeen_20 : decode cX7_isSeen 20 = .ok (.iconst 1, 1) := by decide +kernel
theorem dX7_isSeen_21 : decode cX7_isSeen 21 = .ok (.invokestatic 45, 3) := by decide +kernel
theorem dX7_isSeen_24 : decode cX7_isSeen 24 = .ok (.invokevirtual 53, 3) := by decide +kernel
theorem dX7_isSeen_27 : decode cX7_isSeen 27 = .ok (.ifCond .eq 22, 3) := by decide +kernel
theorem dX7_isSeen_30 : decode cX7_isSeen 30 = .ok (.aload_n 0, 1) := by decide +kernel
theorem dX7_isSeen_31 : decode cX7_isSeen 31 = .ok (.getfield 21, 3) := by decide +kernel
theorem dX7_isSeen_34 : decode cX7_isSeen 34 = .ok (.iload_n 1, 1) := by decide +kernel
theorem dX7_isSeen_35 : decode cX7_isSeen 35 = .ok (.iconst 2, 1) := by decide +kernel
theorem dX7_isSeen_36 : decode cX7_isSeen 36 = .ok (.invokestatic 45, 3) := by decide +kernel
theorem dX7_isSeen_39 : decode cX7_isSeen 39 = .ok (.invokevirtual 53, 3) := by decide +kernel
theorem dX7_isSeen_42 : decode cX7_isSeen 42 = .ok (.ifCond .eq 7, 3) := by decide +kernel
theorem dX7_isSeen_45 : decode cX7_isSeen 45 = .ok (.iconst 1, 1) := by decide +kernel
theorem dX7_isSeen_46 : decode cX7_isSeen 46 = .ok (.goto 4, 3) := by decide +kernel
theorem dX7_isSeen_49 : decode cX7_isSeen 49 = .ok (.iconst 0, 1) := by decide +kernel
theorem dX7_isSeen_50 : decode cX7_isSeen 50 = .ok (.ireturn, 1) := by decide +kernel
theorem dX7_isCalculated_0 : decode cX7_isCalculated 0 = .ok (.aload_n 0, 1) := by decide +kernel
theorem dX7_isCalculated_1 : decode cX7_isCalculated 1 = .ok (.iload_n 1, 1) := by decide +kernel
theorem dX7_isCalculated_2 : decode cX7_isCalculated 2 = .ok (.invokevirtual 56, 3) := by decide +kernel
theorem dX7_isCalculated_5 : decode cX7_isCalculated 5 = .ok (.iconst (-1), 1) := by decide +kernel
theorem dX7_isCalculated_6 : decode cX7_isCalculated 6 = .ok (.if_icmp .eq 7, 3) := by decide +kernel
theorem dX7_isCalculated_9 : decode cX7_isCalculated 9 = .ok (.iconst 1, 1) := by decide +kernel
theorem dX7_isCalculated_10 : decode cX7_isCalculated 10 = .ok (.goto 4, 3) := by decide +kernel
theorem dX7_isCalculated_13 : decode cX7_isCalculated 13 = .ok (.iconst 0, 1) := by decide +kernel
theorem dX7_isCalculated_14 : decode cX7_isCalculated 14 = .ok (.ireturn, 1) := by decide +kernel
theorem dX7_leading_0 : decode cX7_leading 0 = .ok (.iconst (-1), 1) := by decide +kernel
theorem dX7_leading_1 : decode cX7_leading 1 = .ok (.istore_n 2, 1) := by decide +kernel
theorem dX7_leading_2 : decode cX7_leading 2 = .ok (.iconst (-1), 1) := by decide +kernel
theorem dX7_leading_3 : decode cX7_leading 3 = .ok (.istore_n 3, 1) := by decide +kernel
theorem dX7_leading_4 : decode cX7_leading 4 = .ok (.iconst 0, 1) := by decide +kernel
theorem dX7_leading_5 : decode cX7_leading 5 = .ok (.istore 4, 2) := by decide +kernel
theorem dX7_leading_7 : decode cX7_leading 7 = .ok (.iload 4, 2) := by decide +kernel
theorem dX7_leading_9 : decode cX7_leading 9 = .ok (.iconst 3, 1) := by decide +kernel
theorem dX7_leading_10 : decode cX7_leading 10 = .ok (.if_icmp .ge 44, 3) := by decide +kernel
theorem dX7_leading_13 : decode cX7_leading 13 = .ok (.aload_n 0, 1) := by decide +kernel
theorem dX7_leading_14 : decode cX7_leading 14 = .ok (.iload 4, 2) := by decide +kernel
theorem dX7_leading_16 : decode cX7_leading 16 = .ok (.invokevirtual 60, 3) := by decide +kernel
theorem dX7_leading_19 : decode cX7_leading 19 = .ok (.iload_n 1, 1) := by decide +kernel
theorem dX7_leading_20 : decode cX7_leading 20 = .ok (.iload 4, 2) := by decide +kernel
theorem dX7_leading_22 : decode cX7_leading 22 = .ok (.invokestatic 45, 3) := by decide +kernel
theorem dX7_leading_25 : decode cX7_leading 25 = .ok (.invokevirtual 64, 3) := by decide +kernel
theorem dX7_leading_28 : decode cX7_leading 28 = .ok (.istore 5, 2) := by decide +kernel
theorem dX7_leading_30 : decode cX7_leading 30 = .ok (.iload 5, 2) := by decide +kernel
theorem dX7_leading_32 : decode cX7_leading 32 = .ok (.iconst (-1), 1) := by decide +kernel
theorem dX7_leading_33 : decode cX7_leading 33 = .ok (.if_icmp .eq 15, 3) := by decide +kernel
theorem dX7_leading_36 : decode cX7_leading 36 = .ok (.iload 5, 2) := by decide +kernel
theorem dX7_leading_38 : decode cX7_leading 38 = .ok (.iload_n 3, 1) := by decide +kernel
theorem dX7_leading_39 : decode cX7_leading 39 = .ok (.if_icmp .lt 9, 3) := by decide +kernel
theorem dX7_leading_42 : decode cX7_leading 42 = .ok (.iload 5, 2) := by decide +kernel
theorem dX7_leading_44 : decode cX7_leading 44 = .ok (.istore_n 3, 1) := by decide +kernel
theorem dX7_leading_45 : decode cX7_leading 45 = .ok (.iload 4, 2) := by decide +kernel
theorem dX7_leading_47 : decode cX7_leading 47 = .ok (.istore_n 2, 1) := by decide +kernel
theorem dX7_leading_48 : decode cX7_leading 48 = .ok (.iinc 4 1, 3) := by decide +kernel
theorem dX7_leading_51 : decode cX7_leading 51 = .ok (.goto (-44), 3) := by decide +kernel
theorem dX7_leading_54 : decode cX7_leading 54 = .ok (.iload_n 2, 1) := by decide +kernel
theorem dX7_leading_55 : decode cX7_leading 55 = .ok (.ireturn, 1) := by decide +kernel
theorem dX7_chosenCell_0 : decode cX7_chosenCell 0 = .ok (.aload_n 0, 1) := by decide +kernel
theorem dX7_chosenCell_1 : decode cX7_chosenCell 1 = .ok (.getfield 12, 3) := by decide +kernel
theorem dX7_chosenCell_4 : decode cX7_chosenCell 4 = .ok (.getfield 67, 3) := by decide +kernel
theorem dX7_chosenCell_7 : decode cX7_chosenCell 7 = .ok (.sipush 144, 3) := by decide +kernel
theorem dX7_chosenCell_10 : decode cX7_chosenCell 10 = .ok (.imul, 1) := by decide +kernel
theorem dX7_chosenCell_11 : decode cX7_chosenCell 11 = .ok (.aload_n 0, 1) := by decide +kernel
theorem dX7_chosenCell_12 : decode cX7_chosenCell 12 = .ok (.getfield 18, 3) := by decide +kernel
theorem dX7_chosenCell_15 : decode cX7_chosenCell 15 = .ok (.getfield 67, 3) := by decide +kernel
theorem dX7_chosenCell_18 : decode cX7_chosenCell 18 = .ok (.bipush 12, 2) := by decide +kernel
theorem dX7_chosenCell_20 : decode cX7_chosenCell 20 = .ok (.imul, 1) := by decide +kernel
theorem dX7_chosenCell_21 : decode cX7_chosenCell 21 = .ok (.iadd, 1) := by decide +kernel
theorem dX7_chosenCell_22 : decode cX7_chosenCell 22 = .ok (.aload_n 0, 1) := by decide +kernel
theorem dX7_chosenCell_23 : decode cX7_chosenCell 23 = .ok (.getfield 21, 3) := by decide +kernel
theorem dX7_chosenCell_26 : decode cX7_chosenCell 26 = .ok (.getfield 67, 3) := by decide +kernel
theorem dX7_chosenCell_29 : decode cX7_chosenCell 29 = .ok (.iadd, 1) := by decide +kernel
theorem dX7_chosenCell_30 : decode cX7_chosenCell 30 = .ok (.ireturn, 1) := by decide +kernel
theorem dX7_weight_0 : decode cX7_weight 0 = .ok (.aload_n 0, 1) := by decide +kernel
theorem dX7_weight_1 : decode cX7_weight 1 = .ok (.getfield 70, 3) := by decide +kernel
theorem dX7_weight_4 : decode cX7_weight 4 = .ok (.ifCond .eq 13, 3) := by decide +kernel
theorem dX7_weight_7 : decode cX7_weight 7 = .ok (.aload_n 0, 1) := by decide +kernel
theorem dX7_weight_8 : decode cX7_weight 8 = .ok (.iload_n 1, 1) := by decide +kernel
theorem dX7_weight_9 : decode cX7_weight 9 = .ok (.invokevirtual 74, 3) := by decide +kernel
theorem dX7_weight_12 : decode cX7_weight 12 = .ok (.ifCond .ne 5, 3) := by decide +kernel
end
section
theorem dX7_weight_15 : decode cX7_weight 15 = .ok (.iconst 0, 1) := by decide +kernel
theorem dX7_weight_16 : decode cX7_weight 16 = .ok (.ireturn, 1) := by decide +kernel
theorem dX7_weight_17 : decode cX7_weight 17 = .ok (.iload_n 1, 1) := by decide +kernel
theorem dX7_weight_18 : decode cX7_weight 18 = .ok (.iconst 0, 1) := by decide +kernel
theorem dX7_weight_19 : decode cX7_weight 19 = .ok (.invokestatic 45, 3) := by decide +kernel
theorem dX7_weight_22 : decode cX7_weight 22 = .ok (.istore_n 3, 1) := by decide +kernel
theorem dX7_weight_23 : decode cX7_weight 23 = .ok (.aload_n 0, 1) := by decide +kernel
theorem dX7_weight_24 : decode cX7_weight 24 = .ok (.getfield 75, 3) := by decide +kernel
theorem dX7_weight_27 : decode cX7_weight 27 = .ok (.ifCond .eq 8, 3) := by decide +kernel
theorem dX7_weight_30 : decode cX7_weight 30 = .ok (.bipush 12, 2) := by decide +kernel
theorem dX7_weight_32 : decode cX7_weight 32 = .ok (.goto 4, 3) := by decide +kernel
theorem dX7_weight_35 : decode cX7_weight 35 = .ok (.iload_n 3, 1) := by decide +kernel
theorem dX7_weight_36 : decode cX7_weight 36 = .ok (.istore 4, 2) := by decide +kernel
theorem dX7_weight_38 : decode cX7_weight 38 = .ok (.aload_n 0, 1) := by decide +kernel
theorem dX7_weight_39 : decode cX7_weight 39 = .ok (.getfield 12, 3) := by decide +kernel
theorem dX7_weight_42 : decode cX7_weight 42 = .ok (.iload 4, 2) := by decide +kernel
theorem dX7_weight_44 : decode cX7_weight 44 = .ok (.iload_n 3, 1) := by decide +kernel
theorem dX7_weight_45 : decode cX7_weight 45 = .ok (.iload_n 2, 1) := by decide +kernel
theorem dX7_weight_46 : decode cX7_weight 46 = .ok (.iconst 0, 1) := by decide +kernel
theorem dX7_weight_47 : decode cX7_weight 47 = .ok (.invokestatic 45, 3) := by decide +kernel
theorem dX7_weight_50 : decode cX7_weight 50 = .ok (.invokevirtual 78, 3) := by decide +kernel
theorem dX7_weight_53 : decode cX7_weight 53 = .ok (.istore 5, 2) := by decide +kernel
theorem dX7_weight_55 : decode cX7_weight 55 = .ok (.iload 5, 2) := by decide +kernel
theorem dX7_weight_57 : decode cX7_weight 57 = .ok (.ifCond .eq 27, 3) := by decide +kernel
theorem dX7_weight_60 : decode cX7_weight 60 = .ok (.iload 5, 2) := by decide +kernel
theorem dX7_weight_62 : decode cX7_weight 62 = .ok (.aload_n 0, 1) := by decide +kernel
theorem dX7_weight_63 : decode cX7_weight 63 = .ok (.getfield 18, 3) := by decide +kernel
theorem dX7_weight_66 : decode cX7_weight 66 = .ok (.iload 4, 2) := by decide +kernel
theorem dX7_weight_68 : decode cX7_weight 68 = .ok (.iload_n 1, 1) := by decide +kernel
theorem dX7_weight_69 : decode cX7_weight 69 = .ok (.iconst 1, 1) := by decide +kernel
theorem dX7_weight_70 : decode cX7_weight 70 = .ok (.invokestatic 45, 3) := by decide +kernel
theorem dX7_weight_73 : decode cX7_weight 73 = .ok (.iload_n 2, 1) := by decide +kernel
theorem dX7_weight_74 : decode cX7_weight 74 = .ok (.iconst 1, 1) := by decide +kernel
theorem dX7_weight_75 : decode cX7_weight 75 = .ok (.invokestatic 45, 3) := by decide +kernel
theorem dX7_weight_78 : decode cX7_weight 78 = .ok (.invokevirtual 78, 3) := by decide +kernel
theorem dX7_weight_81 : decode cX7_weight 81 = .ok (.imul, 1) := by decide +kernel
theorem dX7_weight_82 : decode cX7_weight 82 = .ok (.istore 5, 2) := by decide +kernel
theorem dX7_weight_84 : decode cX7_weight 84 = .ok (.iload 5, 2) := by decide +kernel
theorem dX7_weight_86 : decode cX7_weight 86 = .ok (.ifCond .eq 27, 3) := by decide +kernel
theorem dX7_weight_89 : decode cX7_weight 89 = .ok (.iload 5, 2) := by decide +kernel
theorem dX7_weight_91 : decode cX7_weight 91 = .ok (.aload_n 0, 1) := by decide +kernel
theorem dX7_weight_92 : decode cX7_weight 92 = .ok (.getfield 21, 3) := by decide +kernel
theorem dX7_weight_95 : decode cX7_weight 95 = .ok (.iload 4, 2) := by decide +kernel
theorem dX7_weight_97 : decode cX7_weight 97 = .ok (.iload_n 1, 1) := by decide +kernel
theorem dX7_weight_98 : decode cX7_weight 98 = .ok (.iconst 2, 1) := by decide +kernel
theorem dX7_weight_99 : decode cX7_weight 99 = .ok (.invokestatic 45, 3) := by decide +kernel
theorem dX7_weight_102 : decode cX7_weight 102 = .ok (.iload_n 2, 1) := by decide +kernel
theorem dX7_weight_103 : decode cX7_weight 103 = .ok (.iconst 2, 1) := by decide +kernel
theorem dX7_weight_104 : decode cX7_weight 104 = .ok (.invokestatic 45, 3) := by decide +kernel
theorem dX7_weight_107 : decode cX7_weight 107 = .ok (.invokevirtual 78, 3) := by decide +kernel
theorem dX7_weight_110 : decode cX7_weight 110 = .ok (.imul, 1) := by decide +kernel
theorem dX7_weight_111 : decode cX7_weight 111 = .ok (.istore 5, 2) := by decide +kernel
theorem dX7_weight_113 : decode cX7_weight 113 = .ok (.iload 5, 2) := by decide +kernel
theorem dX7_weight_115 : decode cX7_weight 115 = .ok (.ireturn, 1) := by decide +kernel
theorem dX8_init_0 : decode cX8_init 0 = .ok (.aload_n 0, 1) := by decide +kernel
theorem dX8_init_1 : decode cX8_init 1 = .ok (.invokespecial 3, 3) := by decide +kernel
theorem dX8_init_4 : decode cX8_init 4 = .ok (.aload_n 0, 1) := by decide +kernel
theorem dX8_init_5 : decode cX8_init 5 = .ok (.bipush 50, 2) := by decide +kernel
theorem dX8_init_7 : decode cX8_init 7 = .ok (.newarray .long, 2) := by decide +kernel
theorem dX8_init_9 : decode cX8_init 9 = .ok (.putfield 9, 3) := by decide +kernel
theorem dX8_init_12 : decode cX8_init 12 = .ok (.aload_n 0, 1) := by decide +kernel
theorem dX8_init_13 : decode cX8_init 13 = .ok (.bipush 50, 2) := by decide +kernel
theorem dX8_init_15 : decode cX8_init 15 = .ok (.newarray .long, 2) := by decide +kernel
theorem dX8_init_17 : decode cX8_init 17 = .ok (.putfield 15, 3) := by decide +kernel
theorem dX8_init_20 : decode cX8_init 20 = .ok (.aload_n 0, 1) := by decide +kernel
theorem dX8_init_21 : decode cX8_init 21 = .ok (.bipush 50, 2) := by decide +kernel
theorem dX8_init_23 : decode cX8_init 23 = .ok (.newarray .long, 2) := by decide +kernel
theorem dX8_init_25 : decode cX8_init 25 = .ok (.putfield 18, 3) := by decide +kernel
theorem dX8_init_28 : decode cX8_init 28 = .ok (.return_, 1) := by decide +kernel
theorem dX8_start_0 : decode cX8_start 0 = .ok (.aload_n 0, 1) := by decide +kernel
theorem dX8_start_1 : decode cX8_start 1 = .ok (.iload_n 1, 1) := by decide +kernel
theorem dX8_start_2 : decode cX8_start 2 = .ok (.bipush 50, 2) := by decide +kernel
theorem dX8_start_4 : decode cX8_start 4 = .ok (.invokestatic 21, 3) := by decide +kernel
theorem dX8_start_7 : decode cX8_start 7 = .ok (.putfield 27, 3) := by decide +kernel
theorem dX8_start_10 : decode cX8_start 10 = .ok (.aload_n 0, 1) := by decide +kernel
theorem dX8_start_11 : decode cX8_start 11 = .ok (.lload_n 2, 1) := by decide +kernel
theorem dX8_start_12 : decode cX8_start 12 = .ok (.putfield 31, 3) := by decide +kernel
theorem dX8_start_15 : decode cX8_start 15 = .ok (.return_, 1) := by decide +kernel
theorem dX8_own_0 : decode cX8_own 0 = .ok (.iload_n 1, 1) := by decide +kernel
theorem dX8_own_1 : decode cX8_own 1 = .ok (.ifCond .lt 18, 3) := by decide +kernel
theorem dX8_own_4 : decode cX8_own 4 = .ok (.iload_n 1, 1) := by decide +kernel
theorem dX8_own_5 : decode cX8_own 5 = .ok (.aload_n 0, 1) := by decide +kernel
theorem dX8_own_6 : decode cX8_own 6 = .ok (.getfield 27, 3) := by decide +kernel
theorem dX8_own_9 : decode cX8_own 9 = .ok (.if_icmp .ge 10, 3) := by decide +kernel
theorem dX8_own_12 : decode cX8_own 12 = .ok (.aload_n 0, 1) := by decide +kernel
theorem dX8_own_13 : decode cX8_own 13 = .ok (.getfield 9, 3) := by decide +kernel
theorem dX8_own_16 : decode cX8_own 16 = .ok (.iload_n 1, 1) := by decide +kernel
theorem dX8_own_17 : decode cX8_own 17 = .ok (.lload_n 2, 1) := by decide +kernel
theorem dX8_own_18 : decode cX8_own 18 = .ok (.lastore, 1) := by decide +kernel
theorem dX8_own_19 : decode cX8_own 19 = .ok (.return_, 1) := by decide +kernel
theorem dX8_shareAt_0 : decode cX8_shareAt 0 = .ok (.iload_n 1, 1) := by decide +kernel
theorem dX8_shareAt_1 : decode cX8_shareAt 1 = .ok (.ifCond .lt 20, 3) := by decide +kernel
theorem dX8_shareAt_4 : decode cX8_shareAt 4 = .ok (.iload_n 1, 1) := by decide +kernel
theorem dX8_shareAt_5 : decode cX8_shareAt 5 = .ok (.aload_n 0, 1) := by decide +kernel
theorem dX8_shareAt_6 : decode cX8_shareAt 6 = .ok (.getfield 27, 3) := by decide +kernel
theorem dX8_shareAt_9 : decode cX8_shareAt 9 = .ok (.if_icmp .ge 12, 3) := by decide +kernel
theorem dX8_shareAt_12 : decode cX8_shareAt 12 = .ok (.aload_n 0, 1) := by decide +kernel
theorem dX8_shareAt_13 : decode cX8_shareAt 13 = .ok (.getfield 15, 3) := by decide +kernel
theorem dX8_shareAt_16 : decode cX8_shareAt 16 = .ok (.iload_n 1, 1) := by decide +kernel
theorem dX8_shareAt_17 : decode cX8_shareAt 17 = .ok (.laload, 1) := by decide +kernel
theorem dX8_shareAt_18 : decode cX8_shareAt 18 = .ok (.goto 4, 3) := by decide +kernel
theorem dX8_shareAt_21 : decode cX8_shareAt 21 = .ok (.lconst 0, 1) := by decide +kernel
theorem dX8_shareAt_22 : decode cX8_shareAt 22 = .ok (.lreturn, 1) := by decide +kernel
theorem dX8_share_0 : decode cX8_share 0 = .ok (.lconst 0, 1) := by decide +kernel
theorem dX8_share_1 : decode cX8_share 1 = .ok (.lstore_n 2, 1) := by decide +kernel
theorem dX8_share_2 : decode cX8_share 2 = .ok (.iload_n 1, 1) := by decide +kernel
theorem dX8_share_3 : decode cX8_share 3 = .ok (.iconst 1, 1) := by decide +kernel
theorem dX8_share_4 : decode cX8_share 4 = .ok (.if_icmp .ne 7, 3) := by decide +kernel
theorem dX8_share_7 : decode cX8_share 7 = .ok (.iconst 1, 1) := by decide +kernel
theorem dX8_share_8 : decode cX8_share 8 = .ok (.goto 4, 3) := by decide +kernel
theorem dX8_share_11 : decode cX8_share 11 = .ok (.iconst 0, 1) := by decide +kernel
theorem dX8_share_12 : decode cX8_share 12 = .ok (.istore 4, 2) := by decide +kernel
theorem dX8_share_14 : decode cX8_share 14 = .ok (.iconst 0, 1) := by decide +kernel
theorem dX8_share_15 : decode cX8_share 15 = .ok (.istore 5, 2) := by decide +kernel
theorem dX8_share_17 : decode cX8_share 17 = .ok (.iload 5, 2) := by decide +kernel
theorem dX8_share_19 : decode cX8_share 19 = .ok (.aload_n 0, 1) := by decide +kernel
theorem dX8_share_20 : decode cX8_share 20 = .ok (.getfield 27, 3) := by decide +kernel
theorem dX8_share_23 : decode cX8_share 23 = .ok (.if_icmp .ge 43, 3) := by decide +kernel
theorem dX8_share_26 : decode cX8_share 26 = .ok (.lload_n 2, 1) := by decide +kernel
theorem dX8_share_27 : decode cX8_share 27 = .ok (.aload_n 0, 1) := by decide +kernel
theorem dX8_share_28 : decode cX8_share 28 = .ok (.getfield 9, 3) := by decide +kernel
theorem dX8_share_31 : decode cX8_share 31 = .ok (.iload 5, 2) := by decide +kernel
theorem dX8_share_33 : decode cX8_share 33 = .ok (.laload, 1) := by decide +kernel
theorem dX8_share_34 : decode cX8_share 34 = .ok (.ladd, 1) := by decide +kernel
theorem dX8_share_35 : decode cX8_share 35 = .ok (.lstore_n 2, 1) := by decide +kernel
theorem dX8_share_36 : decode cX8_share 36 = .ok (.iload 4, 2) := by decide +kernel
theorem dX8_share_38 : decode cX8_share 38 = .ok (.ifCond .eq 19, 3) := by decide +kernel
theorem dX8_share_41 : decode cX8_share 41 = .ok (.aload_n 0, 1) := by decide +kernel
theorem dX8_share_42 : decode cX8_share 42 = .ok (.getfield 9, 3) := by decide +kernel
theorem dX8_share_45 : decode cX8_share 45 = .ok (.iload 5, 2) := by decide +kernel
theorem dX8_share_47 : decode cX8_share 47 = .ok (.laload, 1) := by decide +kernel
theorem dX8_share_48 : decode cX8_share 48 = .ok (.lconst 0, 1) := by decide +kernel
theorem dX8_share_49 : decode cX8_share 49 = .ok (.lcmp, 1) := by decide +kernel
theorem dX8_share_50 : decode cX8_share 50 = .ok (.ifCond .lt 7, 3) := by decide +kernel
theorem dX8_share_53 : decode cX8_share 53 = .ok (.iconst 1, 1) := by decide +kernel
theorem dX8_share_54 : decode cX8_share 54 = .ok (.goto 4, 3) := by decide +kernel
theorem dX8_share_57 : decode cX8_share 57 = .ok (.iconst 0, 1) := by decide +kernel
theorem dX8_share_58 : decode cX8_share 58 = .ok (.istore 4, 2) := by decide +kernel
theorem dX8_share_60 : decode cX8_share 60 = .ok (.iinc 5 1, 3) := by decide +kernel
theorem dX8_share_63 : decode cX8_share 63 = .ok (.goto (-46), 3) := by decide +kernel
theorem dX8_share_66 : decode cX8_share 66 = .ok (.iload_n 1, 1) := by decide +kernel
theorem dX8_share_67 : decode cX8_share 67 = .ok (.iconst 2, 1) := by decide +kernel
theorem dX8_share_68 : decode cX8_share 68 = .ok (.if_icmp .ne 11, 3) := by decide +kernel
theorem dX8_share_71 : decode cX8_share 71 = .ok (.aload_n 0, 1) := by decide +kernel
theorem dX8_share_72 : decode cX8_share 72 = .ok (.lload_n 2, 1) := by decide +kernel
theorem dX8_share_73 : decode cX8_share 73 = .ok (.invokevirtual 35, 3) := by decide +kernel
theorem dX8_share_76 : decode cX8_share 76 = .ok (.goto 26, 3) := by decide +kernel
theorem dX8_share_79 : decode cX8_share 79 = .ok (.iload 4, 2) := by decide +kernel
theorem dX8_share_81 : decode cX8_share 81 = .ok (.ifCond .eq 17, 3) := by decide +kernel
theorem dX8_share_84 : decode cX8_share 84 = .ok (.lload_n 2, 1) := by decide +kernel
theorem dX8_share_85 : decode cX8_share 85 = .ok (.lconst 0, 1) := by decide +kernel
theorem dX8_share_86 : decode cX8_share 86 = .ok (.lcmp, 1) := by decide +kernel
theorem dX8_share_87 : decode cX8_share 87 = .ok (.ifCond .le 11, 3) := by decide +kernel
theorem dX8_share_90 : decode cX8_share 90 = .ok (.aload_n 0, 1) := by decide +kernel
theorem dX8_share_91 : decode cX8_share 91 = .ok (.lload_n 2, 1) := by decide +kernel
theorem dX8_share_92 : decode cX8_share 92 = .ok (.invokevirtual 39, 3) := by decide +kernel
theorem dX8_share_95 : decode cX8_share 95 = .ok (.goto 7, 3) := by decide +kernel
theorem dX8_share_98 : decode cX8_share 98 = .ok (.aload_n 0, 1) := by decide +kernel
theorem dX8_share_99 : decode cX8_share 99 = .ok (.invokevirtual 42, 3) := by decide +kernel
theorem dX8_share_102 : decode cX8_share 102 = .ok (.return_, 1) := by decide +kernel
theorem dX8_equally_0 : decode cX8_equally 0 = .ok (.aload_n 0, 1) := by decide +kernel
theorem dX8_equally_1 : decode cX8_equally 1 = .ok (.getfield 27, 3) := by decide +kernel
theorem dX8_equally_4 : decode cX8_equally 4 = .ok (.ifCond .gt 4, 3) := by decide +kernel
theorem dX8_equally_7 : decode cX8_equally 7 = .ok (.return_, 1) := by decide +kernel
theorem dX8_equally_8 : decode cX8_equally 8 = .ok (.iconst 0, 1) := by decide +kernel
theorem dX8_equally_9 : decode cX8_equally 9 = .ok (.istore_n 1, 1) := by decide +kernel
theorem dX8_equally_10 : decode cX8_equally 10 = .ok (.iload_n 1, 1) := by decide +kernel
theorem dX8_equally_11 : decode cX8_equally 11 = .ok (.aload_n 0, 1) := by decide +kernel
theorem dX8_equally_12 : decode cX8_equally 12 = .ok (.getfield 27, 3) := by decide +kernel
theorem dX8_equally_15 : decode cX8_equally 15 = .ok (.if_icmp .ge 48, 3) := by decide +kernel
theorem dX8_equally_18 : decode cX8_equally 18 = .ok (.aload_n 0, 1) := by decide +kernel
theorem dX8_equally_19 : decode cX8_equally 19 = .ok (.getfield 15, 3) := by decide +kernel
theorem dX8_equally_22 : decode cX8_equally 22 = .ok (.iload_n 1, 1) := by decide +kernel
theorem dX8_equally_23 : decode cX8_equally 23 = .ok (.aload_n 0, 1) := by decide +kernel
theorem dX8_equally_24 : decode cX8_equally 24 = .ok (.getfield 31, 3) := by decide +kernel
theorem dX8_equally_27 : decode cX8_equally 27 = .ok (.aload_n 0, 1) := by decide +kernel
theorem dX8_equally_28 : decode cX8_equally 28 = .ok (.getfield 27, 3) := by decide +kernel
theorem dX8_equally_31 : decode cX8_equally 31 = .ok (.i2l, 1) := by decide +kernel
theorem dX8_equally_32 : decode cX8_equally 32 = .ok (.ldiv, 1) := by decide +kernel
theorem dX8_equally_33 : decode cX8_equally 33 = .ok (.iload_n 1, 1) := by decide +kernel
theorem dX8_equally_34 : decode cX8_equally 34 = .ok (.i2l, 1) := by decide +kernel
theorem dX8_equally_35 : decode cX8_equally 35 = .ok (.aload_n 0, 1) := by decide +kernel
theorem dX8_equally_36 : decode cX8_equally 36 = .ok (.getfield 31, 3) := by decide +kernel
theorem dX8_equally_39 : decode cX8_equally 39 = .ok (.aload_n 0, 1) := by decide +kernel
theorem dX8_equally_40 : decode cX8_equally 40 = .ok (.getfield 27, 3) := by decide +kernel
theorem dX8_equally_43 : decode cX8_equally 43 = .ok (.i2l, 1) := by decide +kernel
theorem dX8_equally_44 : decode cX8_equally 44 = .ok (.lrem, 1) := by decide +kernel
theorem dX8_equally_45 : decode cX8_equally 45 = .ok (.lcmp, 1) := by decide +kernel
theorem dX8_equally_46 : decode cX8_equally 46 = .ok (.ifCond .ge 7, 3) := by decide +kernel
theorem dX8_equally_49 : decode cX8_equally 49 = .ok (.iconst 1, 1) := by decide +kernel
theorem dX8_equally_50 : decode cX8_equally 50 = .ok (.goto 4, 3) := by decide +kernel
theorem dX8_equally_53 : decode cX8_equally 53 = .ok (.iconst 0, 1) := by decide +kernel
theorem dX8_equally_54 : decode cX8_equally 54 = .ok (.i2l, 1) := by decide +kernel
theorem dX8_equally_55 : decode cX8_equally 55 = .ok (.ladd, 1) := by decide +kernel
theorem dX8_equally_56 : decode cX8_equally 56 = .ok (.lastore, 1) := by decide +kernel
theorem dX8_equally_57 : decode cX8_equally 57 = .ok (.iinc 1 1, 3) := by decide +kernel
theorem dX8_equally_60 : decode cX8_equally 60 = .ok (.goto (-50), 3) := by decide +kernel
theorem dX8_equally_63 : decode cX8_equally 63 = .ok (.return_, 1) := by decide +kernel
theorem dX8_leaveRest_0 : decode cX8_leaveRest 0 = .ok (.iconst 0, 1) := by decide +kernel
theorem dX8_leaveRest_1 : decode cX8_leaveRest 1 = .ok (.istore_n 3, 1) := by decide +kernel
theorem dX8_leaveRest_2 : decode cX8_leaveRest 2 = .ok (.iload_n 3, 1) := by decide +kernel
theorem dX8_leaveRest_3 : decode cX8_leaveRest 3 = .ok (.aload_n 0, 1) := by decide +kernel
theorem dX8_leaveRest_4 : decode cX8_leaveRest 4 = .ok (.getfield 27, 3) := by decide +kernel
theorem dX8_leaveRest_7 : decode cX8_leaveRest 7 = .ok (.if_icmp .ge 41, 3) := by decide +kernel
theorem dX8_leaveRest_10 : decode cX8_leaveRest 10 = .ok (.aload_n 0, 1) := by decide +kernel
theorem dX8_leaveRest_11 : decode cX8_leaveRest 11 = .ok (.getfield 15, 3) := by decide +kernel
theorem dX8_leaveRest_14 : decode cX8_leaveRest 14 = .ok (.iload_n 3, 1) := by decide +kernel
theorem dX8_leaveRest_15 : decode cX8_leaveRest 15 = .ok (.iload_n 3, 1) := by decide +kernel
theorem dX8_leaveRest_16 : decode cX8_leaveRest 16 = .ok (.ifCond .ne 19, 3) := by decide +kernel
theorem dX8_leaveRest_19 : decode cX8_leaveRest 19 = .ok (.aload_n 0, 1) := by decide +kernel
theorem dX8_leaveRest_20 : decode cX8_leaveRest 20 = .ok (.getfield 31, 3) := by decide +kernel
theorem dX8_leaveRest_23 : decode cX8_leaveRest 23 = .ok (.lload_n 1, 1) := by decide +kernel
theorem dX8_leaveRest_24 : decode cX8_leaveRest 24 = .ok (.aload_n 0, 1) := by decide +kernel
theorem dX8_leaveRest_25 : decode cX8_leaveRest 25 = .ok (.getfield 9, 3) := by decide +kernel
theorem dX8_leaveRest_28 : decode cX8_leaveRest 28 = .ok (.iconst 0, 1) := by decide +kernel
theorem dX8_leaveRest_29 : decode cX8_leaveRest 29 = .ok (.laload, 1) := by decide +kernel
theorem dX8_leaveRest_30 : decode cX8_leaveRest 30 = .ok (.lsub, 1) := by decide +kernel
theorem dX8_leaveRest_31 : decode cX8_leaveRest 31 = .ok (.lsub, 1) := by decide +kernel
theorem dX8_leaveRest_32 : decode cX8_leaveRest 32 = .ok (.goto 9, 3) := by decide +kernel
theorem dX8_leaveRest_35 : decode cX8_leaveRest 35 = .ok (.aload_n 0, 1) := by decide +kernel
theorem dX8_leaveRest_36 : decode cX8_leaveRest 36 = .ok (.getfield 9, 3) := by decide +kernel
theorem dX8_leaveRest_39 : decode cX8_leaveRest 39 = .ok (.iload_n 3, 1) := by decide +kernel
theorem dX8_leaveRest_40 : decode cX8_leaveRest 40 = .ok (.laload, 1) := by decide +kernel
theorem dX8_leaveRest_41 : decode cX8_leaveRest 41 = .ok (.lastore, 1) := by decide +kernel
theorem dX8_leaveRest_42 : decode cX8_leaveRest 42 = .ok (.iinc 3 1, 3) := by decide +kernel
theorem dX8_leaveRest_45 : decode cX8_leaveRest 45 = .ok (.goto (-43), 3) := by decide +kernel
theorem dX8_leaveRest_48 : decode cX8_leaveRest 48 = .ok (.return_, 1) := by decide +kernel
theorem dX8_byWeights_0 : decode cX8_byWeights 0 = .ok (.lload_n 1, 1) := by decide +kernel
theorem dX8_byWeights_1 : decode cX8_byWeights 1 = .ok (.lconst 0, 1) := by decide +kernel
theorem dX8_byWeights_2 : decode cX8_byWeights 2 = .ok (.lcmp, 1) := by decide +kernel
theorem dX8_byWeights_3 : decode cX8_byWeights 3 = .ok (.ifCond .gt 4, 3) := by decide +kernel
theorem dX8_byWeights_6 : decode cX8_byWeights 6 = .ok (.return_, 1) := by decide +kernel
theorem dX8_byWeights_7 : decode cX8_byWeights 7 = .ok (.aload_n 0, 1) := by decide +kernel
theorem dX8_byWeights_8 : decode cX8_byWeights 8 = .ok (.getfield 31, 3) := by decide +kernel
theorem dX8_byWeights_11 : decode cX8_byWeights 11 = .ok (.lstore_n 3, 1) := by decide +kernel
theorem dX8_byWeights_12 : decode cX8_byWeights 12 = .ok (.iconst 0, 1) := by decide +kernel
theorem dX8_byWeights_13 : decode cX8_byWeights 13 = .ok (.istore 5, 2) := by decide +kernel
theorem dX8_byWeights_15 : decode cX8_byWeights 15 = .ok (.iload 5, 2) := by decide +kernel
theorem dX8_byWeights_17 : decode cX8_byWeights 17 = .ok (.aload_n 0, 1) := by decide +kernel
theorem dX8_byWeights_18 : decode cX8_byWeights 18 = .ok (.getfield 27, 3) := by decide +kernel
theorem dX8_byWeights_21 : decode cX8_byWeights 21 = .ok (.if_icmp .ge 61, 3) := by decide +kernel
theorem dX8_byWeights_24 : decode cX8_byWeights 24 = .ok (.aload_n 0, 1) := by decide +kernel
theorem dX8_byWeights_25 : decode cX8_byWeights 25 = .ok (.getfield 15, 3) := by decide +kernel
theorem dX8_byWeights_28 : decode cX8_byWeights 28 = .ok (.iload 5, 2) := by decide +kernel
theorem dX8_byWeights_30 : decode cX8_byWeights 30 = .ok (.aload_n 0, 1) := by decide +kernel
theorem dX8_byWeights_31 : decode cX8_byWeights 31 = .ok (.getfield 31, 3) := by decide +kernel
theorem dX8_byWeights_34 : decode cX8_byWeights 34 = .ok (.aload_n 0, 1) := by decide +kernel
theorem dX8_byWeights_35 : decode cX8_byWeights 35 = .ok (.getfield 9, 3) := by decide +kernel
theorem dX8_byWeights_38 : decode cX8_byWeights 38 = .ok (.iload 5, 2) := by decide +kernel
theorem dX8_byWeights_40 : decode cX8_byWeights 40 = .ok (.laload, 1) := by decide +kernel
theorem dX8_byWeights_41 : decode cX8_byWeights 41 = .ok (.lmul, 1) := by decide +kernel
theorem dX8_byWeights_42 : decode cX8_byWeights 42 = .ok (.lload_n 1, 1) := by decide +kernel
theorem dX8_byWeights_43 : decode cX8_byWeights 43 = .ok (.ldiv, 1) := by decide +kernel
theorem dX8_byWeights_44 : decode cX8_byWeights 44 = .ok (.lastore, 1) := by decide +kernel
theorem dX8_byWeights_45 : decode cX8_byWeights 45 = .ok (.aload_n 0, 1) := by decide +kernel
theorem dX8_byWeights_46 : decode cX8_byWeights 46 = .ok (.getfield 18, 3) := by decide +kernel
theorem dX8_byWeights_49 : decode cX8_byWeights 49 = .ok (.iload 5, 2) := by decide +kernel
theorem dX8_byWeights_51 : decode cX8_byWeights 51 = .ok (.aload_n 0, 1) := by decide +kernel
theorem dX8_byWeights_52 : decode cX8_byWeights 52 = .ok (.getfield 31, 3) := by decide +kernel
theorem dX8_byWeights_55 : decode cX8_byWeights 55 = .ok (.aload_n 0, 1) := by decide +kernel
theorem dX8_byWeights_56 : decode cX8_byWeights 56 = .ok (.getfield 9, 3) := by decide +kernel
theorem dX8_byWeights_59 : decode cX8_byWeights 59 = .ok (.iload 5, 2) := by decide +kernel
theorem dX8_byWeights_61 : decode cX8_byWeights 61 = .ok (.laload, 1) := by decide +kernel
theorem dX8_byWeights_62 : decode cX8_byWeights 62 = .ok (.lmul, 1) := by decide +kernel
theorem dX8_byWeights_63 : decode cX8_byWeights 63 = .ok (.lload_n 1, 1) := by decide +kernel
theorem dX8_byWeights_64 : decode cX8_byWeights 64 = .ok (.lrem, 1) := by decide +kernel
theorem dX8_byWeights_65 : decode cX8_byWeights 65 = .ok (.lastore, 1) := by decide +kernel
theorem dX8_byWeights_66 : decode cX8_byWeights 66 = .ok (.lload_n 3, 1) := by decide +kernel
theorem dX8_byWeights_67 : decode cX8_byWeights 67 = .ok (.aload_n 0, 1) := by decide +kernel
theorem dX8_byWeights_68 : decode cX8_byWeights 68 = .ok (.getfield 15, 3) := by decide +kernel
theorem dX8_byWeights_71 : decode cX8_byWeights 71 = .ok (.iload 5, 2) := by decide +kernel
theorem dX8_byWeights_73 : decode cX8_byWeights 73 = .ok (.laload, 1) := by decide +kernel
theorem dX8_byWeights_74 : decode cX8_byWeights 74 = .ok (.lsub, 1) := by decide +kernel
theorem dX8_byWeights_75 : decode cX8_byWeights 75 = .ok (.lstore_n 3, 1) := by decide +kernel
theorem dX8_byWeights_76 : decode cX8_byWeights 76 = .ok (.iinc 5 1, 3) := by decide +kernel
theorem dX8_byWeights_79 : decode cX8_byWeights 79 = .ok (.goto (-64), 3) := by decide +kernel
theorem dX8_byWeights_82 : decode cX8_byWeights 82 = .ok (.iconst 0, 1) := by decide +kernel
theorem dX8_byWeights_83 : decode cX8_byWeights 83 = .ok (.istore 5, 2) := by decide +kernel
theorem dX8_byWeights_85 : decode cX8_byWeights 85 = .ok (.iload 5, 2) := by decide +kernel
theorem dX8_byWeights_87 : decode cX8_byWeights 87 = .ok (.i2l, 1) := by decide +kernel
theorem dX8_byWeights_88 : decode cX8_byWeights 88 = .ok (.lload_n 3, 1) := by decide +kernel
theorem dX8_byWeights_89 : decode cX8_byWeights 89 = .ok (.lcmp, 1) := by decide +kernel
theorem dX8_byWeights_90 : decode cX8_byWeights 90 = .ok (.ifCond .ge 45, 3) := by decide +kernel
theorem dX8_byWeights_93 : decode cX8_byWeights 93 = .ok (.iload 5, 2) := by decide +kernel
theorem dX8_byWeights_95 : decode cX8_byWeights 95 = .ok (.aload_n 0, 1) := by decide +kernel
theorem dX8_byWeights_96 : decode cX8_byWeights 96 = .ok (.getfield 27, 3) := by decide +kernel
theorem dX8_byWeights_99 : decode cX8_byWeights 99 = .ok (.if_icmp .ge 36, 3) := by decide +kernel
theorem dX8_byWeights_102 : decode cX8_byWeights 102 = .ok (.aload_n 0, 1) := by decide +kernel
theorem dX8_byWeights_103 : decode cX8_byWeights 103 = .ok (.invokevirtual 45, 3) := by decide +kernel
theorem dX8_byWeights_106 : decode cX8_byWeights 106 = .ok (.istore 6, 2) := by decide +kernel
theorem dX8_byWeights_108 : decode cX8_byWeights 108 = .ok (.aload_n 0, 1) := by decide +kernel
theorem dX8_byWeights_109 : decode cX8_byWeights 109 = .ok (.getfield 15, 3) := by decide +kernel
theorem dX8_byWeights_112 : decode cX8_byWeights 112 = .ok (.iload 6, 2) := by decide +kernel
theorem dX8_byWeights_114 : decode cX8_byWeights 114 = .ok (.dup2, 1) := by decide +kernel
theorem dX8_byWeights_115 : decode cX8_byWeights 115 = .ok (.laload, 1) := by decide +kernel
theorem dX8_byWeights_116 : decode cX8_byWeights 116 = .ok (.lconst 1, 1) := by decide +kernel
theorem dX8_byWeights_117 : decode cX8_byWeights 117 = .ok (.ladd, 1) := by decide +kernel
theorem dX8_byWeights_118 : decode cX8_byWeights 118 = .ok (.lastore, 1) := by decide +kernel
theorem dX8_byWeights_119 : decode cX8_byWeights 119 = .ok (.aload_n 0, 1) := by decide +kernel
theorem dX8_byWeights_120 : decode cX8_byWeights 120 = .ok (.getfield 18, 3) := by decide +kernel
theorem dX8_byWeights_123 : decode cX8_byWeights 123 = .ok (.iload 6, 2) := by decide +kernel
theorem dX8_byWeights_125 : decode cX8_byWeights 125 = .ok (.ldc2_w 49, 3) := by decide +kernel
theorem dX8_byWeights_128 : decode cX8_byWeights 128 = .ok (.lastore, 1) := by decide +kernel
theorem dX8_byWeights_129 : decode cX8_byWeights 129 = .ok (.iinc 5 1, 3) := by decide +kernel
theorem dX8_byWeights_132 : decode cX8_byWeights 132 = .ok (.goto (-47), 3) := by decide +kernel
theorem dX8_byWeights_135 : decode cX8_byWeights 135 = .ok (.return_, 1) := by decide +kernel
theorem dX8_greatestRemainder_0 : decode cX8_greatestRemainder 0 = .ok (.iconst 0, 1) := by decide +kernel
theorem dX8_greatestRemainder_1 : decode cX8_greatestRemainder 1 = .ok (.istore_n 1, 1) := by decide +kernel
theorem dX8_greatestRemainder_2 : decode cX8_greatestRemainder 2 = .ok (.iconst 1, 1) := by decide +kernel
theorem dX8_greatestRemainder_3 : decode cX8_greatestRemainder 3 = .ok (.istore_n 2, 1) := by decide +kernel
theorem dX8_greatestRemainder_4 : decode cX8_greatestRemainder 4 = .ok (.iload_n 2, 1) := by decide +kernel
theorem dX8_greatestRemainder_5 : decode cX8_greatestRemainder 5 = .ok (.aload_n 0, 1) := by decide +kernel
theorem dX8_greatestRemainder_6 : decode cX8_greatestRemainder 6 = .ok (.getfield 27, 3) := by decide +kernel
theorem dX8_greatestRemainder_9 : decode cX8_greatestRemainder 9 = .ok (.if_icmp .ge 27, 3) := by decide +kernel
theorem dX8_greatestRemainder_12 : decode cX8_greatestRemainder 12 = .ok (.aload_n 0, 1) := by decide +kernel
theorem dX8_greatestRemainder_13 : decode cX8_greatestRemainder 13 = .ok (.getfield 18, 3) := by decide +kernel
theorem dX8_greatestRemainder_16 : decode cX8_greatestRemainder 16 = .ok (.iload_n 2, 1) := by decide +kernel
theorem dX8_greatestRemainder_17 : decode cX8_greatestRemainder 17 = .ok (.laload, 1) := by decide +kernel
theorem dX8_greatestRemainder_18 : decode cX8_greatestRemainder 18 = .ok (.aload_n 0, 1) := by decide +kernel
theorem dX8_greatestRemainder_19 : decode cX8_greatestRemainder 19 = .ok (.getfield 18, 3) := by decide +kernel
theorem dX8_greatestRemainder_22 : decode cX8_greatestRemainder 22 = .ok (.iload_n 1, 1) := by decide +kernel
theorem dX8_greatestRemainder_23 : decode cX8_greatestRemainder 23 = .ok (.laload, 1) := by decide +kernel
theorem dX8_greatestRemainder_24 : decode cX8_greatestRemainder 24 = .ok (.lcmp, 1) := by decide +kernel
theorem dX8_greatestRemainder_25 : decode cX8_greatestRemainder 25 = .ok (.ifCond .le 5, 3) := by decide +kernel
theorem dX8_greatestRemainder_28 : decode cX8_greatestRemainder 28 = .ok (.iload_n 2, 1) := by decide +kernel
theorem dX8_greatestRemainder_29 : decode cX8_greatestRemainder 29 = .ok (.istore_n 1, 1) := by decide +kernel
theorem dX8_greatestRemainder_30 : decode cX8_greatestRemainder 30 = .ok (.iinc 2 1, 3) := by decide +kernel
theorem dX8_greatestRemainder_33 : decode cX8_greatestRemainder 33 = .ok (.goto (-29), 3) := by decide +kernel
theorem dX8_greatestRemainder_36 : decode cX8_greatestRemainder 36 = .ok (.iload_n 1, 1) := by decide +kernel
theorem dX8_greatestRemainder_37 : decode cX8_greatestRemainder 37 = .ok (.ireturn, 1) := by decide +kernel
theorem dX8_inRange_0 : decode cX8_inRange 0 = .ok (.iconst 0, 1) := by decide +kernel
theorem dX8_inRange_1 : decode cX8_inRange 1 = .ok (.istore_n 1, 1) := by decide +kernel
theorem dX8_inRange_2 : decode cX8_inRange 2 = .ok (.iload_n 1, 1) := by decide +kernel
theorem dX8_inRange_3 : decode cX8_inRange 3 = .ok (.aload_n 0, 1) := by decide +kernel
theorem dX8_inRange_4 : decode cX8_inRange 4 = .ok (.getfield 27, 3) := by decide +kernel
theorem dX8_inRange_7 : decode cX8_inRange 7 = .ok (.if_icmp .ge 37, 3) := by decide +kernel
theorem dX8_inRange_10 : decode cX8_inRange 10 = .ok (.aload_n 0, 1) := by decide +kernel
theorem dX8_inRange_11 : decode cX8_inRange 11 = .ok (.getfield 15, 3) := by decide +kernel
theorem dX8_inRange_14 : decode cX8_inRange 14 = .ok (.iload_n 1, 1) := by decide +kernel
theorem dX8_inRange_15 : decode cX8_inRange 15 = .ok (.laload, 1) := by decide +kernel
theorem dX8_inRange_16 : decode cX8_inRange 16 = .ok (.ldc2_w 51, 3) := by decide +kernel
theorem dX8_inRange_19 : decode cX8_inRange 19 = .ok (.lcmp, 1) := by decide +kernel
theorem dX8_inRange_20 : decode cX8_inRange 20 = .ok (.ifCond .lt 16, 3) := by decide +kernel
theorem dX8_inRange_23 : decode cX8_inRange 23 = .ok (.aload_n 0, 1) := by decide +kernel
theorem dX8_inRange_24 : decode cX8_inRange 24 = .ok (.getfield 15, 3) := by decide +kernel
theorem dX8_inRange_27 : decode cX8_inRange 27 = .ok (.iload_n 1, 1) := by decide +kernel
theorem dX8_inRange_28 : decode cX8_inRange 28 = .ok (.laload, 1) := by decide +kernel
theorem dX8_inRange_29 : decode cX8_inRange 29 = .ok (.ldc2_w 53, 3) := by decide +kernel
theorem dX8_inRange_32 : decode cX8_inRange 32 = .ok (.lcmp, 1) := by decide +kernel
theorem dX8_inRange_33 : decode cX8_inRange 33 = .ok (.ifCond .le 5, 3) := by decide +kernel
theorem dX8_inRange_36 : decode cX8_inRange 36 = .ok (.iconst 0, 1) := by decide +kernel
theorem dX8_inRange_37 : decode cX8_inRange 37 = .ok (.ireturn, 1) := by decide +kernel
theorem dX8_inRange_38 : decode cX8_inRange 38 = .ok (.iinc 1 1, 3) := by decide +kernel
theorem dX8_inRange_41 : decode cX8_inRange 41 = .ok (.goto (-39), 3) := by decide +kernel
theorem dX8_inRange_44 : decode cX8_inRange 44 = .ok (.iconst 1, 1) := by decide +kernel
theorem dX8_inRange_45 : decode cX8_inRange 45 = .ok (.ireturn, 1) := by decide +kernel
theorem dX9_init_0 : decode cX9_init 0 = .ok (.aload_n 0, 1) := by decide +kernel
theorem dX9_init_1 : decode cX9_init 1 = .ok (.invokespecial 3, 3) := by decide +kernel
theorem dX9_init_4 : decode cX9_init 4 = .ok (.aload_n 0, 1) := by decide +kernel
theorem dX9_init_5 : decode cX9_init 5 = .ok (.iconst 1, 1) := by decide +kernel
theorem dX9_init_6 : decode cX9_init 6 = .ok (.putfield 9, 3) := by decide +kernel
theorem dX9_init_9 : decode cX9_init 9 = .ok (.aload_n 0, 1) := by decide +kernel
theorem dX9_init_10 : decode cX9_init 10 = .ok (.bipush 12, 2) := by decide +kernel
theorem dX9_init_12 : decode cX9_init 12 = .ok (.newarray .int, 2) := by decide +kernel
theorem dX9_init_14 : decode cX9_init 14 = .ok (.putfield 15, 3) := by decide +kernel
theorem dX9_init_17 : decode cX9_init 17 = .ok (.aload_n 0, 1) := by decide +kernel
theorem dX9_init_18 : decode cX9_init 18 = .ok (.bipush 12, 2) := by decide +kernel
theorem dX9_init_20 : decode cX9_init 20 = .ok (.newarray .int, 2) := by decide +kernel
theorem dX9_init_22 : decode cX9_init 22 = .ok (.putfield 19, 3) := by decide +kernel
theorem dX9_init_25 : decode cX9_init 25 = .ok (.aload_n 0, 1) := by decide +kernel
theorem dX9_init_26 : decode cX9_init 26 = .ok (.getfield 19, 3) := by decide +kernel
theorem dX9_init_29 : decode cX9_init 29 = .ok (.iconst (-1), 1) := by decide +kernel
theorem dX9_init_30 : decode cX9_init 30 = .ok (.invokestatic 22, 3) := by decide +kernel
theorem dX9_init_33 : decode cX9_init 33 = .ok (.aload_n 0, 1) := by decide +kernel
theorem dX9_init_34 : decode cX9_init 34 = .ok (.getfield 19, 3) := by decide +kernel
theorem dX9_init_37 : decode cX9_init 37 = .ok (.iconst 0, 1) := by decide +kernel
theorem dX9_init_38 : decode cX9_init 38 = .ok (.iconst 0, 1) := by decide +kernel
theorem dX9_init_39 : decode cX9_init 39 = .ok (.iastore, 1) := by decide +kernel
theorem dX9_init_40 : decode cX9_init 40 = .ok (.return_, 1) := by decide +kernel
theorem dX9_placeOf_0 : decode cX9_placeOf 0 = .ok (.iload_n 1, 1) := by decide +kernel
theorem dX9_placeOf_1 : decode cX9_placeOf 1 = .ok (.ifCond .lt 18, 3) := by decide +kernel
theorem dX9_placeOf_4 : decode cX9_placeOf 4 = .ok (.iload_n 1, 1) := by decide +kernel
theorem dX9_placeOf_5 : decode cX9_placeOf 5 = .ok (.bipush 12, 2) := by decide +kernel
theorem dX9_placeOf_7 : decode cX9_placeOf 7 = .ok (.if_icmp .ge 12, 3) := by decide +kernel
theorem dX9_placeOf_10 : decode cX9_placeOf 10 = .ok (.aload_n 0, 1) := by decide +kernel
theorem dX9_placeOf_11 : decode cX9_placeOf 11 = .ok (.getfield 19, 3) := by decide +kernel
theorem dX9_placeOf_14 : decode cX9_placeOf 14 = .ok (.iload_n 1, 1) := by decide +kernel
theorem dX9_placeOf_15 : decode cX9_placeOf 15 = .ok (.iaload, 1) := by decide +kernel
theorem dX9_placeOf_16 : decode cX9_placeOf 16 = .ok (.goto 4, 3) := by decide +kernel
theorem dX9_placeOf_19 : decode cX9_placeOf 19 = .ok (.iconst (-1), 1) := by decide +kernel
theorem dX9_placeOf_20 : decode cX9_placeOf 20 = .ok (.ireturn, 1) := by decide +kernel
theorem dX9_insert_0 : decode cX9_insert 0 = .ok (.aload_n 0, 1) := by decide +kernel
theorem dX9_insert_1 : decode cX9_insert 1 = .ok (.getfield 9, 3) := by decide +kernel
theorem dX9_insert_4 : decode cX9_insert 4 = .ok (.bipush 12, 2) := by decide +kernel
theorem dX9_insert_6 : decode cX9_insert 6 = .ok (.if_icmp .ge 13, 3) := by decide +kernel
theorem dX9_insert_9 : decode cX9_insert 9 = .ok (.iload_n 1, 1) := by decide +kernel
theorem dX9_insert_10 : decode cX9_insert 10 = .ok (.ifCond .lt 9, 3) := by decide +kernel
theorem dX9_insert_13 : decode cX9_insert 13 = .ok (.iload_n 1, 1) := by decide +kernel
theorem dX9_insert_14 : decode cX9_insert 14 = .ok (.bipush 12, 2) := by decide +kernel
theorem dX9_insert_16 : decode cX9_insert 16 = .ok (.if_icmp .lt 4, 3) := by decide +kernel
theorem dX9_insert_19 : decode cX9_insert 19 = .ok (.return_, 1) := by decide +kernel
theorem dX9_insert_20 : decode cX9_insert 20 = .ok (.aload_n 0, 1) := by decide +kernel
theorem dX9_insert_21 : decode cX9_insert 21 = .ok (.iload_n 2, 1) := by decide +kernel
theorem dX9_insert_22 : decode cX9_insert 22 = .ok (.invokevirtual 28, 3) := by decide +kernel
theorem dX9_insert_25 : decode cX9_insert 25 = .ok (.iconst 1, 1) := by decide +kernel
theorem dX9_insert_26 : decode cX9_insert 26 = .ok (.iadd, 1) := by decide +kernel
theorem dX9_insert_27 : decode cX9_insert 27 = .ok (.istore 4, 2) := by decide +kernel
theorem dX9_insert_29 : decode cX9_insert 29 = .ok (.iload 4, 2) := by decide +kernel
theorem dX9_insert_31 : decode cX9_insert 31 = .ok (.aload_n 0, 1) := by decide +kernel
theorem dX9_insert_32 : decode cX9_insert 32 = .ok (.getfield 9, 3) := by decide +kernel
theorem dX9_insert_35 : decode cX9_insert 35 = .ok (.if_icmp .ge 28, 3) := by decide +kernel
theorem dX9_insert_38 : decode cX9_insert 38 = .ok (.aload_n 3, 1) := by decide +kernel
theorem dX9_insert_39 : decode cX9_insert 39 = .ok (.aload_n 0, 1) := by decide +kernel
theorem dX9_insert_40 : decode cX9_insert 40 = .ok (.getfield 15, 3) := by decide +kernel
theorem dX9_insert_43 : decode cX9_insert 43 = .ok (.iload 4, 2) := by decide +kernel
theorem dX9_insert_45 : decode cX9_insert 45 = .ok (.iaload, 1) := by decide +kernel
theorem dX9_insert_46 : decode cX9_insert 46 = .ok (.invokevirtual 32, 3) := by decide +kernel
theorem dX9_insert_49 : decode cX9_insert 49 = .ok (.aload_n 3, 1) := by decide +kernel
theorem dX9_insert_50 : decode cX9_insert 50 = .ok (.iload_n 2, 1) := by decide +kernel
theorem dX9_insert_51 : decode cX9_insert 51 = .ok (.invokevirtual 32, 3) := by decide +kernel
theorem dX9_insert_54 : decode cX9_insert 54 = .ok (.if_icmp .le 9, 3) := by decide +kernel
theorem dX9_insert_57 : decode cX9_insert 57 = .ok (.iinc 4 1, 3) := by decide +kernel
theorem dX9_insert_60 : decode cX9_insert 60 = .ok (.goto (-31), 3) := by decide +kernel
theorem dX9_insert_63 : decode cX9_insert 63 = .ok (.aload_n 0, 1) := by decide +kernel
theorem dX9_insert_64 : decode cX9_insert 64 = .ok (.getfield 9, 3) := by decide +kernel
theorem dX9_insert_67 : decode cX9_insert 67 = .ok (.istore 5, 2) := by decide +kernel
theorem dX9_insert_69 : decode cX9_insert 69 = .ok (.iload 5, 2) := by decide +kernel
theorem dX9_insert_71 : decode cX9_insert 71 = .ok (.iload 4, 2) := by decide +kernel
theorem dX9_insert_73 : decode cX9_insert 73 = .ok (.if_icmp .le 39, 3) := by decide +kernel
theorem dX9_insert_76 : decode cX9_insert 76 = .ok (.aload_n 0, 1) := by decide +kernel
theorem dX9_insert_77 : decode cX9_insert 77 = .ok (.getfield 15, 3) := by decide +kernel
theorem dX9_insert_80 : decode cX9_insert 80 = .ok (.iload 5, 2) := by decide +kernel
theorem dX9_insert_82 : decode cX9_insert 82 = .ok (.aload_n 0, 1) := by decide +kernel
theorem dX9_insert_83 : decode cX9_insert 83 = .ok (.getfield 15, 3) := by decide +kernel
theorem dX9_insert_86 : decode cX9_insert 86 = .ok (.iload 5, 2) := by decide +kernel
theorem dX9_insert_88 : decode cX9_insert 88 = .ok (.iconst 1, 1) := by decide +kernel
theorem dX9_insert_89 : decode cX9_insert 89 = .ok (.isub, 1) := by decide +kernel
theorem dX9_insert_90 : decode cX9_insert 90 = .ok (.iaload, 1) := by decide +kernel
theorem dX9_insert_91 : decode cX9_insert 91 = .ok (.iastore, 1) := by decide +kernel
theorem dX9_insert_92 : decode cX9_insert 92 = .ok (.aload_n 0, 1) := by decide +kernel
theorem dX9_insert_93 : decode cX9_insert 93 = .ok (.getfield 19, 3) := by decide +kernel
theorem dX9_insert_96 : decode cX9_insert 96 = .ok (.aload_n 0, 1) := by decide +kernel
theorem dX9_insert_97 : decode cX9_insert 97 = .ok (.getfield 15, 3) := by decide +kernel
theorem dX9_insert_100 : decode cX9_insert 100 = .ok (.iload 5, 2) := by decide +kernel
theorem dX9_insert_102 : decode cX9_insert 102 = .ok (.iaload, 1) := by decide +kernel
theorem dX9_insert_103 : decode cX9_insert 103 = .ok (.iload 5, 2) := by decide +kernel
theorem dX9_insert_105 : decode cX9_insert 105 = .ok (.iastore, 1) := by decide +kernel
theorem dX9_insert_106 : decode cX9_insert 106 = .ok (.iinc 5 (-1), 3) := by decide +kernel
theorem dX9_insert_109 : decode cX9_insert 109 = .ok (.goto (-40), 3) := by decide +kernel
theorem dX9_insert_112 : decode cX9_insert 112 = .ok (.aload_n 0, 1) := by decide +kernel
theorem dX9_insert_113 : decode cX9_insert 113 = .ok (.getfield 15, 3) := by decide +kernel
theorem dX9_insert_116 : decode cX9_insert 116 = .ok (.iload 4, 2) := by decide +kernel
theorem dX9_insert_118 : decode cX9_insert 118 = .ok (.iload_n 1, 1) := by decide +kernel
theorem dX9_insert_119 : decode cX9_insert 119 = .ok (.iastore, 1) := by decide +kernel
theorem dX9_insert_120 : decode cX9_insert 120 = .ok (.aload_n 0, 1) := by decide +kernel
theorem dX9_insert_121 : decode cX9_insert 121 = .ok (.getfield 19, 3) := by decide +kernel
theorem dX9_insert_124 : decode cX9_insert 124 = .ok (.iload_n 1, 1) := by decide +kernel
theorem dX9_insert_125 : decode cX9_insert 125 = .ok (.iload 4, 2) := by decide +kernel
theorem dX9_insert_127 : decode cX9_insert 127 = .ok (.iastore, 1) := by decide +kernel
theorem dX9_insert_128 : decode cX9_insert 128 = .ok (.aload_n 0, 1) := by decide +kernel
theorem dX9_insert_129 : decode cX9_insert 129 = .ok (.dup, 1) := by decide +kernel
theorem dX9_insert_130 : decode cX9_insert 130 = .ok (.getfield 9, 3) := by decide +kernel
theorem dX9_insert_133 : decode cX9_insert 133 = .ok (.iconst 1, 1) := by decide +kernel
theorem dX9_insert_134 : decode cX9_insert 134 = .ok (.iadd, 1) := by decide +kernel
theorem dX9_insert_135 : decode cX9_insert 135 = .ok (.putfield 9, 3) := by decide +kernel
theorem dX9_insert_138 : decode cX9_insert 138 = .ok (.return_, 1) := by decide +kernel
theorem dX9_ahead_0 : decode cX9_ahead 0 = .ok (.iload_n 2, 1) := by decide +kernel
theorem dX9_ahead_1 : decode cX9_ahead 1 = .ok (.istore 4, 2) := by decide +kernel
theorem dX9_ahead_3 : decode cX9_ahead 3 = .ok (.aload_n 0, 1) := by decide +kernel
theorem dX9_ahead_4 : decode cX9_ahead 4 = .ok (.iload_n 1, 1) := by decide +kernel
theorem dX9_ahead_5 : decode cX9_ahead 5 = .ok (.invokevirtual 28, 3) := by decide +kernel
theorem dX9_ahead_8 : decode cX9_ahead 8 = .ok (.iconst 1, 1) := by decide +kernel
theorem dX9_ahead_9 : decode cX9_ahead 9 = .ok (.isub, 1) := by decide +kernel
theorem dX9_ahead_10 : decode cX9_ahead 10 = .ok (.istore 5, 2) := by decide +kernel
theorem dX9_ahead_12 : decode cX9_ahead 12 = .ok (.iload 5, 2) := by decide +kernel
theorem dX9_ahead_14 : decode cX9_ahead 14 = .ok (.ifCond .lt 53, 3) := by decide +kernel
theorem dX9_ahead_17 : decode cX9_ahead 17 = .ok (.iload 5, 2) := by decide +kernel
theorem dX9_ahead_19 : decode cX9_ahead 19 = .ok (.aload_n 0, 1) := by decide +kernel
theorem dX9_ahead_20 : decode cX9_ahead 20 = .ok (.getfield 9, 3) := by decide +kernel
theorem dX9_ahead_23 : decode cX9_ahead 23 = .ok (.if_icmp .ge 44, 3) := by decide +kernel
theorem dX9_ahead_26 : decode cX9_ahead 26 = .ok (.aload_n 3, 1) := by decide +kernel
theorem dX9_ahead_27 : decode cX9_ahead 27 = .ok (.aload_n 0, 1) := by decide +kernel
theorem dX9_ahead_28 : decode cX9_ahead 28 = .ok (.getfield 15, 3) := by decide +kernel
theorem dX9_ahead_31 : decode cX9_ahead 31 = .ok (.iload 5, 2) := by decide +kernel
theorem dX9_ahead_33 : decode cX9_ahead 33 = .ok (.iaload, 1) := by decide +kernel
theorem dX9_ahead_34 : decode cX9_ahead 34 = .ok (.invokevirtual 32, 3) := by decide +kernel
theorem dX9_ahead_37 : decode cX9_ahead 37 = .ok (.aload_n 3, 1) := by decide +kernel
theorem dX9_ahead_38 : decode cX9_ahead 38 = .ok (.iload_n 1, 1) := by decide +kernel
theorem dX9_ahead_39 : decode cX9_ahead 39 = .ok (.invokevirtual 32, 3) := by decide +kernel
theorem dX9_ahead_42 : decode cX9_ahead 42 = .ok (.if_icmp .ne 19, 3) := by decide +kernel
theorem dX9_ahead_45 : decode cX9_ahead 45 = .ok (.iinc 4 (-1), 3) := by decide +kernel
theorem dX9_ahead_48 : decode cX9_ahead 48 = .ok (.iload 4, 2) := by decide +kernel
theorem dX9_ahead_50 : decode cX9_ahead 50 = .ok (.ifCond .ne 11, 3) := by decide +kernel
theorem dX9_ahead_53 : decode cX9_ahead 53 = .ok (.aload_n 0, 1) := by decide +kernel
theorem dX9_ahead_54 : decode cX9_ahead 54 = .ok (.getfield 15, 3) := by decide +kernel
theorem dX9_ahead_57 : decode cX9_ahead 57 = .ok (.iload 5, 2) := by decide +kernel
theorem dX9_ahead_59 : decode cX9_ahead 59 = .ok (.iaload, 1) := by decide +kernel
theorem dX9_ahead_60 : decode cX9_ahead 60 = .ok (.ireturn, 1) := by decide +kernel
theorem dX9_ahead_61 : decode cX9_ahead 61 = .ok (.iinc 5 (-1), 3) := by decide +kernel
theorem dX9_ahead_64 : decode cX9_ahead 64 = .ok (.goto (-52), 3) := by decide +kernel
theorem dX9_ahead_67 : decode cX9_ahead 67 = .ok (.iconst (-1), 1) := by decide +kernel
theorem dX9_ahead_68 : decode cX9_ahead 68 = .ok (.ireturn, 1) := by decide +kernel
theorem dX10_init_0 : decode cX10_init 0 = .ok (.aload_n 0, 1) := by decide +kernel
theorem dX10_init_1 : decode cX10_init 1 = .ok (.invokespecial 3, 3) := by decide +kernel
theorem dX10_init_4 : decode cX10_init 4 = .ok (.aload_n 0, 1) := by decide +kernel
theorem dX10_init_5 : decode cX10_init 5 = .ok (.new 9, 3) := by decide +kernel
theorem dX10_init_8 : decode cX10_init 8 = .ok (.dup, 1) := by decide +kernel
theorem dX10_init_9 : decode cX10_init 9 = .ok (.invokespecial 11, 3) := by decide +kernel
theorem dX10_init_12 : decode cX10_init 12 = .ok (.putfield 12, 3) := by decide +kernel
theorem dX10_init_15 : decode cX10_init 15 = .ok (.aload_n 0, 1) := by decide +kernel
theorem dX10_init_16 : decode cX10_init 16 = .ok (.new 18, 3) := by decide +kernel
theorem dX10_init_19 : decode cX10_init 19 = .ok (.dup, 1) := by decide +kernel
theorem dX10_init_20 : decode cX10_init 20 = .ok (.invokespecial 20, 3) := by decide +kernel
theorem dX10_init_23 : decode cX10_init 23 = .ok (.putfield 21, 3) := by decide +kernel
theorem dX10_init_26 : decode cX10_init 26 = .ok (.aload_n 0, 1) := by decide +kernel
theorem dX10_init_27 : decode cX10_init 27 = .ok (.new 25, 3) := by decide +kernel
theorem dX10_init_30 : decode cX10_init 30 = .ok (.dup, 1) := by decide +kernel
theorem dX10_init_31 : decode cX10_init 31 = .ok (.invokespecial 27, 3) := by decide +kernel
theorem dX10_init_34 : decode cX10_init 34 = .ok (.putfield 28, 3) := by decide +kernel
theorem dX10_init_37 : decode cX10_init 37 = .ok (.aload_n 0, 1) := by decide +kernel
theorem dX10_init_38 : decode cX10_init 38 = .ok (.new 32, 3) := by decide +kernel
theorem dX10_init_41 : decode cX10_init 41 = .ok (.dup, 1) := by decide +kernel
theorem dX10_init_42 : decode cX10_init 42 = .ok (.invokespecial 34, 3) := by decide +kernel
theorem dX10_init_45 : decode cX10_init 45 = .ok (.putfield 35, 3) := by decide +kernel
theorem dX10_init_48 : decode cX10_init 48 = .ok (.aload_n 0, 1) := by decide +kernel
theorem dX10_init_49 : decode cX10_init 49 = .ok (.new 39, 3) := by decide +kernel
theorem dX10_init_52 : decode cX10_init 52 = .ok (.dup, 1) := by decide +kernel
theorem dX10_init_53 : decode cX10_init 53 = .ok (.invokespecial 41, 3) := by decide +kernel
theorem dX10_init_56 : decode cX10_init 56 = .ok (.putfield 42, 3) := by decide +kernel
theorem dX10_init_59 : decode cX10_init 59 = .ok (.aload_n 0, 1) := by decide +kernel
theorem dX10_init_60 : decode cX10_init 60 = .ok (.new 46, 3) := by decide +kernel
theorem dX10_init_63 : decode cX10_init 63 = .ok (.dup, 1) := by decide +kernel
theorem dX10_init_64 : decode cX10_init 64 = .ok (.aload_n 0, 1) := by decide +kernel
theorem dX10_init_65 : decode cX10_init 65 = .ok (.getfield 12, 3) := by decide +kernel
theorem dX10_init_68 : decode cX10_init 68 = .ok (.aload_n 0, 1) := by decide +kernel
theorem dX10_init_69 : decode cX10_init 69 = .ok (.getfield 21, 3) := by decide +kernel
theorem dX10_init_72 : decode cX10_init 72 = .ok (.aload_n 0, 1) := by decide +kernel
theorem dX10_init_73 : decode cX10_init 73 = .ok (.getfield 28, 3) := by decide +kernel
theorem dX10_init_76 : decode cX10_init 76 = .ok (.invokespecial 48, 3) := by decide +kernel
theorem dX10_init_79 : decode cX10_init 79 = .ok (.putfield 51, 3) := by decide +kernel
theorem dX10_init_82 : decode cX10_init 82 = .ok (.aload_n 0, 1) := by decide +kernel
theorem dX10_init_83 : decode cX10_init 83 = .ok (.new 55, 3) := by decide +kernel
theorem dX10_init_86 : decode cX10_init 86 = .ok (.dup, 1) := by decide +kernel
theorem dX10_init_87 : decode cX10_init 87 = .ok (.invokespecial 57, 3) := by decide +kernel
theorem dX10_init_90 : decode cX10_init 90 = .ok (.putfield 58, 3) := by decide +kernel
theorem dX10_init_93 : decode cX10_init 93 = .ok (.return_, 1) := by decide +kernel
theorem dX10_member_0 : decode cX10_member 0 = .ok (.aload_n 0, 1) := by decide +kernel
theorem dX10_member_1 : decode cX10_member 1 = .ok (.iload_n 1, 1) := by decide +kernel
theorem dX10_member_2 : decode cX10_member 2 = .ok (.invokevirtual 62, 3) := by decide +kernel
theorem dX10_member_5 : decode cX10_member 5 = .ok (.astore 4, 2) := by decide +kernel
theorem dX10_member_7 : decode cX10_member 7 = .ok (.aload 4, 2) := by decide +kernel
theorem dX10_member_9 : decode cX10_member 9 = .ok (.iload_n 2, 1) := by decide +kernel
theorem dX10_member_10 : decode cX10_member 10 = .ok (.invokestatic 66, 3) := by decide +kernel
theorem dX10_member_13 : decode cX10_member 13 = .ok (.iload_n 3, 1) := by decide +kernel
theorem dX10_member_14 : decode cX10_member 14 = .ok (.iconst (-1), 1) := by decide +kernel
theorem dX10_member_15 : decode cX10_member 15 = .ok (.iconst 1, 1) := by decide +kernel
theorem dX10_member_16 : decode cX10_member 16 = .ok (.invokestatic 70, 3) := by decide +kernel
theorem dX10_member_19 : decode cX10_member 19 = .ok (.aload 4, 2) := by decide +kernel
theorem dX10_member_21 : decode cX10_member 21 = .ok (.iload_n 2, 1) := by decide +kernel
theorem dX10_member_22 : decode cX10_member 22 = .ok (.invokevirtual 74, 3) := by decide +kernel
theorem dX10_member_25 : decode cX10_member 25 = .ok (.ifCond .eq 17, 3) := by decide +kernel
theorem dX10_member_28 : decode cX10_member 28 = .ok (.aload 4, 2) := by decide +kernel
theorem dX10_member_30 : decode cX10_member 30 = .ok (.getfield 80, 3) := by decide +kernel
theorem dX10_member_33 : decode cX10_member 33 = .ok (.bipush 12, 2) := by decide +kernel
theorem dX10_member_35 : decode cX10_member 35 = .ok (.if_icmp .ge 7, 3) := by decide +kernel
theorem dX10_member_38 : decode cX10_member 38 = .ok (.iconst 1, 1) := by decide +kernel
theorem dX10_member_39 : decode cX10_member 39 = .ok (.goto 4, 3) := by decide +kernel
theorem dX10_member_42 : decode cX10_member 42 = .ok (.iconst 0, 1) := by decide +kernel
theorem dX10_member_43 : decode cX10_member 43 = .ok (.invokestatic 84, 3) := by decide +kernel
theorem dX10_member_46 : decode cX10_member 46 = .ok (.aload 4, 2) := by decide +kernel
theorem dX10_member_48 : decode cX10_member 48 = .ok (.iload_n 2, 1) := by decide +kernel
theorem dX10_member_49 : decode cX10_member 49 = .ok (.iload_n 3, 1) := by decide +kernel
theorem dX10_member_50 : decode cX10_member 50 = .ok (.invokevirtual 88, 3) := by decide +kernel
theorem dX10_member_53 : decode cX10_member 53 = .ok (.istore 5, 2) := by decide +kernel
theorem dX10_member_55 : decode cX10_member 55 = .ok (.iload_n 1, 1) := by decide +kernel
theorem dX10_member_56 : decode cX10_member 56 = .ok (.ifCond .ne 18, 3) := by decide +kernel
theorem dX10_member_59 : decode cX10_member 59 = .ok (.aload_n 0, 1) := by decide +kernel
theorem dX10_member_60 : decode cX10_member 60 = .ok (.getfield 12, 3) := by decide +kernel
theorem dX10_member_63 : decode cX10_member 63 = .ok (.getfield 92, 3) := by decide +kernel
theorem dX10_member_66 : decode cX10_member 66 = .ok (.iload 5, 2) := by decide +kernel
theorem dX10_member_68 : decode cX10_member 68 = .ok (.iload_n 2, 1) := by decide +kernel
theorem dX10_member_69 : decode cX10_member 69 = .ok (.aload 4, 2) := by decide +kernel
theorem dX10_member_71 : decode cX10_member 71 = .ok (.invokevirtual 96, 3) := by decide +kernel
theorem dX10_member_74 : decode cX10_member 74 = .ok (.aload_n 0, 1) := by decide +kernel
theorem dX10_member_75 : decode cX10_member 75 = .ok (.getfield 12, 3) := by decide +kernel
theorem dX10_member_78 : decode cX10_member 78 = .ok (.invokevirtual 102, 3) := by decide +kernel
theorem dX10_member_81 : decode cX10_member 81 = .ok (.aload_n 0, 1) := by decide +kernel
theorem dX10_member_82 : decode cX10_member 82 = .ok (.getfield 35, 3) := by decide +kernel
theorem dX10_member_85 : decode cX10_member 85 = .ok (.invokevirtual 105, 3) := by decide +kernel
theorem dX10_member_88 : decode cX10_member 88 = .ok (.iload 5, 2) := by decide +kernel
theorem dX10_member_90 : decode cX10_member 90 = .ok (.ireturn, 1) := by decide +kernel
theorem dX10_bridge_0 : decode cX10_bridge 0 = .ok (.aload_n 0, 1) := by decide +kernel
theorem dX10_bridge_1 : decode cX10_bridge 1 = .ok (.iload_n 1, 1) := by decide +kernel
theorem dX10_bridge_2 : decode cX10_bridge 2 = .ok (.invokevirtual 62, 3) := by decide +kernel
theorem dX10_bridge_5 : decode cX10_bridge 5 = .ok (.astore_n 3, 1) := by decide +kernel
theorem dX10_bridge_6 : decode cX10_bridge 6 = .ok (.iload_n 2, 1) := by decide +kernel
theorem dX10_bridge_7 : decode cX10_bridge 7 = .ok (.iconst 1, 1) := by decide +kernel
theorem dX10_bridge_8 : decode cX10_bridge 8 = .ok (.if_icmp .lt 14, 3) := by decide +kernel
theorem dX10_bridge_11 : decode cX10_bridge 11 = .ok (.iload_n 2, 1) := by decide +kernel
theorem dX10_bridge_12 : decode cX10_bridge 12 = .ok (.sipush 4095, 3) := by decide +kernel
theorem dX10_bridge_15 : decode cX10_bridge 15 = .ok (.if_icmp .gt 7, 3) := by decide +kernel
theorem dX10_bridge_18 : decode cX10_bridge 18 = .ok (.iconst 1, 1) := by decide +kernel
theorem dX10_bridge_19 : decode cX10_bridge 19 = .ok (.goto 4, 3) := by decide +kernel
theorem dX10_bridge_22 : decode cX10_bridge 22 = .ok (.iconst 0, 1) := by decide +kernel
theorem dX10_bridge_23 : decode cX10_bridge 23 = .ok (.istore 4, 2) := by decide +kernel
theorem dX10_bridge_25 : decode cX10_bridge 25 = .ok (.iload 4, 2) := by decide +kernel
theorem dX10_bridge_27 : decode cX10_bridge 27 = .ok (.ifCond .eq 22, 3) := by decide +kernel
theorem dX10_bridge_30 : decode cX10_bridge 30 = .ok (.iload_n 2, 1) := by decide +kernel
theorem dX10_bridge_31 : decode cX10_bridge 31 = .ok (.aload_n 3, 1) := by decide +kernel
theorem dX10_bridge_32 : decode cX10_bridge 32 = .ok (.getfield 80, 3) := by decide +kernel
theorem dX10_bridge_35 : decode cX10_bridge 35 = .ok (.ishr, 1) := by decide +kernel
theorem dX10_bridge_36 : decode cX10_bridge 36 = .ok (.ifCond .eq 13, 3) := by decide +kernel
theorem dX10_bridge_39 : decode cX10_bridge 39 = .ok (.new 108, 3) := by decide +kernel
theorem dX10_bridge_42 : decode cX10_bridge 42 = .ok (.dup, 1) := by decide +kernel
theorem dX10_bridge_43 : decode cX10_bridge 43 = .ok (.ldc 110, 2) := by decide +kernel
theorem dX10_bridge_45 : decode cX10_bridge 45 = .ok (.invokespecial 112, 3) := by decide +kernel
theorem dX10_bridge_48 : decode cX10_bridge 48 = .ok (.athrow, 1) := by decide +kernel
theorem dX10_bridge_49 : decode cX10_bridge 49 = .ok (.iload_n 2, 1) := by decide +kernel
theorem dX10_bridge_50 : decode cX10_bridge 50 = .ok (.iconst 1, 1) := by decide +kernel
theorem dX10_bridge_51 : decode cX10_bridge 51 = .ok (.sipush 4095, 3) := by decide +kernel
theorem dX10_bridge_54 : decode cX10_bridge 54 = .ok (.invokestatic 70, 3) := by decide +kernel
theorem dX10_bridge_57 : decode cX10_bridge 57 = .ok (.iload_n 2, 1) := by decide +kernel
theorem dX10_bridge_58 : decode cX10_bridge 58 = .ok (.invokestatic 115, 3) := by decide +kernel
theorem dX10_bridge_61 : decode cX10_bridge 61 = .ok (.iconst 5, 1) := by decide +kernel
theorem dX10_bridge_62 : decode cX10_bridge 62 = .ok (.if_icmp .gt 15, 3) := by decide +kernel
theorem dX10_bridge_65 : decode cX10_bridge 65 = .ok (.aload_n 3, 1) := by decide +kernel
theorem dX10_bridge_66 : decode cX10_bridge 66 = .ok (.iload_n 2, 1) := by decide +kernel
theorem dX10_bridge_67 : decode cX10_bridge 67 = .ok (.invokevirtual 121, 3) := by decide +kernel
theorem dX10_bridge_70 : decode cX10_bridge 70 = .ok (.ifCond .eq 7, 3) := by decide +kernel
theorem dX10_bridge_73 : decode cX10_bridge 73 = .ok (.iconst 1, 1) := by decide +kernel
theorem dX10_bridge_74 : decode cX10_bridge 74 = .ok (.goto 4, 3) := by decide +kernel
theorem dX10_bridge_77 : decode cX10_bridge 77 = .ok (.iconst 0, 1) := by decide +kernel
theorem dX10_bridge_78 : decode cX10_bridge 78 = .ok (.invokestatic 84, 3) := by decide +kernel
theorem dX10_bridge_81 : decode cX10_bridge 81 = .ok (.aload_n 3, 1) := by decide +kernel
theorem dX10_bridge_82 : decode cX10_bridge 82 = .ok (.getfield 80, 3) := by decide +kernel
theorem dX10_bridge_85 : decode cX10_bridge 85 = .ok (.bipush 12, 2) := by decide +kernel
theorem dX10_bridge_87 : decode cX10_bridge 87 = .ok (.if_icmp .ge 7, 3) := by decide +kernel
theorem dX10_bridge_90 : decode cX10_bridge 90 = .ok (.iconst 1, 1) := by decide +kernel
theorem dX10_bridge_91 : decode cX10_bridge 91 = .ok (.goto 4, 3) := by decide +kernel
theorem dX10_bridge_94 : decode cX10_bridge 94 = .ok (.iconst 0, 1) := by decide +kernel
theorem dX10_bridge_95 : decode cX10_bridge 95 = .ok (.invokestatic 84, 3) := by decide +kernel
theorem dX10_bridge_98 : decode cX10_bridge 98 = .ok (.aload_n 3, 1) := by decide +kernel
theorem dX10_bridge_99 : decode cX10_bridge 99 = .ok (.iload_n 2, 1) := by decide +kernel
theorem dX10_bridge_100 : decode cX10_bridge 100 = .ok (.invokevirtual 124, 3) := by decide +kernel
theorem dX10_bridge_103 : decode cX10_bridge 103 = .ok (.istore 5, 2) := by decide +kernel
theorem dX10_bridge_105 : decode cX10_bridge 105 = .ok (.aload_n 0, 1) := by decide +kernel
theorem dX10_bridge_106 : decode cX10_bridge 106 = .ok (.getfield 12, 3) := by decide +kernel
theorem dX10_bridge_109 : decode cX10_bridge 109 = .ok (.invokevirtual 102, 3) := by decide +kernel
theorem dX10_bridge_112 : decode cX10_bridge 112 = .ok (.aload_n 0, 1) := by decide +kernel
theorem dX10_bridge_113 : decode cX10_bridge 113 = .ok (.getfield 35, 3) := by decide +kernel
theorem dX10_bridge_116 : decode cX10_bridge 116 = .ok (.invokevirtual 105, 3) := by decide +kernel
theorem dX10_bridge_119 : decode cX10_bridge 119 = .ok (.iload 5, 2) := by decide +kernel
theorem dX10_bridge_121 : decode cX10_bridge 121 = .ok (.ireturn, 1) := by decide +kernel
theorem dX10_move_0 : decode cX10_move 0 = .ok (.aload_n 0, 1) := by decide +kernel
theorem dX10_move_1 : decode cX10_move 1 = .ok (.iload_n 1, 1) := by decide +kernel
theorem dX10_move_2 : decode cX10_move 2 = .ok (.invokevirtual 62, 3) := by decide +kernel
theorem dX10_move_5 : decode cX10_move 5 = .ok (.astore 5, 2) := by decide +kernel
theorem dX10_move_7 : decode cX10_move 7 = .ok (.aload 5, 2) := by decide +kernel
theorem dX10_move_9 : decode cX10_move 9 = .ok (.iload_n 2, 1) := by decide +kernel
theorem dX10_move_10 : decode cX10_move 10 = .ok (.invokestatic 66, 3) := by decide +kernel
theorem dX10_move_13 : decode cX10_move 13 = .ok (.aload 5, 2) := by decide +kernel
theorem dX10_move_15 : decode cX10_move 15 = .ok (.iload_n 3, 1) := by decide +kernel
theorem dX10_move_16 : decode cX10_move 16 = .ok (.invokestatic 66, 3) := by decide +kernel
theorem dX10_move_19 : decode cX10_move 19 = .ok (.aload_n 0, 1) := by decide +kernel
theorem dX10_move_20 : decode cX10_move 20 = .ok (.getfield 12, 3) := by decide +kernel
theorem dX10_move_23 : decode cX10_move 23 = .ok (.getfield 127, 3) := by decide +kernel
theorem dX10_move_26 : decode cX10_move 26 = .ok (.iload 4, 2) := by decide +kernel
theorem dX10_move_28 : decode cX10_move 28 = .ok (.invokestatic 66, 3) := by decide +kernel
theorem dX10_move_31 : decode cX10_move 31 = .ok (.iload_n 1, 1) := by decide +kernel
theorem dX10_move_32 : decode cX10_move 32 = .ok (.ifCond .eq 7, 3) := by decide +kernel
theorem dX10_move_35 : decode cX10_move 35 = .ok (.iload_n 2, 1) := by decide +kernel
theorem dX10_move_36 : decode cX10_move 36 = .ok (.ifCond .ne 13, 3) := by decide +kernel
theorem dX10_move_39 : decode cX10_move 39 = .ok (.new 108, 3) := by decide +kernel
theorem dX10_move_42 : decode cX10_move 42 = .ok (.dup, 1) := by decide +kernel
theorem dX10_move_43 : decode cX10_move 43 = .ok (.ldc 131, 2) := by decide +kernel
theorem dX10_move_45 : decode cX10_move 45 = .ok (.invokespecial 112, 3) := by decide +kernel
theorem dX10_move_48 : decode cX10_move 48 = .ok (.athrow, 1) := by decide +kernel
theorem dX10_move_49 : decode cX10_move 49 = .ok (.aload 5, 2) := by decide +kernel
theorem dX10_move_51 : decode cX10_move 51 = .ok (.iload_n 2, 1) := by decide +kernel
theorem dX10_move_52 : decode cX10_move 52 = .ok (.invokevirtual 74, 3) := by decide +kernel
theorem dX10_move_55 : decode cX10_move 55 = .ok (.ifCond .eq 31, 3) := by decide +kernel
theorem dX10_move_58 : decode cX10_move 58 = .ok (.aload 5, 2) := by decide +kernel
theorem dX10_move_60 : decode cX10_move 60 = .ok (.iload_n 3, 1) := by decide +kernel
theorem dX10_move_61 : decode cX10_move 61 = .ok (.invokevirtual 74, 3) := by decide +kernel
theorem dX10_move_64 : decode cX10_move 64 = .ok (.ifCond .eq 22, 3) := by decide +kernel
theorem dX10_move_67 : decode cX10_move 67 = .ok (.aload_n 0, 1) := by decide +kernel
theorem dX10_move_68 : decode cX10_move 68 = .ok (.getfield 12, 3) := by decide +kernel
theorem dX10_move_71 : decode cX10_move 71 = .ok (.getfield 127, 3) := by decide +kernel
theorem dX10_move_74 : decode cX10_move 74 = .ok (.iload 4, 2) := by decide +kernel
theorem dX10_move_76 : decode cX10_move 76 = .ok (.invokevirtual 74, 3) := by decide +kernel
theorem dX10_move_79 : decode cX10_move 79 = .ok (.ifCond .eq 7, 3) := by decide +kernel
theorem dX10_move_82 : decode cX10_move 82 = .ok (.iconst 1, 1) := by decide +kernel
theorem dX10_move_83 : decode cX10_move 83 = .ok (.goto 4, 3) := by decide +kernel
theorem dX10_move_86 : decode cX10_move 86 = .ok (.iconst 0, 1) := by decide +kernel
theorem dX10_move_87 : decode cX10_move 87 = .ok (.invokestatic 84, 3) := by decide +kernel
theorem dX10_move_90 : decode cX10_move 90 = .ok (.iload_n 3, 1) := by decide +kernel
theorem dX10_move_91 : decode cX10_move 91 = .ok (.iload_n 2, 1) := by decide +kernel
theorem dX10_move_92 : decode cX10_move 92 = .ok (.if_icmp .ge 19, 3) := by decide +kernel
theorem dX10_move_95 : decode cX10_move 95 = .ok (.aload_n 0, 1) := by decide +kernel
theorem dX10_move_96 : decode cX10_move 96 = .ok (.getfield 12, 3) := by decide +kernel
theorem dX10_move_99 : decode cX10_move 99 = .ok (.invokevirtual 133, 3) := by decide +kernel
theorem dX10_move_102 : decode cX10_move 102 = .ok (.bipush 10, 2) := by decide +kernel
theorem dX10_move_104 : decode cX10_move 104 = .ok (.if_icmp .ge 7, 3) := by decide +kernel
theorem dX10_move_107 : decode cX10_move 107 = .ok (.iconst 1, 1) := by decide +kernel
theorem dX10_move_108 : decode cX10_move 108 = .ok (.goto 4, 3) := by decide +kernel
theorem dX10_move_111 : decode cX10_move 111 = .ok (.iconst 0, 1) := by decide +kernel
theorem dX10_move_112 : decode cX10_move 112 = .ok (.invokestatic 84, 3) := by decide +kernel
theorem dX10_move_115 : decode cX10_move 115 = .ok (.aload 5, 2) := by decide +kernel
theorem dX10_move_117 : decode cX10_move 117 = .ok (.iload_n 2, 1) := by decide +kernel
theorem dX10_move_118 : decode cX10_move 118 = .ok (.invokevirtual 137, 3) := by decide +kernel
theorem dX10_move_121 : decode cX10_move 121 = .ok (.istore 6, 2) := by decide +kernel
theorem dX10_move_123 : decode cX10_move 123 = .ok (.aload 5, 2) := by decide +kernel
theorem dX10_move_125 : decode cX10_move 125 = .ok (.getfield 140, 3) := by decide +kernel
theorem dX10_move_128 : decode cX10_move 128 = .ok (.iload_n 2, 1) := by decide +kernel
theorem dX10_move_129 : decode cX10_move 129 = .ok (.iload_n 3, 1) := by decide +kernel
theorem dX10_move_130 : decode cX10_move 130 = .ok (.iload 4, 2) := by decide +kernel
theorem dX10_move_132 : decode cX10_move 132 = .ok (.invokevirtual 144, 3) := by decide +kernel
theorem dX10_move_135 : decode cX10_move 135 = .ok (.aload_n 0, 1) := by decide +kernel
theorem dX10_move_136 : decode cX10_move 136 = .ok (.getfield 12, 3) := by decide +kernel
theorem dX10_move_139 : decode cX10_move 139 = .ok (.invokevirtual 102, 3) := by decide +kernel
theorem dX10_move_142 : decode cX10_move 142 = .ok (.aload_n 0, 1) := by decide +kernel
theorem dX10_move_143 : decode cX10_move 143 = .ok (.getfield 35, 3) := by decide +kernel
theorem dX10_move_146 : decode cX10_move 146 = .ok (.invokevirtual 105, 3) := by decide +kernel
theorem dX10_move_149 : decode cX10_move 149 = .ok (.iload 6, 2) := by decide +kernel
theorem dX10_move_151 : decode cX10_move 151 = .ok (.ireturn, 1) := by decide +kernel
theorem dX10_asNow_0 : decode cX10_asNow 0 = .ok (.aload_n 0, 1) := by decide +kernel
theorem dX10_asNow_1 : decode cX10_asNow 1 = .ok (.getfield 12, 3) := by decide +kernel
theorem dX10_asNow_4 : decode cX10_asNow 4 = .ok (.getfield 149, 3) := by decide +kernel
theorem dX10_asNow_7 : decode cX10_asNow 7 = .ok (.istore_n 2, 1) := by decide +kernel
theorem dX10_asNow_8 : decode cX10_asNow 8 = .ok (.aload_n 0, 1) := by decide +kernel
theorem dX10_asNow_9 : decode cX10_asNow 9 = .ok (.getfield 12, 3) := by decide +kernel
theorem dX10_asNow_12 : decode cX10_asNow 12 = .ok (.iload_n 1, 1) := by decide +kernel
theorem dX10_asNow_13 : decode cX10_asNow 13 = .ok (.putfield 149, 3) := by decide +kernel
theorem dX10_asNow_16 : decode cX10_asNow 16 = .ok (.aload_n 0, 1) := by decide +kernel
theorem dX10_asNow_17 : decode cX10_asNow 17 = .ok (.getfield 35, 3) := by decide +kernel
theorem dX10_asNow_20 : decode cX10_asNow 20 = .ok (.invokevirtual 105, 3) := by decide +kernel
theorem dX10_asNow_23 : decode cX10_asNow 23 = .ok (.iload_n 2, 1) := by decide +kernel
theorem dX10_asNow_24 : decode cX10_asNow 24 = .ok (.ireturn, 1) := by decide +kernel
theorem dX10_memberAt_0 : decode cX10_memberAt 0 = .ok (.aload_n 0, 1) := by decide +kernel
theorem dX10_memberAt_1 : decode cX10_memberAt 1 = .ok (.iload_n 1, 1) := by decide +kernel
theorem dX10_memberAt_2 : decode cX10_memberAt 2 = .ok (.invokevirtual 62, 3) := by decide +kernel
theorem dX10_memberAt_5 : decode cX10_memberAt 5 = .ok (.astore 4, 2) := by decide +kernel
theorem dX10_memberAt_7 : decode cX10_memberAt 7 = .ok (.aload 4, 2) := by decide +kernel
theorem dX10_memberAt_9 : decode cX10_memberAt 9 = .ok (.iload_n 2, 1) := by decide +kernel
theorem dX10_memberAt_10 : decode cX10_memberAt 10 = .ok (.invokestatic 66, 3) := by decide +kernel
theorem dX10_memberAt_13 : decode cX10_memberAt 13 = .ok (.iload_n 3, 1) := by decide +kernel
theorem dX10_memberAt_14 : decode cX10_memberAt 14 = .ok (.iconst 0, 1) := by decide +kernel
theorem dX10_memberAt_15 : decode cX10_memberAt 15 = .ok (.iconst 4, 1) := by decide +kernel
theorem dX10_memberAt_16 : decode cX10_memberAt 16 = .ok (.invokestatic 70, 3) := by decide +kernel
theorem dX10_memberAt_19 : decode cX10_memberAt 19 = .ok (.iload_n 3, 1) := by decide +kernel
theorem dX10_memberAt_20 : decode cX10_memberAt 20 = .ok (.tableswitch 73 0 3 #[32, 39, 46, 53], 32) := by decide +kernel
theorem dX10_memberAt_52 : decode cX10_memberAt 52 = .ok (.aload 4, 2) := by decide +kernel
theorem dX10_memberAt_54 : decode cX10_memberAt 54 = .ok (.iload_n 2, 1) := by decide +kernel
theorem dX10_memberAt_55 : decode cX10_memberAt 55 = .ok (.invokevirtual 153, 3) := by decide +kernel
theorem dX10_memberAt_58 : decode cX10_memberAt 58 = .ok (.ireturn, 1) := by decide +kernel
theorem dX10_memberAt_59 : decode cX10_memberAt 59 = .ok (.aload 4, 2) := by decide +kernel
theorem dX10_memberAt_61 : decode cX10_memberAt 61 = .ok (.iload_n 2, 1) := by decide +kernel
theorem dX10_memberAt_62 : decode cX10_memberAt 62 = .ok (.invokevirtual 137, 3) := by decide +kernel
theorem dX10_memberAt_65 : decode cX10_memberAt 65 = .ok (.ireturn, 1) := by decide +kernel
theorem dX10_memberAt_66 : decode cX10_memberAt 66 = .ok (.aload 4, 2) := by decide +kernel
theorem dX10_memberAt_68 : decode cX10_memberAt 68 = .ok (.iload_n 2, 1) := by decide +kernel
theorem dX10_memberAt_69 : decode cX10_memberAt 69 = .ok (.invokevirtual 156, 3) := by decide +kernel
theorem dX10_memberAt_72 : decode cX10_memberAt 72 = .ok (.ireturn, 1) := by decide +kernel
theorem dX10_memberAt_73 : decode cX10_memberAt 73 = .ok (.iload_n 1, 1) := by decide +kernel
theorem dX10_memberAt_74 : decode cX10_memberAt 74 = .ok (.ifCond .ne 17, 3) := by decide +kernel
theorem dX10_memberAt_77 : decode cX10_memberAt 77 = .ok (.aload_n 0, 1) := by decide +kernel
theorem dX10_memberAt_78 : decode cX10_memberAt 78 = .ok (.getfield 12, 3) := by decide +kernel
theorem dX10_memberAt_81 : decode cX10_memberAt 81 = .ok (.getfield 92, 3) := by decide +kernel
theorem dX10_memberAt_84 : decode cX10_memberAt 84 = .ok (.iload_n 2, 1) := by decide +kernel
theorem dX10_memberAt_85 : decode cX10_memberAt 85 = .ok (.invokevirtual 159, 3) := by decide +kernel
theorem dX10_memberAt_88 : decode cX10_memberAt 88 = .ok (.goto 4, 3) := by decide +kernel
theorem dX10_memberAt_91 : decode cX10_memberAt 91 = .ok (.iconst (-1), 1) := by decide +kernel
theorem dX10_memberAt_92 : decode cX10_memberAt 92 = .ok (.ireturn, 1) := by decide +kernel
theorem dX10_memberAt_93 : decode cX10_memberAt 93 = .ok (.aload 4, 2) := by decide +kernel
theorem dX10_memberAt_95 : decode cX10_memberAt 95 = .ok (.iload_n 2, 1) := by decide +kernel
theorem dX10_memberAt_96 : decode cX10_memberAt 96 = .ok (.invokevirtual 162, 3) := by decide +kernel
theorem dX10_memberAt_99 : decode cX10_memberAt 99 = .ok (.ifCond .eq 7, 3) := by decide +kernel
theorem dX10_memberAt_102 : decode cX10_memberAt 102 = .ok (.iconst 1, 1) := by decide +kernel
theorem dX10_memberAt_103 : decode cX10_memberAt 103 = .ok (.goto 4, 3) := by decide +kernel
theorem dX10_memberAt_106 : decode cX10_memberAt 106 = .ok (.iconst 0, 1) := by decide +kernel
theorem dX10_memberAt_107 : decode cX10_memberAt 107 = .ok (.ireturn, 1) := by decide +kernel
theorem dX10_word_0 : decode cX10_word 0 = .ok (.iload_n 1, 1) := by decide +kernel
theorem dX10_word_1 : decode cX10_word 1 = .ok (.iconst 0, 1) := by decide +kernel
theorem dX10_word_2 : decode cX10_word 2 = .ok (.bipush 6, 2) := by decide +kernel
theorem dX10_word_4 : decode cX10_word 4 = .ok (.invokestatic 70, 3) := by decide +kernel
theorem dX10_word_7 : decode cX10_word 7 = .ok (.iload_n 1, 1) := by decide +kernel
theorem dX10_word_8 : decode cX10_word 8 = .ok (.ifCond .ne 11, 3) := by decide +kernel
theorem dX10_word_11 : decode cX10_word 11 = .ok (.iload_n 2, 1) := by decide +kernel
theorem dX10_word_12 : decode cX10_word 12 = .ok (.ldc 165, 2) := by decide +kernel
theorem dX10_word_14 : decode cX10_word 14 = .ok (.ldc 166, 2) := by decide +kernel
theorem dX10_word_16 : decode cX10_word 16 = .ok (.invokestatic 70, 3) := by decide +kernel
theorem dX10_word_19 : decode cX10_word 19 = .ok (.iload_n 1, 1) := by decide +kernel
theorem dX10_word_20 : decode cX10_word 20 = .ok (.iconst 1, 1) := by decide +kernel
theorem dX10_word_21 : decode cX10_word 21 = .ok (.if_icmp .eq 8, 3) := by decide +kernel
theorem dX10_word_24 : decode cX10_word 24 = .ok (.iload_n 1, 1) := by decide +kernel
theorem dX10_word_25 : decode cX10_word 25 = .ok (.iconst 2, 1) := by decide +kernel
theorem dX10_word_26 : decode cX10_word 26 = .ok (.if_icmp .ne 10, 3) := by decide +kernel
theorem dX10_word_29 : decode cX10_word 29 = .ok (.iload_n 2, 1) := by decide +kernel
theorem dX10_word_30 : decode cX10_word 30 = .ok (.iconst 0, 1) := by decide +kernel
theorem dX10_word_31 : decode cX10_word 31 = .ok (.bipush 11, 2) := by decide +kernel
theorem dX10_word_33 : decode cX10_word 33 = .ok (.invokestatic 70, 3) := by decide +kernel
theorem dX10_word_36 : decode cX10_word 36 = .ok (.iload_n 1, 1) := by decide +kernel
theorem dX10_word_37 : decode cX10_word 37 = .ok (.iconst 1, 1) := by decide +kernel
theorem dX10_word_38 : decode cX10_word 38 = .ok (.if_icmp .ne 10, 3) := by decide +kernel
theorem dX10_word_41 : decode cX10_word 41 = .ok (.iload_n 3, 1) := by decide +kernel
theorem dX10_word_42 : decode cX10_word 42 = .ok (.iconst 0, 1) := by decide +kernel
theorem dX10_word_43 : decode cX10_word 43 = .ok (.bipush 11, 2) := by decide +kernel
theorem dX10_word_45 : decode cX10_word 45 = .ok (.invokestatic 70, 3) := by decide +kernel
theorem dX10_word_48 : decode cX10_word 48 = .ok (.aload_n 0, 1) := by decide +kernel
theorem dX10_word_49 : decode cX10_word 49 = .ok (.getfield 58, 3) := by decide +kernel
theorem dX10_word_52 : decode cX10_word 52 = .ok (.iload_n 1, 1) := by decide +kernel
theorem dX10_word_53 : decode cX10_word 53 = .ok (.invokevirtual 167, 3) := by decide +kernel
theorem dX10_word_56 : decode cX10_word 56 = .ok (.invokestatic 84, 3) := by decide +kernel
theorem dX10_word_59 : decode cX10_word 59 = .ok (.aload_n 0, 1) := by decide +kernel
theorem dX10_word_60 : decode cX10_word 60 = .ok (.getfield 58, 3) := by decide +kernel
theorem dX10_word_63 : decode cX10_word 63 = .ok (.iload_n 1, 1) := by decide +kernel
theorem dX10_word_64 : decode cX10_word 64 = .ok (.iload_n 2, 1) := by decide +kernel
theorem dX10_word_65 : decode cX10_word 65 = .ok (.iload_n 3, 1) := by decide +kernel
theorem dX10_word_66 : decode cX10_word 66 = .ok (.invokevirtual 170, 3) := by decide +kernel
theorem dX10_word_69 : decode cX10_word 69 = .ok (.aload_n 0, 1) := by decide +kernel
theorem dX10_word_70 : decode cX10_word 70 = .ok (.getfield 58, 3) := by decide +kernel
theorem dX10_word_73 : decode cX10_word 73 = .ok (.getfield 173, 3) := by decide +kernel
theorem dX10_word_76 : decode cX10_word 76 = .ok (.ireturn, 1) := by decide +kernel
theorem dX10_calculate_0 : decode cX10_calculate 0 = .ok (.aload_n 0, 1) := by decide +kernel
theorem dX10_calculate_1 : decode cX10_calculate 1 = .ok (.iload_n 1, 1) := by decide +kernel
theorem dX10_calculate_2 : decode cX10_calculate 2 = .ok (.invokevirtual 62, 3) := by decide +kernel
theorem dX10_calculate_5 : decode cX10_calculate 5 = .ok (.astore_n 3, 1) := by decide +kernel
theorem dX10_calculate_6 : decode cX10_calculate 6 = .ok (.iload_n 2, 1) := by decide +kernel
theorem dX10_calculate_7 : decode cX10_calculate 7 = .ok (.iconst 0, 1) := by decide +kernel
theorem dX10_calculate_8 : decode cX10_calculate 8 = .ok (.bipush 100, 2) := by decide +kernel
theorem dX10_calculate_10 : decode cX10_calculate 10 = .ok (.invokestatic 70, 3) := by decide +kernel
theorem dX10_calculate_13 : decode cX10_calculate 13 = .ok (.aload_n 0, 1) := by decide +kernel
theorem dX10_calculate_14 : decode cX10_calculate 14 = .ok (.getfield 58, 3) := by decide +kernel
theorem dX10_calculate_17 : decode cX10_calculate 17 = .ok (.getfield 174, 3) := by decide +kernel
theorem dX10_calculate_20 : decode cX10_calculate 20 = .ok (.iconst 1, 1) := by decide +kernel
theorem dX10_calculate_21 : decode cX10_calculate 21 = .ok (.if_icmp .ne 30, 3) := by decide +kernel
theorem dX10_calculate_24 : decode cX10_calculate 24 = .ok (.aload_n 0, 1) := by decide +kernel
theorem dX10_calculate_25 : decode cX10_calculate 25 = .ok (.getfield 58, 3) := by decide +kernel
theorem dX10_calculate_28 : decode cX10_calculate 28 = .ok (.aload_n 3, 1) := by decide +kernel
theorem dX10_calculate_29 : decode cX10_calculate 29 = .ok (.getfield 80, 3) := by decide +kernel
theorem dX10_calculate_32 : decode cX10_calculate 32 = .ok (.invokevirtual 177, 3) := by decide +kernel
theorem dX10_calculate_35 : decode cX10_calculate 35 = .ok (.ifCond .ne 16, 3) := by decide +kernel
theorem dX10_calculate_38 : decode cX10_calculate 38 = .ok (.aload_n 3, 1) := by decide +kernel
theorem dX10_calculate_39 : decode cX10_calculate 39 = .ok (.getfield 80, 3) := by decide +kernel
theorem dX10_calculate_42 : decode cX10_calculate 42 = .ok (.bipush 12, 2) := by decide +kernel
theorem dX10_calculate_44 : decode cX10_calculate 44 = .ok (.if_icmp .ge 7, 3) := by decide +kernel
theorem dX10_calculate_47 : decode cX10_calculate 47 = .ok (.iconst 1, 1) := by decide +kernel
theorem dX10_calculate_48 : decode cX10_calculate 48 = .ok (.goto 4, 3) := by decide +kernel
theorem dX10_calculate_51 : decode cX10_calculate 51 = .ok (.iconst 0, 1) := by decide +kernel
theorem dX10_calculate_52 : decode cX10_calculate 52 = .ok (.invokestatic 84, 3) := by decide +kernel
theorem dX10_calculate_55 : decode cX10_calculate 55 = .ok (.aload_n 3, 1) := by decide +kernel
theorem dX10_calculate_56 : decode cX10_calculate 56 = .ok (.aload_n 0, 1) := by decide +kernel
theorem dX10_calculate_57 : decode cX10_calculate 57 = .ok (.getfield 58, 3) := by decide +kernel
theorem dX10_calculate_60 : decode cX10_calculate 60 = .ok (.iload_n 2, 1) := by decide +kernel
theorem dX10_calculate_61 : decode cX10_calculate 61 = .ok (.invokevirtual 180, 3) := by decide +kernel
theorem dX10_calculate_64 : decode cX10_calculate 64 = .ok (.istore 4, 2) := by decide +kernel
theorem dX10_calculate_66 : decode cX10_calculate 66 = .ok (.aload_n 0, 1) := by decide +kernel
theorem dX10_calculate_67 : decode cX10_calculate 67 = .ok (.new 55, 3) := by decide +kernel
theorem dX10_calculate_70 : decode cX10_calculate 70 = .ok (.dup, 1) := by decide +kernel
theorem dX10_calculate_71 : decode cX10_calculate 71 = .ok (.invokespecial 57, 3) := by decide +kernel
theorem dX10_calculate_74 : decode cX10_calculate 74 = .ok (.putfield 58, 3) := by decide +kernel
theorem dX10_calculate_77 : decode cX10_calculate 77 = .ok (.aload_n 0, 1) := by decide +kernel
theorem dX10_calculate_78 : decode cX10_calculate 78 = .ok (.getfield 35, 3) := by decide +kernel
theorem dX10_calculate_81 : decode cX10_calculate 81 = .ok (.invokevirtual 105, 3) := by decide +kernel
theorem dX10_calculate_84 : decode cX10_calculate 84 = .ok (.iload 4, 2) := by decide +kernel
theorem dX10_calculate_86 : decode cX10_calculate 86 = .ok (.ireturn, 1) := by decide +kernel
theorem dX10_hide_0 : decode cX10_hide 0 = .ok (.aload_n 0, 1) := by decide +kernel
theorem dX10_hide_1 : decode cX10_hide 1 = .ok (.iload_n 1, 1) := by decide +kernel
theorem dX10_hide_2 : decode cX10_hide 2 = .ok (.invokevirtual 62, 3) := by decide +kernel
theorem dX10_hide_5 : decode cX10_hide 5 = .ok (.astore 4, 2) := by decide +kernel
theorem dX10_hide_7 : decode cX10_hide 7 = .ok (.aload 4, 2) := by decide +kernel
theorem dX10_hide_9 : decode cX10_hide 9 = .ok (.iload_n 2, 1) := by decide +kernel
theorem dX10_hide_10 : decode cX10_hide 10 = .ok (.invokestatic 66, 3) := by decide +kernel
theorem dX10_hide_13 : decode cX10_hide 13 = .ok (.iload_n 2, 1) := by decide +kernel
theorem dX10_hide_14 : decode cX10_hide 14 = .ok (.ifCond .ne 13, 3) := by decide +kernel
theorem dX10_hide_17 : decode cX10_hide 17 = .ok (.new 108, 3) := by decide +kernel
theorem dX10_hide_20 : decode cX10_hide 20 = .ok (.dup, 1) := by decide +kernel
theorem dX10_hide_21 : decode cX10_hide 21 = .ok (.ldc 184, 2) := by decide +kernel
theorem dX10_hide_23 : decode cX10_hide 23 = .ok (.invokespecial 112, 3) := by decide +kernel
theorem dX10_hide_26 : decode cX10_hide 26 = .ok (.athrow, 1) := by decide +kernel
theorem dX10_hide_27 : decode cX10_hide 27 = .ok (.aload 4, 2) := by decide +kernel
theorem dX10_hide_29 : decode cX10_hide 29 = .ok (.iload_n 2, 1) := by decide +kernel
theorem dX10_hide_30 : decode cX10_hide 30 = .ok (.invokevirtual 74, 3) := by decide +kernel
theorem dX10_hide_33 : decode cX10_hide 33 = .ok (.invokestatic 84, 3) := by decide +kernel
theorem dX10_hide_36 : decode cX10_hide 36 = .ok (.aload 4, 2) := by decide +kernel
theorem dX10_hide_38 : decode cX10_hide 38 = .ok (.iload_n 2, 1) := by decide +kernel
theorem dX10_hide_39 : decode cX10_hide 39 = .ok (.iload_n 3, 1) := by decide +kernel
theorem dX10_hide_40 : decode cX10_hide 40 = .ok (.invokevirtual 186, 3) := by decide +kernel
theorem dX10_hide_43 : decode cX10_hide 43 = .ok (.istore 5, 2) := by decide +kernel
theorem dX10_hide_45 : decode cX10_hide 45 = .ok (.aload_n 0, 1) := by decide +kernel
theorem dX10_hide_46 : decode cX10_hide 46 = .ok (.getfield 35, 3) := by decide +kernel
theorem dX10_hide_49 : decode cX10_hide 49 = .ok (.invokevirtual 105, 3) := by decide +kernel
theorem dX10_hide_52 : decode cX10_hide 52 = .ok (.iload 5, 2) := by decide +kernel
theorem dX10_hide_54 : decode cX10_hide 54 = .ok (.ireturn, 1) := by decide +kernel
theorem dX10_totals_0 : decode cX10_totals 0 = .ok (.aload_n 0, 1) := by decide +kernel
theorem dX10_totals_1 : decode cX10_totals 1 = .ok (.getfield 12, 3) := by decide +kernel
theorem dX10_totals_4 : decode cX10_totals 4 = .ok (.getfield 190, 3) := by decide +kernel
theorem dX10_totals_7 : decode cX10_totals 7 = .ok (.istore_n 2, 1) := by decide +kernel
theorem dX10_totals_8 : decode cX10_totals 8 = .ok (.aload_n 0, 1) := by decide +kernel
theorem dX10_totals_9 : decode cX10_totals 9 = .ok (.getfield 12, 3) := by decide +kernel
theorem dX10_totals_12 : decode cX10_totals 12 = .ok (.iload_n 1, 1) := by decide +kernel
theorem dX10_totals_13 : decode cX10_totals 13 = .ok (.putfield 190, 3) := by decide +kernel
theorem dX10_totals_16 : decode cX10_totals 16 = .ok (.aload_n 0, 1) := by decide +kernel
theorem dX10_totals_17 : decode cX10_totals 17 = .ok (.getfield 35, 3) := by decide +kernel
theorem dX10_totals_20 : decode cX10_totals 20 = .ok (.invokevirtual 105, 3) := by decide +kernel
theorem dX10_totals_23 : decode cX10_totals 23 = .ok (.iload_n 2, 1) := by decide +kernel
theorem dX10_totals_24 : decode cX10_totals 24 = .ok (.ireturn, 1) := by decide +kernel
theorem dX10_measure_0 : decode cX10_measure 0 = .ok (.iload_n 1, 1) := by decide +kernel
theorem dX10_measure_1 : decode cX10_measure 1 = .ok (.iconst 3, 1) := by decide +kernel
theorem dX10_measure_2 : decode cX10_measure 2 = .ok (.if_icmp .ne 13, 3) := by decide +kernel
theorem dX10_measure_5 : decode cX10_measure 5 = .ok (.aload_n 0, 1) := by decide +kernel
theorem dX10_measure_6 : decode cX10_measure 6 = .ok (.iload_n 2, 1) := by decide +kernel
theorem dX10_measure_7 : decode cX10_measure 7 = .ok (.invokevirtual 193, 3) := by decide +kernel
theorem dX10_measure_10 : decode cX10_measure 10 = .ok (.aload_n 0, 1) := by decide +kernel
theorem dX10_measure_11 : decode cX10_measure 11 = .ok (.iload_n 3, 1) := by decide +kernel
theorem dX10_measure_12 : decode cX10_measure 12 = .ok (.invokevirtual 193, 3) := by decide +kernel
theorem dX10_measure_15 : decode cX10_measure 15 = .ok (.iload_n 1, 1) := by decide +kernel
theorem dX10_measure_16 : decode cX10_measure 16 = .ok (.iconst 0, 1) := by decide +kernel
theorem dX10_measure_17 : decode cX10_measure 17 = .ok (.iconst 3, 1) := by decide +kernel
theorem dX10_measure_18 : decode cX10_measure 18 = .ok (.invokestatic 70, 3) := by decide +kernel
theorem dX10_measure_21 : decode cX10_measure 21 = .ok (.aload_n 0, 1) := by decide +kernel
theorem dX10_measure_22 : decode cX10_measure 22 = .ok (.getfield 21, 3) := by decide +kernel
theorem dX10_measure_25 : decode cX10_measure 25 = .ok (.getfield 197, 3) := by decide +kernel
theorem dX10_measure_28 : decode cX10_measure 28 = .ok (.iconst 4, 1) := by decide +kernel
theorem dX10_measure_29 : decode cX10_measure 29 = .ok (.if_icmp .ge 7, 3) := by decide +kernel
theorem dX10_measure_32 : decode cX10_measure 32 = .ok (.iconst 1, 1) := by decide +kernel
theorem dX10_measure_33 : decode cX10_measure 33 = .ok (.goto 4, 3) := by decide +kernel
theorem dX10_measure_36 : decode cX10_measure 36 = .ok (.iconst 0, 1) := by decide +kernel
theorem dX10_measure_37 : decode cX10_measure 37 = .ok (.invokestatic 84, 3) := by decide +kernel
theorem dX10_measure_40 : decode cX10_measure 40 = .ok (.aload_n 0, 1) := by decide +kernel
theorem dX10_measure_41 : decode cX10_measure 41 = .ok (.getfield 21, 3) := by decide +kernel
theorem dX10_measure_44 : decode cX10_measure 44 = .ok (.iload_n 1, 1) := by decide +kernel
theorem dX10_measure_45 : decode cX10_measure 45 = .ok (.iload_n 2, 1) := by decide +kernel
theorem dX10_measure_46 : decode cX10_measure 46 = .ok (.iload_n 3, 1) := by decide +kernel
theorem dX10_measure_47 : decode cX10_measure 47 = .ok (.invokevirtual 198, 3) := by decide +kernel
theorem dX10_measure_50 : decode cX10_measure 50 = .ok (.istore 4, 2) := by decide +kernel
theorem dX10_measure_52 : decode cX10_measure 52 = .ok (.aload_n 0, 1) := by decide +kernel
theorem dX10_measure_53 : decode cX10_measure 53 = .ok (.getfield 35, 3) := by decide +kernel
theorem dX10_measure_56 : decode cX10_measure 56 = .ok (.invokevirtual 105, 3) := by decide +kernel
theorem dX10_measure_59 : decode cX10_measure 59 = .ok (.iload 4, 2) := by decide +kernel
theorem dX10_measure_61 : decode cX10_measure 61 = .ok (.ireturn, 1) := by decide +kernel
theorem dX10_from_0 : decode cX10_from 0 = .ok (.aload_n 0, 1) := by decide +kernel
theorem dX10_from_1 : decode cX10_from 1 = .ok (.iload_n 1, 1) := by decide +kernel
theorem dX10_from_2 : decode cX10_from 2 = .ok (.invokevirtual 193, 3) := by decide +kernel
theorem dX10_from_5 : decode cX10_from 5 = .ok (.aload_n 0, 1) := by decide +kernel
theorem dX10_from_6 : decode cX10_from 6 = .ok (.iload_n 2, 1) := by decide +kernel
theorem dX10_from_7 : decode cX10_from 7 = .ok (.invokevirtual 62, 3) := by decide +kernel
theorem dX10_from_10 : decode cX10_from 10 = .ok (.pop, 1) := by decide +kernel
theorem dX10_from_11 : decode cX10_from 11 = .ok (.iload_n 3, 1) := by decide +kernel
theorem dX10_from_12 : decode cX10_from 12 = .ok (.iconst 0, 1) := by decide +kernel
theorem dX10_from_13 : decode cX10_from 13 = .ok (.bipush 11, 2) := by decide +kernel
theorem dX10_from_15 : decode cX10_from 15 = .ok (.invokestatic 70, 3) := by decide +kernel
theorem dX10_from_18 : decode cX10_from 18 = .ok (.aload_n 0, 1) := by decide +kernel
theorem dX10_from_19 : decode cX10_from 19 = .ok (.getfield 21, 3) := by decide +kernel
theorem dX10_from_22 : decode cX10_from 22 = .ok (.iload_n 1, 1) := by decide +kernel
theorem dX10_from_23 : decode cX10_from 23 = .ok (.iload_n 2, 1) := by decide +kernel
theorem dX10_from_24 : decode cX10_from 24 = .ok (.iload_n 3, 1) := by decide +kernel
theorem dX10_from_25 : decode cX10_from 25 = .ok (.invokevirtual 202, 3) := by decide +kernel
theorem dX10_from_28 : decode cX10_from 28 = .ok (.istore 4, 2) := by decide +kernel
theorem dX10_from_30 : decode cX10_from 30 = .ok (.aload_n 0, 1) := by decide +kernel
theorem dX10_from_31 : decode cX10_from 31 = .ok (.getfield 35, 3) := by decide +kernel
theorem dX10_from_34 : decode cX10_from 34 = .ok (.invokevirtual 105, 3) := by decide +kernel
theorem dX10_from_37 : decode cX10_from 37 = .ok (.iload 4, 2) := by decide +kernel
theorem dX10_from_39 : decode cX10_from 39 = .ok (.ireturn, 1) := by decide +kernel
theorem dX10_fact_0 : decode cX10_fact 0 = .ok (.aload_n 0, 1) := by decide +kernel
theorem dX10_fact_1 : decode cX10_fact 1 = .ok (.iload_n 1, 1) := by decide +kernel
theorem dX10_fact_2 : decode cX10_fact 2 = .ok (.iload_n 2, 1) := by decide +kernel
theorem dX10_fact_3 : decode cX10_fact 3 = .ok (.iload_n 3, 1) := by decide +kernel
theorem dX10_fact_4 : decode cX10_fact 4 = .ok (.iload 4, 2) := by decide +kernel
theorem dX10_fact_6 : decode cX10_fact 6 = .ok (.invokevirtual 205, 3) := by decide +kernel
theorem dX10_fact_9 : decode cX10_fact 9 = .ok (.istore 6, 2) := by decide +kernel
theorem dX10_fact_11 : decode cX10_fact 11 = .ok (.iload 5, 2) := by decide +kernel
theorem dX10_fact_13 : decode cX10_fact 13 = .ok (.ldc 165, 2) := by decide +kernel
theorem dX10_fact_15 : decode cX10_fact 15 = .ok (.ldc 166, 2) := by decide +kernel
theorem dX10_fact_17 : decode cX10_fact 17 = .ok (.invokestatic 70, 3) := by decide +kernel
theorem dX10_fact_20 : decode cX10_fact 20 = .ok (.aload_n 0, 1) := by decide +kernel
theorem dX10_fact_21 : decode cX10_fact 21 = .ok (.getfield 12, 3) := by decide +kernel
theorem dX10_fact_24 : decode cX10_fact 24 = .ok (.iload 6, 2) := by decide +kernel
theorem dX10_fact_26 : decode cX10_fact 26 = .ok (.invokevirtual 209, 3) := by decide +kernel
theorem dX10_fact_29 : decode cX10_fact 29 = .ok (.ifCond .eq 20, 3) := by decide +kernel
theorem dX10_fact_32 : decode cX10_fact 32 = .ok (.aload_n 0, 1) := by decide +kernel
theorem dX10_fact_33 : decode cX10_fact 33 = .ok (.getfield 21, 3) := by decide +kernel
theorem dX10_fact_36 : decode cX10_fact 36 = .ok (.iload 4, 2) := by decide +kernel
theorem dX10_fact_38 : decode cX10_fact 38 = .ok (.invokevirtual 210, 3) := by decide +kernel
theorem dX10_fact_41 : decode cX10_fact 41 = .ok (.iconst 3, 1) := by decide +kernel
theorem dX10_fact_42 : decode cX10_fact 42 = .ok (.if_icmp .eq 7, 3) := by decide +kernel
theorem dX10_fact_45 : decode cX10_fact 45 = .ok (.iconst 1, 1) := by decide +kernel
theorem dX10_fact_46 : decode cX10_fact 46 = .ok (.goto 4, 3) := by decide +kernel
theorem dX10_fact_49 : decode cX10_fact 49 = .ok (.iconst 0, 1) := by decide +kernel
theorem dX10_fact_50 : decode cX10_fact 50 = .ok (.invokestatic 84, 3) := by decide +kernel
theorem dX10_fact_53 : decode cX10_fact 53 = .ok (.aload_n 0, 1) := by decide +kernel
theorem dX10_fact_54 : decode cX10_fact 54 = .ok (.getfield 28, 3) := by decide +kernel
theorem dX10_fact_57 : decode cX10_fact 57 = .ok (.iload 6, 2) := by decide +kernel
theorem dX10_fact_59 : decode cX10_fact 59 = .ok (.iload 4, 2) := by decide +kernel
theorem dX10_fact_61 : decode cX10_fact 61 = .ok (.invokevirtual 211, 3) := by decide +kernel
theorem dX10_fact_64 : decode cX10_fact 64 = .ok (.istore 7, 2) := by decide +kernel
theorem dX10_fact_66 : decode cX10_fact 66 = .ok (.iload 7, 2) := by decide +kernel
theorem dX10_fact_68 : decode cX10_fact 68 = .ok (.iconst (-1), 1) := by decide +kernel
theorem dX10_fact_69 : decode cX10_fact 69 = .ok (.if_icmp .ne 15, 3) := by decide +kernel
theorem dX10_fact_72 : decode cX10_fact 72 = .ok (.aload_n 0, 1) := by decide +kernel
theorem dX10_fact_73 : decode cX10_fact 73 = .ok (.getfield 28, 3) := by decide +kernel
theorem dX10_fact_76 : decode cX10_fact 76 = .ok (.getfield 214, 3) := by decide +kernel
theorem dX10_fact_79 : decode cX10_fact 79 = .ok (.bipush 50, 2) := by decide +kernel
theorem dX10_fact_81 : decode cX10_fact 81 = .ok (.if_icmp .ge 7, 3) := by decide +kernel
theorem dX10_fact_84 : decode cX10_fact 84 = .ok (.iconst 1, 1) := by decide +kernel
theorem dX10_fact_85 : decode cX10_fact 85 = .ok (.goto 4, 3) := by decide +kernel
theorem dX10_fact_88 : decode cX10_fact 88 = .ok (.iconst 0, 1) := by decide +kernel
theorem dX10_fact_89 : decode cX10_fact 89 = .ok (.invokestatic 84, 3) := by decide +kernel
theorem dX10_fact_92 : decode cX10_fact 92 = .ok (.iload 7, 2) := by decide +kernel
theorem dX10_fact_94 : decode cX10_fact 94 = .ok (.iconst (-1), 1) := by decide +kernel
theorem dX10_fact_95 : decode cX10_fact 95 = .ok (.if_icmp .ne 27, 3) := by decide +kernel
theorem dX10_fact_98 : decode cX10_fact 98 = .ok (.aload_n 0, 1) := by decide +kernel
theorem dX10_fact_99 : decode cX10_fact 99 = .ok (.getfield 28, 3) := by decide +kernel
theorem dX10_fact_102 : decode cX10_fact 102 = .ok (.iload 6, 2) := by decide +kernel
theorem dX10_fact_104 : decode cX10_fact 104 = .ok (.iload 4, 2) := by decide +kernel
theorem dX10_fact_106 : decode cX10_fact 106 = .ok (.iload 5, 2) := by decide +kernel
theorem dX10_fact_108 : decode cX10_fact 108 = .ok (.invokevirtual 215, 3) := by decide +kernel
theorem dX10_fact_111 : decode cX10_fact 111 = .ok (.aload_n 0, 1) := by decide +kernel
theorem dX10_fact_112 : decode cX10_fact 112 = .ok (.iload 6, 2) := by decide +kernel
theorem dX10_fact_114 : decode cX10_fact 114 = .ok (.iload 4, 2) := by decide +kernel
theorem dX10_fact_116 : decode cX10_fact 116 = .ok (.invokevirtual 217, 3) := by decide +kernel
theorem dX10_fact_119 : decode cX10_fact 119 = .ok (.goto 12, 3) := by decide +kernel
theorem dX10_fact_122 : decode cX10_fact 122 = .ok (.aload_n 0, 1) := by decide +kernel
theorem dX10_fact_123 : decode cX10_fact 123 = .ok (.iload 7, 2) := by decide +kernel
theorem dX10_fact_125 : decode cX10_fact 125 = .ok (.iload 5, 2) := by decide +kernel
theorem dX10_fact_127 : decode cX10_fact 127 = .ok (.invokevirtual 221, 3) := by decide +kernel
theorem dX10_fact_130 : decode cX10_fact 130 = .ok (.pop, 1) := by decide +kernel
theorem dX10_fact_131 : decode cX10_fact 131 = .ok (.aload_n 0, 1) := by decide +kernel
theorem dX10_fact_132 : decode cX10_fact 132 = .ok (.getfield 28, 3) := by decide +kernel
theorem dX10_fact_135 : decode cX10_fact 135 = .ok (.getfield 214, 3) := by decide +kernel
theorem dX10_fact_138 : decode cX10_fact 138 = .ok (.ireturn, 1) := by decide +kernel
theorem dX10_cell_0 : decode cX10_cell 0 = .ok (.aload_n 0, 1) := by decide +kernel
theorem dX10_cell_1 : decode cX10_cell 1 = .ok (.iload_n 1, 1) := by decide +kernel
theorem dX10_cell_2 : decode cX10_cell 2 = .ok (.iload_n 2, 1) := by decide +kernel
theorem dX10_cell_3 : decode cX10_cell 3 = .ok (.iload_n 3, 1) := by decide +kernel
theorem dX10_cell_4 : decode cX10_cell 4 = .ok (.iload 4, 2) := by decide +kernel
theorem dX10_cell_6 : decode cX10_cell 6 = .ok (.invokevirtual 205, 3) := by decide +kernel
theorem dX10_cell_9 : decode cX10_cell 9 = .ok (.istore 5, 2) := by decide +kernel
theorem dX10_cell_11 : decode cX10_cell 11 = .ok (.aload_n 0, 1) := by decide +kernel
theorem dX10_cell_12 : decode cX10_cell 12 = .ok (.getfield 12, 3) := by decide +kernel
theorem dX10_cell_15 : decode cX10_cell 15 = .ok (.iload 5, 2) := by decide +kernel
theorem dX10_cell_17 : decode cX10_cell 17 = .ok (.invokevirtual 231, 3) := by decide +kernel
theorem dX10_cell_20 : decode cX10_cell 20 = .ok (.ifCond .ne 7, 3) := by decide +kernel
theorem dX10_cell_23 : decode cX10_cell 23 = .ok (.ldc2_w 232, 3) := by decide +kernel
theorem dX10_cell_26 : decode cX10_cell 26 = .ok (.lreturn, 1) := by decide +kernel
theorem dX10_cell_27 : decode cX10_cell 27 = .ok (.aload_n 0, 1) := by decide +kernel
theorem dX10_cell_28 : decode cX10_cell 28 = .ok (.getfield 35, 3) := by decide +kernel
theorem dX10_cell_31 : decode cX10_cell 31 = .ok (.iload 5, 2) := by decide +kernel
theorem dX10_cell_33 : decode cX10_cell 33 = .ok (.iload 4, 2) := by decide +kernel
theorem dX10_cell_35 : decode cX10_cell 35 = .ok (.invokevirtual 234, 3) := by decide +kernel
theorem dX10_cell_38 : decode cX10_cell 38 = .ok (.istore 6, 2) := by decide +kernel
theorem dX10_cell_40 : decode cX10_cell 40 = .ok (.iload 6, 2) := by decide +kernel
theorem dX10_cell_42 : decode cX10_cell 42 = .ok (.iconst (-1), 1) := by decide +kernel
theorem dX10_cell_43 : decode cX10_cell 43 = .ok (.if_icmp .eq 26, 3) := by decide +kernel
theorem dX10_cell_46 : decode cX10_cell 46 = .ok (.aload_n 0, 1) := by decide +kernel
theorem dX10_cell_47 : decode cX10_cell 47 = .ok (.getfield 35, 3) := by decide +kernel
theorem dX10_cell_50 : decode cX10_cell 50 = .ok (.dup, 1) := by decide +kernel
theorem dX10_cell_51 : decode cX10_cell 51 = .ok (.getfield 235, 3) := by decide +kernel
theorem dX10_cell_54 : decode cX10_cell 54 = .ok (.iconst 1, 1) := by decide +kernel
theorem dX10_cell_55 : decode cX10_cell 55 = .ok (.iadd, 1) := by decide +kernel
theorem dX10_cell_56 : decode cX10_cell 56 = .ok (.putfield 235, 3) := by decide +kernel
theorem dX10_cell_59 : decode cX10_cell 59 = .ok (.aload_n 0, 1) := by decide +kernel
theorem dX10_cell_60 : decode cX10_cell 60 = .ok (.getfield 35, 3) := by decide +kernel
theorem dX10_cell_63 : decode cX10_cell 63 = .ok (.iload 6, 2) := by decide +kernel
theorem dX10_cell_65 : decode cX10_cell 65 = .ok (.invokevirtual 238, 3) := by decide +kernel
theorem dX10_cell_68 : decode cX10_cell 68 = .ok (.lreturn, 1) := by decide +kernel
theorem dX10_cell_69 : decode cX10_cell 69 = .ok (.aload_n 0, 1) := by decide +kernel
theorem dX10_cell_70 : decode cX10_cell 70 = .ok (.getfield 51, 3) := by decide +kernel
theorem dX10_cell_73 : decode cX10_cell 73 = .ok (.iload 4, 2) := by decide +kernel
theorem dX10_cell_75 : decode cX10_cell 75 = .ok (.invokevirtual 242, 3) := by decide +kernel
theorem dX10_cell_78 : decode cX10_cell 78 = .ok (.aload_n 0, 1) := by decide +kernel
theorem dX10_cell_79 : decode cX10_cell 79 = .ok (.getfield 51, 3) := by decide +kernel
theorem dX10_cell_82 : decode cX10_cell 82 = .ok (.iload 5, 2) := by decide +kernel
theorem dX10_cell_84 : decode cX10_cell 84 = .ok (.invokevirtual 245, 3) := by decide +kernel
theorem dX10_cell_87 : decode cX10_cell 87 = .ok (.lstore 7, 2) := by decide +kernel
theorem dX10_cell_89 : decode cX10_cell 89 = .ok (.aload_n 0, 1) := by decide +kernel
theorem dX10_cell_90 : decode cX10_cell 90 = .ok (.getfield 35, 3) := by decide +kernel
theorem dX10_cell_93 : decode cX10_cell 93 = .ok (.iload 5, 2) := by decide +kernel
theorem dX10_cell_95 : decode cX10_cell 95 = .ok (.iload 4, 2) := by decide +kernel
theorem dX10_cell_97 : decode cX10_cell 97 = .ok (.lload 7, 2) := by decide +kernel
theorem dX10_cell_99 : decode cX10_cell 99 = .ok (.invokevirtual 248, 3) := by decide +kernel
theorem dX10_cell_102 : decode cX10_cell 102 = .ok (.lload 7, 2) := by decide +kernel
theorem dX10_cell_104 : decode cX10_cell 104 = .ok (.lreturn, 1) := by decide +kernel
theorem dX10_cellAnew_0 : decode cX10_cellAnew 0 = .ok (.aload_n 0, 1) := by decide +kernel
theorem dX10_cellAnew_1 : decode cX10_cellAnew 1 = .ok (.iload_n 1, 1) := by decide +kernel
theorem dX10_cellAnew_2 : decode cX10_cellAnew 2 = .ok (.iload_n 2, 1) := by decide +kernel
theorem dX10_cellAnew_3 : decode cX10_cellAnew 3 = .ok (.iload_n 3, 1) := by decide +kernel
theorem dX10_cellAnew_4 : decode cX10_cellAnew 4 = .ok (.iload 4, 2) := by decide +kernel
theorem dX10_cellAnew_6 : decode cX10_cellAnew 6 = .ok (.invokevirtual 205, 3) := by decide +kernel
theorem dX10_cellAnew_9 : decode cX10_cellAnew 9 = .ok (.istore 5, 2) := by decide +kernel
theorem dX10_cellAnew_11 : decode cX10_cellAnew 11 = .ok (.aload_n 0, 1) := by decide +kernel
theorem dX10_cellAnew_12 : decode cX10_cellAnew 12 = .ok (.getfield 51, 3) := by decide +kernel
theorem dX10_cellAnew_15 : decode cX10_cellAnew 15 = .ok (.iload 4, 2) := by decide +kernel
theorem dX10_cellAnew_17 : decode cX10_cellAnew 17 = .ok (.invokevirtual 242, 3) := by decide +kernel
theorem dX10_cellAnew_20 : decode cX10_cellAnew 20 = .ok (.aload_n 0, 1) := by decide +kernel
theorem dX10_cellAnew_21 : decode cX10_cellAnew 21 = .ok (.getfield 51, 3) := by decide +kernel
theorem dX10_cellAnew_24 : decode cX10_cellAnew 24 = .ok (.iload 5, 2) := by decide +kernel
theorem dX10_cellAnew_26 : decode cX10_cellAnew 26 = .ok (.invokevirtual 245, 3) := by decide +kernel
theorem dX10_cellAnew_29 : decode cX10_cellAnew 29 = .ok (.lreturn, 1) := by decide +kernel
theorem dX10_kept_0 : decode cX10_kept 0 = .ok (.aload_n 0, 1) := by decide +kernel
theorem dX10_kept_1 : decode cX10_kept 1 = .ok (.getfield 35, 3) := by decide +kernel
theorem dX10_kept_4 : decode cX10_kept 4 = .ok (.getfield 252, 3) := by decide +kernel
theorem dX10_kept_7 : decode cX10_kept 7 = .ok (.ireturn, 1) := by decide +kernel
theorem dX10_hits_0 : decode cX10_hits 0 = .ok (.aload_n 0, 1) := by decide +kernel
theorem dX10_hits_1 : decode cX10_hits 1 = .ok (.getfield 35, 3) := by decide +kernel
theorem dX10_hits_4 : decode cX10_hits 4 = .ok (.getfield 235, 3) := by decide +kernel
theorem dX10_hits_7 : decode cX10_hits 7 = .ok (.ireturn, 1) := by decide +kernel
theorem dX10_at_0 : decode cX10_at 0 = .ok (.aload_n 0, 1) := by decide +kernel
theorem dX10_at_1 : decode cX10_at 1 = .ok (.iload_n 1, 1) := by decide +kernel
theorem dX10_at_2 : decode cX10_at 2 = .ok (.invokevirtual 62, 3) := by decide +kernel
theorem dX10_at_5 : decode cX10_at 5 = .ok (.astore_n 3, 1) := by decide +kernel
theorem dX10_at_6 : decode cX10_at 6 = .ok (.aload_n 3, 1) := by decide +kernel
theorem dX10_at_7 : decode cX10_at 7 = .ok (.iload_n 2, 1) := by decide +kernel
theorem dX10_at_8 : decode cX10_at 8 = .ok (.invokestatic 66, 3) := by decide +kernel
theorem dX10_at_11 : decode cX10_at 11 = .ok (.aload_n 3, 1) := by decide +kernel
theorem dX10_at_12 : decode cX10_at 12 = .ok (.getfield 253, 3) := by decide +kernel
theorem dX10_at_15 : decode cX10_at 15 = .ok (.istore 4, 2) := by decide +kernel
theorem dX10_at_17 : decode cX10_at 17 = .ok (.aload_n 3, 1) := by decide +kernel
theorem dX10_at_18 : decode cX10_at 18 = .ok (.iload_n 2, 1) := by decide +kernel
theorem dX10_at_19 : decode cX10_at 19 = .ok (.putfield 253, 3) := by decide +kernel
theorem dX10_at_22 : decode cX10_at 22 = .ok (.iload 4, 2) := by decide +kernel
theorem dX10_at_24 : decode cX10_at 24 = .ok (.ireturn, 1) := by decide +kernel
theorem dX10_pick_0 : decode cX10_pick 0 = .ok (.aload_n 0, 1) := by decide +kernel
theorem dX10_pick_1 : decode cX10_pick 1 = .ok (.iload_n 1, 1) := by decide +kernel
theorem dX10_pick_2 : decode cX10_pick 2 = .ok (.invokevirtual 62, 3) := by decide +kernel
theorem dX10_pick_5 : decode cX10_pick 5 = .ok (.astore 6, 2) := by decide +kernel
theorem dX10_pick_7 : decode cX10_pick 7 = .ok (.iload_n 2, 1) := by decide +kernel
theorem dX10_pick_8 : decode cX10_pick 8 = .ok (.iconst 2, 1) := by decide +kernel
theorem dX10_pick_9 : decode cX10_pick 9 = .ok (.if_icmp .eq 9, 3) := by decide +kernel
theorem dX10_pick_12 : decode cX10_pick 12 = .ok (.aload 6, 2) := by decide +kernel
theorem dX10_pick_14 : decode cX10_pick 14 = .ok (.iload_n 3, 1) := by decide +kernel
theorem dX10_pick_15 : decode cX10_pick 15 = .ok (.invokestatic 66, 3) := by decide +kernel
theorem dX10_pick_18 : decode cX10_pick 18 = .ok (.iload 5, 2) := by decide +kernel
theorem dX10_pick_20 : decode cX10_pick 20 = .ok (.ifCond .eq 9, 3) := by decide +kernel
theorem dX10_pick_23 : decode cX10_pick 23 = .ok (.aload_n 0, 1) := by decide +kernel
theorem dX10_pick_24 : decode cX10_pick 24 = .ok (.iload 4, 2) := by decide +kernel
theorem dX10_pick_26 : decode cX10_pick 26 = .ok (.invokevirtual 193, 3) := by decide +kernel
theorem dX10_pick_29 : decode cX10_pick 29 = .ok (.iload_n 2, 1) := by decide +kernel
theorem dX10_pick_30 : decode cX10_pick 30 = .ok (.iconst 0, 1) := by decide +kernel
theorem dX10_pick_31 : decode cX10_pick 31 = .ok (.iconst 2, 1) := by decide +kernel
theorem dX10_pick_32 : decode cX10_pick 32 = .ok (.invokestatic 70, 3) := by decide +kernel
theorem dX10_pick_35 : decode cX10_pick 35 = .ok (.iload 5, 2) := by decide +kernel
theorem dX10_pick_37 : decode cX10_pick 37 = .ok (.iconst 0, 1) := by decide +kernel
theorem dX10_pick_38 : decode cX10_pick 38 = .ok (.bipush 12, 2) := by decide +kernel
theorem dX10_pick_40 : decode cX10_pick 40 = .ok (.invokestatic 70, 3) := by decide +kernel
theorem dX10_pick_43 : decode cX10_pick 43 = .ok (.iload_n 2, 1) := by decide +kernel
theorem dX10_pick_44 : decode cX10_pick 44 = .ok (.iconst 2, 1) := by decide +kernel
theorem dX10_pick_45 : decode cX10_pick 45 = .ok (.if_icmp .ne 10, 3) := by decide +kernel
theorem dX10_pick_48 : decode cX10_pick 48 = .ok (.iload_n 3, 1) := by decide +kernel
theorem dX10_pick_49 : decode cX10_pick 49 = .ok (.iconst 0, 1) := by decide +kernel
theorem dX10_pick_50 : decode cX10_pick 50 = .ok (.bipush 11, 2) := by decide +kernel
theorem dX10_pick_52 : decode cX10_pick 52 = .ok (.invokestatic 70, 3) := by decide +kernel
theorem dX10_pick_55 : decode cX10_pick 55 = .ok (.iload_n 2, 1) := by decide +kernel
theorem dX10_pick_56 : decode cX10_pick 56 = .ok (.iconst 2, 1) := by decide +kernel
theorem dX10_pick_57 : decode cX10_pick 57 = .ok (.if_icmp .eq 12, 3) := by decide +kernel
theorem dX10_pick_60 : decode cX10_pick 60 = .ok (.aload 6, 2) := by decide +kernel
theorem dX10_pick_62 : decode cX10_pick 62 = .ok (.iload_n 3, 1) := by decide +kernel
theorem dX10_pick_63 : decode cX10_pick 63 = .ok (.invokevirtual 74, 3) := by decide +kernel
theorem dX10_pick_66 : decode cX10_pick 66 = .ok (.ifCond .eq 7, 3) := by decide +kernel
theorem dX10_pick_69 : decode cX10_pick 69 = .ok (.iconst 1, 1) := by decide +kernel
theorem dX10_pick_70 : decode cX10_pick 70 = .ok (.goto 4, 3) := by decide +kernel
theorem dX10_pick_73 : decode cX10_pick 73 = .ok (.iconst 0, 1) := by decide +kernel
theorem dX10_pick_74 : decode cX10_pick 74 = .ok (.invokestatic 84, 3) := by decide +kernel
theorem dX10_pick_77 : decode cX10_pick 77 = .ok (.aload 6, 2) := by decide +kernel
theorem dX10_pick_79 : decode cX10_pick 79 = .ok (.iload_n 2, 1) := by decide +kernel
theorem dX10_pick_80 : decode cX10_pick 80 = .ok (.iload_n 3, 1) := by decide +kernel
theorem dX10_pick_81 : decode cX10_pick 81 = .ok (.invokevirtual 256, 3) := by decide +kernel
theorem dX10_pick_84 : decode cX10_pick 84 = .ok (.iload 5, 2) := by decide +kernel
theorem dX10_pick_86 : decode cX10_pick 86 = .ok (.ifCond .eq 22, 3) := by decide +kernel
theorem dX10_pick_89 : decode cX10_pick 89 = .ok (.aload_n 0, 1) := by decide +kernel
theorem dX10_pick_90 : decode cX10_pick 90 = .ok (.getfield 51, 3) := by decide +kernel
theorem dX10_pick_93 : decode cX10_pick 93 = .ok (.iload 4, 2) := by decide +kernel
theorem dX10_pick_95 : decode cX10_pick 95 = .ok (.invokevirtual 242, 3) := by decide +kernel
theorem dX10_pick_98 : decode cX10_pick 98 = .ok (.aload_n 0, 1) := by decide +kernel
theorem dX10_pick_99 : decode cX10_pick 99 = .ok (.getfield 51, 3) := by decide +kernel
theorem dX10_pick_102 : decode cX10_pick 102 = .ok (.iload_n 1, 1) := by decide +kernel
theorem dX10_pick_103 : decode cX10_pick 103 = .ok (.iload 5, 2) := by decide +kernel
theorem dX10_pick_105 : decode cX10_pick 105 = .ok (.invokevirtual 259, 3) := by decide +kernel
theorem dX10_pick_108 : decode cX10_pick 108 = .ok (.aload 6, 2) := by decide +kernel
theorem dX10_pick_110 : decode cX10_pick 110 = .ok (.getfield 262, 3) := by decide +kernel
theorem dX10_pick_113 : decode cX10_pick 113 = .ok (.ireturn, 1) := by decide +kernel
theorem dX10_picked_0 : decode cX10_picked 0 = .ok (.aload_n 0, 1) := by decide +kernel
theorem dX10_picked_1 : decode cX10_picked 1 = .ok (.iload_n 1, 1) := by decide +kernel
theorem dX10_picked_2 : decode cX10_picked 2 = .ok (.invokevirtual 62, 3) := by decide +kernel
theorem dX10_picked_5 : decode cX10_picked 5 = .ok (.astore_n 3, 1) := by decide +kernel
theorem dX10_picked_6 : decode cX10_picked 6 = .ok (.iload_n 2, 1) := by decide +kernel
theorem dX10_picked_7 : decode cX10_picked 7 = .ok (.ifCond .ge 14, 3) := by decide +kernel
theorem dX10_picked_10 : decode cX10_picked 10 = .ok (.new 108, 3) := by decide +kernel
theorem dX10_picked_13 : decode cX10_picked 13 = .ok (.dup, 1) := by decide +kernel
theorem dX10_picked_14 : decode cX10_picked 14 = .ok (.ldc_w 265, 3) := by decide +kernel
theorem dX10_picked_17 : decode cX10_picked 17 = .ok (.invokespecial 112, 3) := by decide +kernel
theorem dX10_picked_20 : decode cX10_picked 20 = .ok (.athrow, 1) := by decide +kernel
theorem dX10_picked_21 : decode cX10_picked 21 = .ok (.aload_n 3, 1) := by decide +kernel
theorem dX10_picked_22 : decode cX10_picked 22 = .ok (.iload_n 2, 1) := by decide +kernel
theorem dX10_picked_23 : decode cX10_picked 23 = .ok (.invokevirtual 267, 3) := by decide +kernel
theorem dX10_picked_26 : decode cX10_picked 26 = .ok (.ireturn, 1) := by decide +kernel
theorem dX10_cross_0 : decode cX10_cross 0 = .ok (.aload_n 0, 1) := by decide +kernel
theorem dX10_cross_1 : decode cX10_cross 1 = .ok (.iload_n 1, 1) := by decide +kernel
theorem dX10_cross_2 : decode cX10_cross 2 = .ok (.invokevirtual 62, 3) := by decide +kernel
theorem dX10_cross_5 : decode cX10_cross 5 = .ok (.astore 4, 2) := by decide +kernel
theorem dX10_cross_7 : decode cX10_cross 7 = .ok (.aload_n 0, 1) := by decide +kernel
theorem dX10_cross_8 : decode cX10_cross 8 = .ok (.iload_n 2, 1) := by decide +kernel
theorem dX10_cross_9 : decode cX10_cross 9 = .ok (.invokevirtual 62, 3) := by decide +kernel
theorem dX10_cross_12 : decode cX10_cross 12 = .ok (.astore 5, 2) := by decide +kernel
theorem dX10_cross_14 : decode cX10_cross 14 = .ok (.aload_n 0, 1) := by decide +kernel
theorem dX10_cross_15 : decode cX10_cross 15 = .ok (.iload_n 3, 1) := by decide +kernel
theorem dX10_cross_16 : decode cX10_cross 16 = .ok (.invokevirtual 193, 3) := by decide +kernel
theorem dX10_cross_19 : decode cX10_cross 19 = .ok (.iload_n 1, 1) := by decide +kernel
theorem dX10_cross_20 : decode cX10_cross 20 = .ok (.iload_n 2, 1) := by decide +kernel
theorem dX10_cross_21 : decode cX10_cross 21 = .ok (.if_icmp .ne 14, 3) := by decide +kernel
theorem dX10_cross_24 : decode cX10_cross 24 = .ok (.new 270, 3) := by decide +kernel
theorem dX10_cross_27 : decode cX10_cross 27 = .ok (.dup, 1) := by decide +kernel
theorem dX10_cross_28 : decode cX10_cross 28 = .ok (.ldc_w 272, 3) := by decide +kernel
theorem dX10_cross_31 : decode cX10_cross 31 = .ok (.invokespecial 274, 3) := by decide +kernel
theorem dX10_cross_34 : decode cX10_cross 34 = .ok (.athrow, 1) := by decide +kernel
theorem dX10_cross_35 : decode cX10_cross 35 = .ok (.aload_n 0, 1) := by decide +kernel
theorem dX10_cross_36 : decode cX10_cross 36 = .ok (.getfield 51, 3) := by decide +kernel
theorem dX10_cross_39 : decode cX10_cross 39 = .ok (.iload_n 3, 1) := by decide +kernel
theorem dX10_cross_40 : decode cX10_cross 40 = .ok (.invokevirtual 242, 3) := by decide +kernel
theorem dX10_cross_43 : decode cX10_cross 43 = .ok (.iconst 0, 1) := by decide +kernel
theorem dX10_cross_44 : decode cX10_cross 44 = .ok (.istore 6, 2) := by decide +kernel
theorem dX10_cross_46 : decode cX10_cross 46 = .ok (.iconst 0, 1) := by decide +kernel
theorem dX10_cross_47 : decode cX10_cross 47 = .ok (.istore 7, 2) := by decide +kernel
theorem dX10_cross_49 : decode cX10_cross 49 = .ok (.iload 7, 2) := by decide +kernel
theorem dX10_cross_51 : decode cX10_cross 51 = .ok (.aload 4, 2) := by decide +kernel
theorem dX10_cross_53 : decode cX10_cross 53 = .ok (.getfield 262, 3) := by decide +kernel
theorem dX10_cross_56 : decode cX10_cross 56 = .ok (.if_icmp .ge 78, 3) := by decide +kernel
theorem dX10_cross_59 : decode cX10_cross 59 = .ok (.aload_n 0, 1) := by decide +kernel
theorem dX10_cross_60 : decode cX10_cross 60 = .ok (.getfield 12, 3) := by decide +kernel
theorem dX10_cross_63 : decode cX10_cross 63 = .ok (.invokevirtual 275, 3) := by decide +kernel
theorem dX10_cross_66 : decode cX10_cross 66 = .ok (.iload_n 1, 1) := by decide +kernel
theorem dX10_cross_67 : decode cX10_cross 67 = .ok (.aload 4, 2) := by decide +kernel
theorem dX10_cross_69 : decode cX10_cross 69 = .ok (.iload 7, 2) := by decide +kernel
theorem dX10_cross_71 : decode cX10_cross 71 = .ok (.invokevirtual 267, 3) := by decide +kernel
theorem dX10_cross_74 : decode cX10_cross 74 = .ok (.invokestatic 278, 3) := by decide +kernel
theorem dX10_cross_77 : decode cX10_cross 77 = .ok (.istore 8, 2) := by decide +kernel
theorem dX10_cross_79 : decode cX10_cross 79 = .ok (.iconst 0, 1) := by decide +kernel
theorem dX10_cross_80 : decode cX10_cross 80 = .ok (.istore 9, 2) := by decide +kernel
theorem dX10_cross_82 : decode cX10_cross 82 = .ok (.iload 9, 2) := by decide +kernel
theorem dX10_cross_84 : decode cX10_cross 84 = .ok (.aload 5, 2) := by decide +kernel
theorem dX10_cross_86 : decode cX10_cross 86 = .ok (.getfield 262, 3) := by decide +kernel
theorem dX10_cross_89 : decode cX10_cross 89 = .ok (.if_icmp .ge 39, 3) := by decide +kernel
theorem dX10_cross_92 : decode cX10_cross 92 = .ok (.aload_n 0, 1) := by decide +kernel
theorem dX10_cross_93 : decode cX10_cross 93 = .ok (.getfield 51, 3) := by decide +kernel
theorem dX10_cross_96 : decode cX10_cross 96 = .ok (.iload 8, 2) := by decide +kernel
theorem dX10_cross_98 : decode cX10_cross 98 = .ok (.iload_n 2, 1) := by decide +kernel
theorem dX10_cross_99 : decode cX10_cross 99 = .ok (.aload 5, 2) := by decide +kernel
theorem dX10_cross_101 : decode cX10_cross 101 = .ok (.iload 9, 2) := by decide +kernel
theorem dX10_cross_103 : decode cX10_cross 103 = .ok (.invokevirtual 267, 3) := by decide +kernel
theorem dX10_cross_106 : decode cX10_cross 106 = .ok (.invokestatic 278, 3) := by decide +kernel
theorem dX10_cross_109 : decode cX10_cross 109 = .ok (.invokevirtual 245, 3) := by decide +kernel
theorem dX10_cross_112 : decode cX10_cross 112 = .ok (.ldc2_w 232, 3) := by decide +kernel
theorem dX10_cross_115 : decode cX10_cross 115 = .ok (.lcmp, 1) := by decide +kernel
theorem dX10_cross_116 : decode cX10_cross 116 = .ok (.ifCond .eq 6, 3) := by decide +kernel
theorem dX10_cross_119 : decode cX10_cross 119 = .ok (.iinc 6 1, 3) := by decide +kernel
theorem dX10_cross_122 : decode cX10_cross 122 = .ok (.iinc 9 1, 3) := by decide +kernel
theorem dX10_cross_125 : decode cX10_cross 125 = .ok (.goto (-43), 3) := by decide +kernel
theorem dX10_cross_128 : decode cX10_cross 128 = .ok (.iinc 7 1, 3) := by decide +kernel
theorem dX10_cross_131 : decode cX10_cross 131 = .ok (.goto (-82), 3) := by decide +kernel
theorem dX10_cross_134 : decode cX10_cross 134 = .ok (.iload 6, 2) := by decide +kernel
theorem dX10_cross_136 : decode cX10_cross 136 = .ok (.ireturn, 1) := by decide +kernel
theorem dX10_write_0 : decode cX10_write 0 = .ok (.aload_n 0, 1) := by decide +kernel
theorem dX10_write_1 : decode cX10_write 1 = .ok (.iload_n 1, 1) := by decide +kernel
theorem dX10_write_2 : decode cX10_write 2 = .ok (.iload_n 2, 1) := by decide +kernel
theorem dX10_write_3 : decode cX10_write 3 = .ok (.iload_n 3, 1) := by decide +kernel
theorem dX10_write_4 : decode cX10_write 4 = .ok (.iload 4, 2) := by decide +kernel
theorem dX10_write_6 : decode cX10_write 6 = .ok (.invokevirtual 205, 3) := by decide +kernel
theorem dX10_write_9 : decode cX10_write 9 = .ok (.istore 7, 2) := by decide +kernel
theorem dX10_write_11 : decode cX10_write 11 = .ok (.iload 5, 2) := by decide +kernel
theorem dX10_write_13 : decode cX10_write 13 = .ok (.iconst 0, 1) := by decide +kernel
theorem dX10_write_14 : decode cX10_write 14 = .ok (.ldc 166, 2) := by decide +kernel
theorem dX10_write_16 : decode cX10_write 16 = .ok (.invokestatic 70, 3) := by decide +kernel
theorem dX10_write_19 : decode cX10_write 19 = .ok (.iload 6, 2) := by decide +kernel
theorem dX10_write_21 : decode cX10_write 21 = .ok (.iconst 0, 1) := by decide +kernel
theorem dX10_write_22 : decode cX10_write 22 = .ok (.iconst 2, 1) := by decide +kernel
theorem dX10_write_23 : decode cX10_write 23 = .ok (.invokestatic 70, 3) := by decide +kernel
theorem dX10_write_26 : decode cX10_write 26 = .ok (.aload_n 0, 1) := by decide +kernel
theorem dX10_write_27 : decode cX10_write 27 = .ok (.getfield 21, 3) := by decide +kernel
theorem dX10_write_30 : decode cX10_write 30 = .ok (.iload 4, 2) := by decide +kernel
theorem dX10_write_32 : decode cX10_write 32 = .ok (.invokevirtual 210, 3) := by decide +kernel
theorem dX10_write_35 : decode cX10_write 35 = .ok (.ifCond .ne 31, 3) := by decide +kernel
theorem dX10_write_38 : decode cX10_write 38 = .ok (.aload_n 0, 1) := by decide +kernel
theorem dX10_write_39 : decode cX10_write 39 = .ok (.getfield 12, 3) := by decide +kernel
theorem dX10_write_42 : decode cX10_write 42 = .ok (.iload 7, 2) := by decide +kernel
theorem dX10_write_44 : decode cX10_write 44 = .ok (.invokevirtual 231, 3) := by decide +kernel
theorem dX10_write_47 : decode cX10_write 47 = .ok (.ifCond .eq 19, 3) := by decide +kernel
theorem dX10_write_50 : decode cX10_write 50 = .ok (.aload_n 0, 1) := by decide +kernel
theorem dX10_write_51 : decode cX10_write 51 = .ok (.getfield 12, 3) := by decide +kernel
theorem dX10_write_54 : decode cX10_write 54 = .ok (.iload 7, 2) := by decide +kernel
theorem dX10_write_56 : decode cX10_write 56 = .ok (.invokevirtual 281, 3) := by decide +kernel
theorem dX10_write_59 : decode cX10_write 59 = .ok (.ifCond .ne 7, 3) := by decide +kernel
theorem dX10_write_62 : decode cX10_write 62 = .ok (.iconst 1, 1) := by decide +kernel
theorem dX10_write_63 : decode cX10_write 63 = .ok (.goto 4, 3) := by decide +kernel
theorem dX10_write_66 : decode cX10_write 66 = .ok (.iconst 0, 1) := by decide +kernel
theorem dX10_write_67 : decode cX10_write 67 = .ok (.invokestatic 84, 3) := by decide +kernel
theorem dX10_write_70 : decode cX10_write 70 = .ok (.aload_n 0, 1) := by decide +kernel
theorem dX10_write_71 : decode cX10_write 71 = .ok (.getfield 51, 3) := by decide +kernel
theorem dX10_write_74 : decode cX10_write 74 = .ok (.iload 7, 2) := by decide +kernel
theorem dX10_write_76 : decode cX10_write 76 = .ok (.iload 4, 2) := by decide +kernel
theorem dX10_write_78 : decode cX10_write 78 = .ok (.invokevirtual 284, 3) := by decide +kernel
theorem dX10_write_81 : decode cX10_write 81 = .ok (.aload_n 0, 1) := by decide +kernel
theorem dX10_write_82 : decode cX10_write 82 = .ok (.getfield 51, 3) := by decide +kernel
theorem dX10_write_85 : decode cX10_write 85 = .ok (.getfield 287, 3) := by decide +kernel
theorem dX10_write_88 : decode cX10_write 88 = .ok (.ifCond .ne 58, 3) := by decide +kernel
theorem dX10_write_91 : decode cX10_write 91 = .ok (.aload_n 0, 1) := by decide +kernel
theorem dX10_write_92 : decode cX10_write 92 = .ok (.getfield 12, 3) := by decide +kernel
theorem dX10_write_95 : decode cX10_write 95 = .ok (.iload 7, 2) := by decide +kernel
theorem dX10_write_97 : decode cX10_write 97 = .ok (.invokevirtual 209, 3) := by decide +kernel
theorem dX10_write_100 : decode cX10_write 100 = .ok (.ifCond .eq 19, 3) := by decide +kernel
theorem dX10_write_103 : decode cX10_write 103 = .ok (.aload_n 0, 1) := by decide +kernel
theorem dX10_write_104 : decode cX10_write 104 = .ok (.getfield 28, 3) := by decide +kernel
theorem dX10_write_107 : decode cX10_write 107 = .ok (.getfield 214, 3) := by decide +kernel
theorem dX10_write_110 : decode cX10_write 110 = .ok (.bipush 50, 2) := by decide +kernel
theorem dX10_write_112 : decode cX10_write 112 = .ok (.if_icmp .ge 7, 3) := by decide +kernel
theorem dX10_write_115 : decode cX10_write 115 = .ok (.iconst 1, 1) := by decide +kernel
theorem dX10_write_116 : decode cX10_write 116 = .ok (.goto 4, 3) := by decide +kernel
theorem dX10_write_119 : decode cX10_write 119 = .ok (.iconst 0, 1) := by decide +kernel
theorem dX10_write_120 : decode cX10_write 120 = .ok (.invokestatic 84, 3) := by decide +kernel
theorem dX10_write_123 : decode cX10_write 123 = .ok (.aload_n 0, 1) := by decide +kernel
theorem dX10_write_124 : decode cX10_write 124 = .ok (.getfield 28, 3) := by decide +kernel
theorem dX10_write_127 : decode cX10_write 127 = .ok (.iload 7, 2) := by decide +kernel
theorem dX10_write_129 : decode cX10_write 129 = .ok (.iload 4, 2) := by decide +kernel
theorem dX10_write_131 : decode cX10_write 131 = .ok (.iload 5, 2) := by decide +kernel
theorem dX10_write_133 : decode cX10_write 133 = .ok (.invokevirtual 215, 3) := by decide +kernel
theorem dX10_write_136 : decode cX10_write 136 = .ok (.aload_n 0, 1) := by decide +kernel
theorem dX10_write_137 : decode cX10_write 137 = .ok (.iload 7, 2) := by decide +kernel
theorem dX10_write_139 : decode cX10_write 139 = .ok (.iload 4, 2) := by decide +kernel
theorem dX10_write_141 : decode cX10_write 141 = .ok (.invokevirtual 217, 3) := by decide +kernel
theorem dX10_write_144 : decode cX10_write 144 = .ok (.iconst 1, 1) := by decide +kernel
theorem dX10_write_145 : decode cX10_write 145 = .ok (.ireturn, 1) := by decide +kernel
theorem dX10_write_146 : decode cX10_write 146 = .ok (.aload_n 0, 1) := by decide +kernel
theorem dX10_write_147 : decode cX10_write 147 = .ok (.getfield 51, 3) := by decide +kernel
theorem dX10_write_150 : decode cX10_write 150 = .ok (.invokevirtual 290, 3) := by decide +kernel
theorem dX10_write_153 : decode cX10_write 153 = .ok (.invokestatic 84, 3) := by decide +kernel
theorem dX10_write_156 : decode cX10_write 156 = .ok (.aload_n 0, 1) := by decide +kernel
theorem dX10_write_157 : decode cX10_write 157 = .ok (.getfield 42, 3) := by decide +kernel
theorem dX10_write_160 : decode cX10_write 160 = .ok (.aload_n 0, 1) := by decide +kernel
theorem dX10_write_161 : decode cX10_write 161 = .ok (.getfield 51, 3) := by decide +kernel
theorem dX10_write_164 : decode cX10_write 164 = .ok (.getfield 287, 3) := by decide +kernel
theorem dX10_write_167 : decode cX10_write 167 = .ok (.iload 5, 2) := by decide +kernel
theorem dX10_write_169 : decode cX10_write 169 = .ok (.i2l, 1) := by decide +kernel
theorem dX10_write_170 : decode cX10_write 170 = .ok (.invokevirtual 294, 3) := by decide +kernel
theorem dX10_write_173 : decode cX10_write 173 = .ok (.iconst 0, 1) := by decide +kernel
theorem dX10_write_174 : decode cX10_write 174 = .ok (.istore 8, 2) := by decide +kernel
theorem dX10_write_176 : decode cX10_write 176 = .ok (.iload 8, 2) := by decide +kernel
theorem dX10_write_178 : decode cX10_write 178 = .ok (.aload_n 0, 1) := by decide +kernel
theorem dX10_write_179 : decode cX10_write 179 = .ok (.getfield 51, 3) := by decide +kernel
theorem dX10_write_182 : decode cX10_write 182 = .ok (.getfield 287, 3) := by decide +kernel
theorem dX10_write_185 : decode cX10_write 185 = .ok (.if_icmp .ge 35, 3) := by decide +kernel
theorem dX10_write_188 : decode cX10_write 188 = .ok (.aload_n 0, 1) := by decide +kernel
theorem dX10_write_189 : decode cX10_write 189 = .ok (.getfield 42, 3) := by decide +kernel
theorem dX10_write_192 : decode cX10_write 192 = .ok (.iload 8, 2) := by decide +kernel
theorem dX10_write_194 : decode cX10_write 194 = .ok (.aload_n 0, 1) := by decide +kernel
theorem dX10_write_195 : decode cX10_write 195 = .ok (.getfield 28, 3) := by decide +kernel
theorem dX10_write_198 : decode cX10_write 198 = .ok (.aload_n 0, 1) := by decide +kernel
theorem dX10_write_199 : decode cX10_write 199 = .ok (.getfield 51, 3) := by decide +kernel
theorem dX10_write_202 : decode cX10_write 202 = .ok (.iload 8, 2) := by decide +kernel
theorem dX10_write_204 : decode cX10_write 204 = .ok (.invokevirtual 298, 3) := by decide +kernel
theorem dX10_write_207 : decode cX10_write 207 = .ok (.invokevirtual 225, 3) := by decide +kernel
theorem dX10_write_210 : decode cX10_write 210 = .ok (.i2l, 1) := by decide +kernel
theorem dX10_write_211 : decode cX10_write 211 = .ok (.invokevirtual 301, 3) := by decide +kernel
theorem dX10_write_214 : decode cX10_write 214 = .ok (.iinc 8 1, 3) := by decide +kernel
theorem dX10_write_217 : decode cX10_write 217 = .ok (.goto (-41), 3) := by decide +kernel
theorem dX10_write_220 : decode cX10_write 220 = .ok (.aload_n 0, 1) := by decide +kernel
theorem dX10_write_221 : decode cX10_write 221 = .ok (.getfield 42, 3) := by decide +kernel
theorem dX10_write_224 : decode cX10_write 224 = .ok (.iload 6, 2) := by decide +kernel
theorem dX10_write_226 : decode cX10_write 226 = .ok (.invokevirtual 304, 3) := by decide +kernel
theorem dX10_write_229 : decode cX10_write 229 = .ok (.aload_n 0, 1) := by decide +kernel
theorem dX10_write_230 : decode cX10_write 230 = .ok (.getfield 42, 3) := by decide +kernel
theorem dX10_write_233 : decode cX10_write 233 = .ok (.invokevirtual 307, 3) := by decide +kernel
theorem dX10_write_236 : decode cX10_write 236 = .ok (.invokestatic 84, 3) := by decide +kernel
theorem dX10_write_239 : decode cX10_write 239 = .ok (.aload_n 0, 1) := by decide +kernel
theorem dX10_write_240 : decode cX10_write 240 = .ok (.invokevirtual 310, 3) := by decide +kernel
theorem dX10_write_243 : decode cX10_write 243 = .ok (.ireturn, 1) := by decide +kernel
theorem dX10_begin_0 : decode cX10_begin 0 = .ok (.aload_n 0, 1) := by decide +kernel
theorem dX10_begin_1 : decode cX10_begin 1 = .ok (.getfield 28, 3) := by decide +kernel
theorem dX10_begin_4 : decode cX10_begin 4 = .ok (.getfield 313, 3) := by decide +kernel
theorem dX10_begin_7 : decode cX10_begin 7 = .ok (.ifCond .ne 7, 3) := by decide +kernel
theorem dX10_begin_10 : decode cX10_begin 10 = .ok (.iconst 1, 1) := by decide +kernel
theorem dX10_begin_11 : decode cX10_begin 11 = .ok (.goto 4, 3) := by decide +kernel
theorem dX10_begin_14 : decode cX10_begin 14 = .ok (.iconst 0, 1) := by decide +kernel
theorem dX10_begin_15 : decode cX10_begin 15 = .ok (.invokestatic 84, 3) := by decide +kernel
theorem dX10_begin_18 : decode cX10_begin 18 = .ok (.aload_n 0, 1) := by decide +kernel
theorem dX10_begin_19 : decode cX10_begin 19 = .ok (.getfield 28, 3) := by decide +kernel
theorem dX10_begin_22 : decode cX10_begin 22 = .ok (.invokevirtual 316, 3) := by decide +kernel
theorem dX10_begin_25 : decode cX10_begin 25 = .ok (.return_, 1) := by decide +kernel
theorem dX10_end_0 : decode cX10_end 0 = .ok (.aload_n 0, 1) := by decide +kernel
theorem dX10_end_1 : decode cX10_end 1 = .ok (.getfield 28, 3) := by decide +kernel
theorem dX10_end_4 : decode cX10_end 4 = .ok (.getfield 313, 3) := by decide +kernel
theorem dX10_end_7 : decode cX10_end 7 = .ok (.invokestatic 84, 3) := by decide +kernel
theorem dX10_end_10 : decode cX10_end 10 = .ok (.aload_n 0, 1) := by decide +kernel
theorem dX10_end_11 : decode cX10_end 11 = .ok (.getfield 28, 3) := by decide +kernel
theorem dX10_end_14 : decode cX10_end 14 = .ok (.iconst 0, 1) := by decide +kernel
theorem dX10_end_15 : decode cX10_end 15 = .ok (.putfield 313, 3) := by decide +kernel
theorem dX10_end_18 : decode cX10_end 18 = .ok (.iload_n 1, 1) := by decide +kernel
theorem dX10_end_19 : decode cX10_end 19 = .ok (.ifCond .ne 17, 3) := by decide +kernel
theorem dX10_end_22 : decode cX10_end 22 = .ok (.aload_n 0, 1) := by decide +kernel
theorem dX10_end_23 : decode cX10_end 23 = .ok (.getfield 28, 3) := by decide +kernel
theorem dX10_end_26 : decode cX10_end 26 = .ok (.invokevirtual 319, 3) := by decide +kernel
theorem dX10_end_29 : decode cX10_end 29 = .ok (.aload_n 0, 1) := by decide +kernel
theorem dX10_end_30 : decode cX10_end 30 = .ok (.getfield 35, 3) := by decide +kernel
theorem dX10_end_33 : decode cX10_end 33 = .ok (.invokevirtual 105, 3) := by decide +kernel
theorem dX10_end_36 : decode cX10_end 36 = .ok (.aload_n 0, 1) := by decide +kernel
theorem dX10_end_37 : decode cX10_end 37 = .ok (.getfield 28, 3) := by decide +kernel
theorem dX10_end_40 : decode cX10_end 40 = .ok (.getfield 214, 3) := by decide +kernel
theorem dX10_end_43 : decode cX10_end 43 = .ok (.ireturn, 1) := by decide +kernel
theorem dX10_facts_0 : decode cX10_facts 0 = .ok (.aload_n 0, 1) := by decide +kernel
theorem dX10_facts_1 : decode cX10_facts 1 = .ok (.getfield 28, 3) := by decide +kernel
theorem dX10_facts_4 : decode cX10_facts 4 = .ok (.getfield 214, 3) := by decide +kernel
theorem dX10_facts_7 : decode cX10_facts 7 = .ok (.ireturn, 1) := by decide +kernel
theorem dX10_existing_0 : decode cX10_existing 0 = .ok (.iload_n 1, 1) := by decide +kernel
theorem dX10_existing_1 : decode cX10_existing 1 = .ok (.ifCond .lt 8, 3) := by decide +kernel
theorem dX10_existing_4 : decode cX10_existing 4 = .ok (.iload_n 1, 1) := by decide +kernel
theorem dX10_existing_5 : decode cX10_existing 5 = .ok (.iconst 3, 1) := by decide +kernel
theorem dX10_existing_6 : decode cX10_existing 6 = .ok (.if_icmp .lt 14, 3) := by decide +kernel
theorem dX10_existing_9 : decode cX10_existing 9 = .ok (.new 108, 3) := by decide +kernel
theorem dX10_existing_12 : decode cX10_existing 12 = .ok (.dup, 1) := by decide +kernel
theorem dX10_existing_13 : decode cX10_existing 13 = .ok (.ldc_w 322, 3) := by decide +kernel
theorem dX10_existing_16 : decode cX10_existing 16 = .ok (.invokespecial 112, 3) := by decide +kernel
theorem dX10_existing_19 : decode cX10_existing 19 = .ok (.athrow, 1) := by decide +kernel
theorem dX10_existing_20 : decode cX10_existing 20 = .ok (.aload_n 0, 1) := by decide +kernel
theorem dX10_existing_21 : decode cX10_existing 21 = .ok (.getfield 12, 3) := by decide +kernel
theorem dX10_existing_24 : decode cX10_existing 24 = .ok (.iload_n 1, 1) := by decide +kernel
theorem dX10_existing_25 : decode cX10_existing 25 = .ok (.invokevirtual 324, 3) := by decide +kernel
theorem dX10_existing_28 : decode cX10_existing 28 = .ok (.areturn, 1) := by decide +kernel
theorem dX10_needMember_0 : decode cX10_needMember 0 = .ok (.aload_n 0, 1) := by decide +kernel
theorem dX10_needMember_1 : decode cX10_needMember 1 = .ok (.iload_n 1, 1) := by decide +kernel
theorem dX10_needMember_2 : decode cX10_needMember 2 = .ok (.invokevirtual 327, 3) := by decide +kernel
theorem dX10_needMember_5 : decode cX10_needMember 5 = .ok (.ifCond .ne 13, 3) := by decide +kernel
theorem dX10_needMember_8 : decode cX10_needMember 8 = .ok (.new 108, 3) := by decide +kernel
theorem dX10_needMember_11 : decode cX10_needMember 11 = .ok (.dup, 1) := by decide +kernel
theorem dX10_needMember_12 : decode cX10_needMember 12 = .ok (.ldc 110, 2) := by decide +kernel
theorem dX10_needMember_14 : decode cX10_needMember 14 = .ok (.invokespecial 112, 3) := by decide +kernel
theorem dX10_needMember_17 : decode cX10_needMember 17 = .ok (.athrow, 1) := by decide +kernel
theorem dX10_needMember_18 : decode cX10_needMember 18 = .ok (.return_, 1) := by decide +kernel
theorem dX10_needMeasure_0 : decode cX10_needMeasure 0 = .ok (.aload_n 0, 1) := by decide +kernel
theorem dX10_needMeasure_1 : decode cX10_needMeasure 1 = .ok (.getfield 21, 3) := by decide +kernel
theorem dX10_needMeasure_4 : decode cX10_needMeasure 4 = .ok (.iload_n 1, 1) := by decide +kernel
theorem dX10_needMeasure_5 : decode cX10_needMeasure 5 = .ok (.invokevirtual 330, 3) := by decide +kernel
theorem dX10_needMeasure_8 : decode cX10_needMeasure 8 = .ok (.ifCond .ne 14, 3) := by decide +kernel
theorem dX10_needMeasure_11 : decode cX10_needMeasure 11 = .ok (.new 108, 3) := by decide +kernel
theorem dX10_needMeasure_14 : decode cX10_needMeasure 14 = .ok (.dup, 1) := by decide +kernel
theorem dX10_needMeasure_15 : decode cX10_needMeasure 15 = .ok (.ldc_w 331, 3) := by decide +kernel
theorem dX10_needMeasure_18 : decode cX10_needMeasure 18 = .ok (.invokespecial 112, 3) := by decide +kernel
theorem dX10_needMeasure_21 : decode cX10_needMeasure 21 = .ok (.athrow, 1) := by decide +kernel
theorem dX10_needMeasure_22 : decode cX10_needMeasure 22 = .ok (.return_, 1) := by decide +kernel
theorem dX10_needRange_0 : decode cX10_needRange 0 = .ok (.iload_n 0, 1) := by decide +kernel
theorem dX10_needRange_1 : decode cX10_needRange 1 = .ok (.iload_n 1, 1) := by decide +kernel
theorem dX10_needRange_2 : decode cX10_needRange 2 = .ok (.if_icmp .lt 8, 3) := by decide +kernel
theorem dX10_needRange_5 : decode cX10_needRange 5 = .ok (.iload_n 0, 1) := by decide +kernel
theorem dX10_needRange_6 : decode cX10_needRange 6 = .ok (.iload_n 2, 1) := by decide +kernel
theorem dX10_needRange_7 : decode cX10_needRange 7 = .ok (.if_icmp .le 14, 3) := by decide +kernel
theorem dX10_needRange_10 : decode cX10_needRange 10 = .ok (.new 270, 3) := by decide +kernel
theorem dX10_needRange_13 : decode cX10_needRange 13 = .ok (.dup, 1) := by decide +kernel
theorem dX10_needRange_14 : decode cX10_needRange 14 = .ok (.ldc_w 333, 3) := by decide +kernel
theorem dX10_needRange_17 : decode cX10_needRange 17 = .ok (.invokespecial 274, 3) := by decide +kernel
theorem dX10_needRange_20 : decode cX10_needRange 20 = .ok (.athrow, 1) := by decide +kernel
theorem dX10_needRange_21 : decode cX10_needRange 21 = .ok (.return_, 1) := by decide +kernel
theorem dX10_need_0 : decode cX10_need 0 = .ok (.iload_n 0, 1) := by decide +kernel
theorem dX10_need_1 : decode cX10_need 1 = .ok (.ifCond .ne 14, 3) := by decide +kernel
theorem dX10_need_4 : decode cX10_need 4 = .ok (.new 335, 3) := by decide +kernel
theorem dX10_need_7 : decode cX10_need 7 = .ok (.dup, 1) := by decide +kernel
theorem dX10_need_8 : decode cX10_need 8 = .ok (.ldc_w 337, 3) := by decide +kernel
theorem dX10_need_11 : decode cX10_need 11 = .ok (.invokespecial 339, 3) := by decide +kernel
theorem dX10_need_14 : decode cX10_need 14 = .ok (.athrow, 1) := by decide +kernel
theorem dX10_need_15 : decode cX10_need 15 = .ok (.return_, 1) := by decide +kernel
theorem dX10_existingCell_0 : decode cX10_existingCell 0 = .ok (.aload_n 0, 1) := by decide +kernel
theorem dX10_existingCell_1 : decode cX10_existingCell 1 = .ok (.getfield 12, 3) := by decide +kernel
theorem dX10_existingCell_4 : decode cX10_existingCell 4 = .ok (.getfield 127, 3) := by decide +kernel
theorem dX10_existingCell_7 : decode cX10_existingCell 7 = .ok (.iload_n 1, 1) := by decide +kernel
theorem dX10_existingCell_8 : decode cX10_existingCell 8 = .ok (.invokestatic 66, 3) := by decide +kernel
theorem dX10_existingCell_11 : decode cX10_existingCell 11 = .ok (.aload_n 0, 1) := by decide +kernel
theorem dX10_existingCell_12 : decode cX10_existingCell 12 = .ok (.getfield 12, 3) := by decide +kernel
theorem dX10_existingCell_15 : decode cX10_existingCell 15 = .ok (.getfield 340, 3) := by decide +kernel
theorem dX10_existingCell_18 : decode cX10_existingCell 18 = .ok (.iload_n 2, 1) := by decide +kernel
theorem dX10_existingCell_19 : decode cX10_existingCell 19 = .ok (.invokestatic 66, 3) := by decide +kernel
theorem dX10_existingCell_22 : decode cX10_existingCell 22 = .ok (.aload_n 0, 1) := by decide +kernel
theorem dX10_existingCell_23 : decode cX10_existingCell 23 = .ok (.getfield 12, 3) := by decide +kernel
theorem dX10_existingCell_26 : decode cX10_existingCell 26 = .ok (.getfield 343, 3) := by decide +kernel
theorem dX10_existingCell_29 : decode cX10_existingCell 29 = .ok (.iload_n 3, 1) := by decide +kernel
theorem dX10_existingCell_30 : decode cX10_existingCell 30 = .ok (.invokestatic 66, 3) := by decide +kernel
theorem dX10_existingCell_33 : decode cX10_existingCell 33 = .ok (.aload_n 0, 1) := by decide +kernel
theorem dX10_existingCell_34 : decode cX10_existingCell 34 = .ok (.iload 4, 2) := by decide +kernel
theorem dX10_existingCell_36 : decode cX10_existingCell 36 = .ok (.invokevirtual 193, 3) := by decide +kernel
theorem dX10_existingCell_39 : decode cX10_existingCell 39 = .ok (.iload_n 1, 1) := by decide +kernel
theorem dX10_existingCell_40 : decode cX10_existingCell 40 = .ok (.sipush 144, 3) := by decide +kernel
theorem dX10_existingCell_43 : decode cX10_existingCell 43 = .ok (.imul, 1) := by decide +kernel
theorem dX10_existingCell_44 : decode cX10_existingCell 44 = .ok (.iload_n 2, 1) := by decide +kernel
theorem dX10_existingCell_45 : decode cX10_existingCell 45 = .ok (.bipush 12, 2) := by decide +kernel
theorem dX10_existingCell_47 : decode cX10_existingCell 47 = .ok (.imul, 1) := by decide +kernel
theorem dX10_existingCell_48 : decode cX10_existingCell 48 = .ok (.iadd, 1) := by decide +kernel
theorem dX10_existingCell_49 : decode cX10_existingCell 49 = .ok (.iload_n 3, 1) := by decide +kernel
theorem dX10_existingCell_50 : decode cX10_existingCell 50 = .ok (.iadd, 1) := by decide +kernel
theorem dX10_existingCell_51 : decode cX10_existingCell 51 = .ok (.ireturn, 1) := by decide +kernel
theorem dX10_memberOf_0 : decode cX10_memberOf 0 = .ok (.iload_n 1, 1) := by decide +kernel
theorem dX10_memberOf_1 : decode cX10_memberOf 1 = .ok (.ifCond .ne 9, 3) := by decide +kernel
theorem dX10_memberOf_4 : decode cX10_memberOf 4 = .ok (.iload_n 0, 1) := by decide +kernel
theorem dX10_memberOf_5 : decode cX10_memberOf 5 = .ok (.sipush 144, 3) := by decide +kernel
theorem dX10_memberOf_8 : decode cX10_memberOf 8 = .ok (.idiv, 1) := by decide +kernel
theorem dX10_memberOf_9 : decode cX10_memberOf 9 = .ok (.ireturn, 1) := by decide +kernel
theorem dX10_memberOf_10 : decode cX10_memberOf 10 = .ok (.iload_n 1, 1) := by decide +kernel
theorem dX10_memberOf_11 : decode cX10_memberOf 11 = .ok (.iconst 1, 1) := by decide +kernel
theorem dX10_memberOf_12 : decode cX10_memberOf 12 = .ok (.if_icmp .ne 13, 3) := by decide +kernel
theorem dX10_memberOf_15 : decode cX10_memberOf 15 = .ok (.iload_n 0, 1) := by decide +kernel
theorem dX10_memberOf_16 : decode cX10_memberOf 16 = .ok (.bipush 12, 2) := by decide +kernel
theorem dX10_memberOf_18 : decode cX10_memberOf 18 = .ok (.idiv, 1) := by decide +kernel
theorem dX10_memberOf_19 : decode cX10_memberOf 19 = .ok (.bipush 12, 2) := by decide +kernel
theorem dX10_memberOf_21 : decode cX10_memberOf 21 = .ok (.irem, 1) := by decide +kernel
theorem dX10_memberOf_22 : decode cX10_memberOf 22 = .ok (.goto 7, 3) := by decide +kernel
theorem dX10_memberOf_25 : decode cX10_memberOf 25 = .ok (.iload_n 0, 1) := by decide +kernel
theorem dX10_memberOf_26 : decode cX10_memberOf 26 = .ok (.bipush 12, 2) := by decide +kernel
theorem dX10_memberOf_28 : decode cX10_memberOf 28 = .ok (.irem, 1) := by decide +kernel
theorem dX10_memberOf_29 : decode cX10_memberOf 29 = .ok (.ireturn, 1) := by decide +kernel
theorem dX10_withMember_0 : decode cX10_withMember 0 = .ok (.iload_n 1, 1) := by decide +kernel
theorem dX10_withMember_1 : decode cX10_withMember 1 = .ok (.ifCond .ne 9, 3) := by decide +kernel
theorem dX10_withMember_4 : decode cX10_withMember 4 = .ok (.sipush 144, 3) := by decide +kernel
theorem dX10_withMember_7 : decode cX10_withMember 7 = .ok (.goto 14, 3) := by decide +kernel
theorem dX10_withMember_10 : decode cX10_withMember 10 = .ok (.iload_n 1, 1) := by decide +kernel
theorem dX10_withMember_11 : decode cX10_withMember 11 = .ok (.iconst 1, 1) := by decide +kernel
theorem dX10_withMember_12 : decode cX10_withMember 12 = .ok (.if_icmp .ne 8, 3) := by decide +kernel
theorem dX10_withMember_15 : decode cX10_withMember 15 = .ok (.bipush 12, 2) := by decide +kernel
theorem dX10_withMember_17 : decode cX10_withMember 17 = .ok (.goto 4, 3) := by decide +kernel
theorem dX10_withMember_20 : decode cX10_withMember 20 = .ok (.iconst 1, 1) := by decide +kernel
theorem dX10_withMember_21 : decode cX10_withMember 21 = .ok (.istore_n 3, 1) := by decide +kernel
theorem dX10_withMember_22 : decode cX10_withMember 22 = .ok (.iload_n 0, 1) := by decide +kernel
theorem dX10_withMember_23 : decode cX10_withMember 23 = .ok (.iload_n 2, 1) := by decide +kernel
theorem dX10_withMember_24 : decode cX10_withMember 24 = .ok (.iload_n 0, 1) := by decide +kernel
theorem dX10_withMember_25 : decode cX10_withMember 25 = .ok (.iload_n 1, 1) := by decide +kernel
theorem dX10_withMember_26 : decode cX10_withMember 26 = .ok (.invokestatic 346, 3) := by decide +kernel
theorem dX10_withMember_29 : decode cX10_withMember 29 = .ok (.isub, 1) := by decide +kernel
theorem dX10_withMember_30 : decode cX10_withMember 30 = .ok (.iload_n 3, 1) := by decide +kernel
theorem dX10_withMember_31 : decode cX10_withMember 31 = .ok (.imul, 1) := by decide +kernel
theorem dX10_withMember_32 : decode cX10_withMember 32 = .ok (.iadd, 1) := by decide +kernel
theorem dX10_withMember_33 : decode cX10_withMember 33 = .ok (.ireturn, 1) := by decide +kernel
theorem dX10_bounded_0 : decode cX10_bounded 0 = .ok (.ldc2_w 349, 3) := by decide +kernel
theorem dX10_bounded_3 : decode cX10_bounded 3 = .ok (.ldc2_w 351, 3) := by decide +kernel
theorem dX10_bounded_6 : decode cX10_bounded 6 = .ok (.lload_n 0, 1) := by decide +kernel
theorem dX10_bounded_7 : decode cX10_bounded 7 = .ok (.invokestatic 353, 3) := by decide +kernel
theorem dX10_bounded_10 : decode cX10_bounded 10 = .ok (.invokestatic 359, 3) := by decide +kernel
theorem dX10_bounded_13 : decode cX10_bounded 13 = .ok (.lreturn, 1) := by decide +kernel
theorem dX10_setNumber_0 : decode cX10_setNumber 0 = .ok (.aload_n 0, 1) := by decide +kernel
theorem dX10_setNumber_1 : decode cX10_setNumber 1 = .ok (.getfield 28, 3) := by decide +kernel
theorem dX10_setNumber_4 : decode cX10_setNumber 4 = .ok (.iload_n 1, 1) := by decide +kernel
theorem dX10_setNumber_5 : decode cX10_setNumber 5 = .ok (.invokevirtual 225, 3) := by decide +kernel
theorem dX10_setNumber_8 : decode cX10_setNumber 8 = .ok (.iload_n 2, 1) := by decide +kernel
theorem dX10_setNumber_9 : decode cX10_setNumber 9 = .ok (.if_icmp .ne 5, 3) := by decide +kernel
theorem dX10_setNumber_12 : decode cX10_setNumber 12 = .ok (.iconst 0, 1) := by decide +kernel
theorem dX10_setNumber_13 : decode cX10_setNumber 13 = .ok (.ireturn, 1) := by decide +kernel
theorem dX10_setNumber_14 : decode cX10_setNumber 14 = .ok (.aload_n 0, 1) := by decide +kernel
theorem dX10_setNumber_15 : decode cX10_setNumber 15 = .ok (.getfield 28, 3) := by decide +kernel
theorem dX10_setNumber_18 : decode cX10_setNumber 18 = .ok (.iload_n 1, 1) := by decide +kernel
theorem dX10_setNumber_19 : decode cX10_setNumber 19 = .ok (.iload_n 2, 1) := by decide +kernel
theorem dX10_setNumber_20 : decode cX10_setNumber 20 = .ok (.invokevirtual 362, 3) := by decide +kernel
theorem dX10_setNumber_23 : decode cX10_setNumber 23 = .ok (.aload_n 0, 1) := by decide +kernel
theorem dX10_setNumber_24 : decode cX10_setNumber 24 = .ok (.aload_n 0, 1) := by decide +kernel
theorem dX10_setNumber_25 : decode cX10_setNumber 25 = .ok (.getfield 28, 3) := by decide +kernel
theorem dX10_setNumber_28 : decode cX10_setNumber 28 = .ok (.iload_n 1, 1) := by decide +kernel
theorem dX10_setNumber_29 : decode cX10_setNumber 29 = .ok (.invokevirtual 364, 3) := by decide +kernel
theorem dX10_setNumber_32 : decode cX10_setNumber 32 = .ok (.aload_n 0, 1) := by decide +kernel
theorem dX10_setNumber_33 : decode cX10_setNumber 33 = .ok (.getfield 28, 3) := by decide +kernel
theorem dX10_setNumber_36 : decode cX10_setNumber 36 = .ok (.iload_n 1, 1) := by decide +kernel
theorem dX10_setNumber_37 : decode cX10_setNumber 37 = .ok (.invokevirtual 367, 3) := by decide +kernel
theorem dX10_setNumber_40 : decode cX10_setNumber 40 = .ok (.invokevirtual 217, 3) := by decide +kernel
theorem dX10_setNumber_43 : decode cX10_setNumber 43 = .ok (.iconst 1, 1) := by decide +kernel
theorem dX10_setNumber_44 : decode cX10_setNumber 44 = .ok (.ireturn, 1) := by decide +kernel
theorem dX10_writeShares_0 : decode cX10_writeShares 0 = .ok (.iconst 0, 1) := by decide +kernel
theorem dX10_writeShares_1 : decode cX10_writeShares 1 = .ok (.istore_n 1, 1) := by decide +kernel
theorem dX10_writeShares_2 : decode cX10_writeShares 2 = .ok (.iconst 0, 1) := by decide +kernel
theorem dX10_writeShares_3 : decode cX10_writeShares 3 = .ok (.istore_n 2, 1) := by decide +kernel
theorem dX10_writeShares_4 : decode cX10_writeShares 4 = .ok (.iload_n 2, 1) := by decide +kernel
theorem dX10_writeShares_5 : decode cX10_writeShares 5 = .ok (.aload_n 0, 1) := by decide +kernel
theorem dX10_writeShares_6 : decode cX10_writeShares 6 = .ok (.getfield 51, 3) := by decide +kernel
theorem dX10_writeShares_9 : decode cX10_writeShares 9 = .ok (.getfield 287, 3) := by decide +kernel
theorem dX10_writeShares_12 : decode cX10_writeShares 12 = .ok (.if_icmp .ge 36, 3) := by decide +kernel
theorem dX10_writeShares_15 : decode cX10_writeShares 15 = .ok (.aload_n 0, 1) := by decide +kernel
theorem dX10_writeShares_16 : decode cX10_writeShares 16 = .ok (.aload_n 0, 1) := by decide +kernel
theorem dX10_writeShares_17 : decode cX10_writeShares 17 = .ok (.getfield 51, 3) := by decide +kernel
theorem dX10_writeShares_20 : decode cX10_writeShares 20 = .ok (.iload_n 2, 1) := by decide +kernel
theorem dX10_writeShares_21 : decode cX10_writeShares 21 = .ok (.invokevirtual 298, 3) := by decide +kernel
theorem dX10_writeShares_24 : decode cX10_writeShares 24 = .ok (.aload_n 0, 1) := by decide +kernel
theorem dX10_writeShares_25 : decode cX10_writeShares 25 = .ok (.getfield 42, 3) := by decide +kernel
theorem dX10_writeShares_28 : decode cX10_writeShares 28 = .ok (.iload_n 2, 1) := by decide +kernel
theorem dX10_writeShares_29 : decode cX10_writeShares 29 = .ok (.invokevirtual 370, 3) := by decide +kernel
theorem dX10_writeShares_32 : decode cX10_writeShares 32 = .ok (.l2i, 1) := by decide +kernel
theorem dX10_writeShares_33 : decode cX10_writeShares 33 = .ok (.invokevirtual 221, 3) := by decide +kernel
theorem dX10_writeShares_36 : decode cX10_writeShares 36 = .ok (.ifCond .eq 6, 3) := by decide +kernel
theorem dX10_writeShares_39 : decode cX10_writeShares 39 = .ok (.iinc 1 1, 3) := by decide +kernel
theorem dX10_writeShares_42 : decode cX10_writeShares 42 = .ok (.iinc 2 1, 3) := by decide +kernel
theorem dX10_writeShares_45 : decode cX10_writeShares 45 = .ok (.goto (-41), 3) := by decide +kernel
theorem dX10_writeShares_48 : decode cX10_writeShares 48 = .ok (.iload_n 1, 1) := by decide +kernel
theorem dX10_writeShares_49 : decode cX10_writeShares 49 = .ok (.ireturn, 1) := by decide +kernel
theorem dX10_dropFor_0 : decode cX10_dropFor 0 = .ok (.iconst 0, 1) := by decide +kernel
theorem dX10_dropFor_1 : decode cX10_dropFor 1 = .ok (.istore_n 3, 1) := by decide +kernel
theorem dX10_dropFor_2 : decode cX10_dropFor 2 = .ok (.iconst 0, 1) := by decide +kernel
theorem dX10_dropFor_3 : decode cX10_dropFor 3 = .ok (.istore 4, 2) := by decide +kernel
theorem dX10_dropFor_5 : decode cX10_dropFor 5 = .ok (.iload 4, 2) := by decide +kernel
theorem dX10_dropFor_7 : decode cX10_dropFor 7 = .ok (.aload_n 0, 1) := by decide +kernel
theorem dX10_dropFor_8 : decode cX10_dropFor 8 = .ok (.getfield 35, 3) := by decide +kernel
theorem dX10_dropFor_11 : decode cX10_dropFor 11 = .ok (.getfield 252, 3) := by decide +kernel
theorem dX10_dropFor_14 : decode cX10_dropFor 14 = .ok (.if_icmp .ge 94, 3) := by decide +kernel
theorem dX10_dropFor_17 : decode cX10_dropFor 17 = .ok (.aload_n 0, 1) := by decide +kernel
theorem dX10_dropFor_18 : decode cX10_dropFor 18 = .ok (.getfield 35, 3) := by decide +kernel
theorem dX10_dropFor_21 : decode cX10_dropFor 21 = .ok (.iload 4, 2) := by decide +kernel
theorem dX10_dropFor_23 : decode cX10_dropFor 23 = .ok (.invokevirtual 373, 3) := by decide +kernel
theorem dX10_dropFor_26 : decode cX10_dropFor 26 = .ok (.istore 5, 2) := by decide +kernel
theorem dX10_dropFor_28 : decode cX10_dropFor 28 = .ok (.aload_n 0, 1) := by decide +kernel
theorem dX10_dropFor_29 : decode cX10_dropFor 29 = .ok (.getfield 21, 3) := by decide +kernel
theorem dX10_dropFor_32 : decode cX10_dropFor 32 = .ok (.aload_n 0, 1) := by decide +kernel
theorem dX10_dropFor_33 : decode cX10_dropFor 33 = .ok (.getfield 35, 3) := by decide +kernel
theorem dX10_dropFor_36 : decode cX10_dropFor 36 = .ok (.iload 4, 2) := by decide +kernel
theorem dX10_dropFor_38 : decode cX10_dropFor 38 = .ok (.invokevirtual 374, 3) := by decide +kernel
theorem dX10_dropFor_41 : decode cX10_dropFor 41 = .ok (.iload_n 2, 1) := by decide +kernel
theorem dX10_dropFor_42 : decode cX10_dropFor 42 = .ok (.invokevirtual 375, 3) := by decide +kernel
theorem dX10_dropFor_45 : decode cX10_dropFor 45 = .ok (.istore 6, 2) := by decide +kernel
theorem dX10_dropFor_47 : decode cX10_dropFor 47 = .ok (.aload_n 0, 1) := by decide +kernel
theorem dX10_dropFor_48 : decode cX10_dropFor 48 = .ok (.getfield 12, 3) := by decide +kernel
theorem dX10_dropFor_51 : decode cX10_dropFor 51 = .ok (.iload 5, 2) := by decide +kernel
theorem dX10_dropFor_53 : decode cX10_dropFor 53 = .ok (.invokevirtual 281, 3) := by decide +kernel
theorem dX10_dropFor_56 : decode cX10_dropFor 56 = .ok (.ifCond .ne 21, 3) := by decide +kernel
theorem dX10_dropFor_59 : decode cX10_dropFor 59 = .ok (.iload 6, 2) := by decide +kernel
theorem dX10_dropFor_61 : decode cX10_dropFor 61 = .ok (.ifCond .eq 20, 3) := by decide +kernel
theorem dX10_dropFor_64 : decode cX10_dropFor 64 = .ok (.aload_n 0, 1) := by decide +kernel
theorem dX10_dropFor_65 : decode cX10_dropFor 65 = .ok (.getfield 12, 3) := by decide +kernel
theorem dX10_dropFor_68 : decode cX10_dropFor 68 = .ok (.iload_n 1, 1) := by decide +kernel
theorem dX10_dropFor_69 : decode cX10_dropFor 69 = .ok (.iload 5, 2) := by decide +kernel
theorem dX10_dropFor_71 : decode cX10_dropFor 71 = .ok (.invokevirtual 378, 3) := by decide +kernel
theorem dX10_dropFor_74 : decode cX10_dropFor 74 = .ok (.ifCond .eq 7, 3) := by decide +kernel
theorem dX10_dropFor_77 : decode cX10_dropFor 77 = .ok (.iconst 1, 1) := by decide +kernel
theorem dX10_dropFor_78 : decode cX10_dropFor 78 = .ok (.goto 4, 3) := by decide +kernel
theorem dX10_dropFor_81 : decode cX10_dropFor 81 = .ok (.iconst 0, 1) := by decide +kernel
theorem dX10_dropFor_82 : decode cX10_dropFor 82 = .ok (.istore 7, 2) := by decide +kernel
theorem dX10_dropFor_84 : decode cX10_dropFor 84 = .ok (.iload 7, 2) := by decide +kernel
theorem dX10_dropFor_86 : decode cX10_dropFor 86 = .ok (.ifCond .ne 16, 3) := by decide +kernel
theorem dX10_dropFor_89 : decode cX10_dropFor 89 = .ok (.aload_n 0, 1) := by decide +kernel
theorem dX10_dropFor_90 : decode cX10_dropFor 90 = .ok (.getfield 35, 3) := by decide +kernel
theorem dX10_dropFor_93 : decode cX10_dropFor 93 = .ok (.iload 4, 2) := by decide +kernel
theorem dX10_dropFor_95 : decode cX10_dropFor 95 = .ok (.iload_n 3, 1) := by decide +kernel
theorem dX10_dropFor_96 : decode cX10_dropFor 96 = .ok (.invokevirtual 381, 3) := by decide +kernel
theorem dX10_dropFor_99 : decode cX10_dropFor 99 = .ok (.iinc 3 1, 3) := by decide +kernel
theorem dX10_dropFor_102 : decode cX10_dropFor 102 = .ok (.iinc 4 1, 3) := by decide +kernel
theorem dX10_dropFor_105 : decode cX10_dropFor 105 = .ok (.goto (-100), 3) := by decide +kernel
theorem dX10_dropFor_108 : decode cX10_dropFor 108 = .ok (.aload_n 0, 1) := by decide +kernel
theorem dX10_dropFor_109 : decode cX10_dropFor 109 = .ok (.getfield 35, 3) := by decide +kernel
theorem dX10_dropFor_112 : decode cX10_dropFor 112 = .ok (.iload_n 3, 1) := by decide +kernel
theorem dX10_dropFor_113 : decode cX10_dropFor 113 = .ok (.putfield 252, 3) := by decide +kernel
theorem dX10_dropFor_116 : decode cX10_dropFor 116 = .ok (.return_, 1) := by decide +kernel
theorem dJ6_bitCount_0f7a4_0 : decode cJ6_bitCount_0f7a4 0 = .ok (.iload_n 0, 1) := by decide +kernel
theorem dJ6_bitCount_0f7a4_1 : decode cJ6_bitCount_0f7a4 1 = .ok (.iload_n 0, 1) := by decide +kernel
theorem dJ6_bitCount_0f7a4_2 : decode cJ6_bitCount_0f7a4 2 = .ok (.iconst 1, 1) := by decide +kernel
theorem dJ6_bitCount_0f7a4_3 : decode cJ6_bitCount_0f7a4 3 = .ok (.iushr, 1) := by decide +kernel
theorem dJ6_bitCount_0f7a4_4 : decode cJ6_bitCount_0f7a4 4 = .ok (.ldc_w 265, 3) := by decide +kernel
theorem dJ6_bitCount_0f7a4_7 : decode cJ6_bitCount_0f7a4 7 = .ok (.iand, 1) := by decide +kernel
theorem dJ6_bitCount_0f7a4_8 : decode cJ6_bitCount_0f7a4 8 = .ok (.isub, 1) := by decide +kernel
theorem dJ6_bitCount_0f7a4_9 : decode cJ6_bitCount_0f7a4 9 = .ok (.istore_n 0, 1) := by decide +kernel
theorem dJ6_bitCount_0f7a4_10 : decode cJ6_bitCount_0f7a4 10 = .ok (.iload_n 0, 1) := by decide +kernel
theorem dJ6_bitCount_0f7a4_11 : decode cJ6_bitCount_0f7a4 11 = .ok (.ldc_w 266, 3) := by decide +kernel
theorem dJ6_bitCount_0f7a4_14 : decode cJ6_bitCount_0f7a4 14 = .ok (.iand, 1) := by decide +kernel
theorem dJ6_bitCount_0f7a4_15 : decode cJ6_bitCount_0f7a4 15 = .ok (.iload_n 0, 1) := by decide +kernel
theorem dJ6_bitCount_0f7a4_16 : decode cJ6_bitCount_0f7a4 16 = .ok (.iconst 2, 1) := by decide +kernel
theorem dJ6_bitCount_0f7a4_17 : decode cJ6_bitCount_0f7a4 17 = .ok (.iushr, 1) := by decide +kernel
theorem dJ6_bitCount_0f7a4_18 : decode cJ6_bitCount_0f7a4 18 = .ok (.ldc_w 266, 3) := by decide +kernel
theorem dJ6_bitCount_0f7a4_21 : decode cJ6_bitCount_0f7a4 21 = .ok (.iand, 1) := by decide +kernel
theorem dJ6_bitCount_0f7a4_22 : decode cJ6_bitCount_0f7a4 22 = .ok (.iadd, 1) := by decide +kernel
theorem dJ6_bitCount_0f7a4_23 : decode cJ6_bitCount_0f7a4 23 = .ok (.istore_n 0, 1) := by decide +kernel
theorem dJ6_bitCount_0f7a4_24 : decode cJ6_bitCount_0f7a4 24 = .ok (.iload_n 0, 1) := by decide +kernel
theorem dJ6_bitCount_0f7a4_25 : decode cJ6_bitCount_0f7a4 25 = .ok (.iload_n 0, 1) := by decide +kernel
theorem dJ6_bitCount_0f7a4_26 : decode cJ6_bitCount_0f7a4 26 = .ok (.iconst 4, 1) := by decide +kernel
theorem dJ6_bitCount_0f7a4_27 : decode cJ6_bitCount_0f7a4 27 = .ok (.iushr, 1) := by decide +kernel
theorem dJ6_bitCount_0f7a4_28 : decode cJ6_bitCount_0f7a4 28 = .ok (.iadd, 1) := by decide +kernel
theorem dJ6_bitCount_0f7a4_29 : decode cJ6_bitCount_0f7a4 29 = .ok (.ldc_w 267, 3) := by decide +kernel
theorem dJ6_bitCount_0f7a4_32 : decode cJ6_bitCount_0f7a4 32 = .ok (.iand, 1) := by decide +kernel
theorem dJ6_bitCount_0f7a4_33 : decode cJ6_bitCount_0f7a4 33 = .ok (.istore_n 0, 1) := by decide +kernel
theorem dJ6_bitCount_0f7a4_34 : decode cJ6_bitCount_0f7a4 34 = .ok (.iload_n 0, 1) := by decide +kernel
theorem dJ6_bitCount_0f7a4_35 : decode cJ6_bitCount_0f7a4 35 = .ok (.iload_n 0, 1) := by decide +kernel
theorem dJ6_bitCount_0f7a4_36 : decode cJ6_bitCount_0f7a4 36 = .ok (.bipush 8, 2) := by decide +kernel
theorem dJ6_bitCount_0f7a4_38 : decode cJ6_bitCount_0f7a4 38 = .ok (.iushr, 1) := by decide +kernel
theorem dJ6_bitCount_0f7a4_39 : decode cJ6_bitCount_0f7a4 39 = .ok (.iadd, 1) := by decide +kernel
theorem dJ6_bitCount_0f7a4_40 : decode cJ6_bitCount_0f7a4 40 = .ok (.istore_n 0, 1) := by decide +kernel
theorem dJ6_bitCount_0f7a4_41 : decode cJ6_bitCount_0f7a4 41 = .ok (.iload_n 0, 1) := by decide +kernel
theorem dJ6_bitCount_0f7a4_42 : decode cJ6_bitCount_0f7a4 42 = .ok (.iload_n 0, 1) := by decide +kernel
theorem dJ6_bitCount_0f7a4_43 : decode cJ6_bitCount_0f7a4 43 = .ok (.bipush 16, 2) := by decide +kernel
theorem dJ6_bitCount_0f7a4_45 : decode cJ6_bitCount_0f7a4 45 = .ok (.iushr, 1) := by decide +kernel
theorem dJ6_bitCount_0f7a4_46 : decode cJ6_bitCount_0f7a4 46 = .ok (.iadd, 1) := by decide +kernel
theorem dJ6_bitCount_0f7a4_47 : decode cJ6_bitCount_0f7a4 47 = .ok (.istore_n 0, 1) := by decide +kernel
theorem dJ6_bitCount_0f7a4_48 : decode cJ6_bitCount_0f7a4 48 = .ok (.iload_n 0, 1) := by decide +kernel
theorem dJ6_bitCount_0f7a4_49 : decode cJ6_bitCount_0f7a4 49 = .ok (.bipush 63, 2) := by decide +kernel
theorem dJ6_bitCount_0f7a4_51 : decode cJ6_bitCount_0f7a4 51 = .ok (.iand, 1) := by decide +kernel
theorem dJ6_bitCount_0f7a4_52 : decode cJ6_bitCount_0f7a4 52 = .ok (.ireturn, 1) := by decide +kernel
theorem dJ9_abs_067f4_0 : decode cJ9_abs_067f4 0 = .ok (.lload_n 0, 1) := by decide +kernel
theorem dJ9_abs_067f4_1 : decode cJ9_abs_067f4 1 = .ok (.lconst 0, 1) := by decide +kernel
theorem dJ9_abs_067f4_2 : decode cJ9_abs_067f4 2 = .ok (.lcmp, 1) := by decide +kernel
theorem dJ9_abs_067f4_3 : decode cJ9_abs_067f4 3 = .ok (.ifCond .ge 8, 3) := by decide +kernel
theorem dJ9_abs_067f4_6 : decode cJ9_abs_067f4 6 = .ok (.lload_n 0, 1) := by decide +kernel
theorem dJ9_abs_067f4_7 : decode cJ9_abs_067f4 7 = .ok (.lneg, 1) := by decide +kernel
theorem dJ9_abs_067f4_8 : decode cJ9_abs_067f4 8 = .ok (.goto 4, 3) := by decide +kernel
theorem dJ9_abs_067f4_11 : decode cJ9_abs_067f4 11 = .ok (.lload_n 0, 1) := by decide +kernel
theorem dJ9_abs_067f4_12 : decode cJ9_abs_067f4 12 = .ok (.lreturn, 1) := by decide +kernel
theorem dJ9_max_7cf53_0 : decode cJ9_max_7cf53 0 = .ok (.iload_n 0, 1) := by decide +kernel
theorem dJ9_max_7cf53_1 : decode cJ9_max_7cf53 1 = .ok (.iload_n 1, 1) := by decide +kernel
theorem dJ9_max_7cf53_2 : decode cJ9_max_7cf53 2 = .ok (.if_icmp .lt 7, 3) := by decide +kernel
theorem dJ9_max_7cf53_5 : decode cJ9_max_7cf53 5 = .ok (.iload_n 0, 1) := by decide +kernel
theorem dJ9_max_7cf53_6 : decode cJ9_max_7cf53 6 = .ok (.goto 4, 3) := by decide +kernel
theorem dJ9_max_7cf53_9 : decode cJ9_max_7cf53 9 = .ok (.iload_n 1, 1) := by decide +kernel
theorem dJ9_max_7cf53_10 : decode cJ9_max_7cf53 10 = .ok (.ireturn, 1) := by decide +kernel
theorem dJ9_max_f86c9_0 : decode cJ9_max_f86c9 0 = .ok (.lload_n 0, 1) := by decide +kernel
theorem dJ9_max_f86c9_1 : decode cJ9_max_f86c9 1 = .ok (.lload_n 2, 1) := by decide +kernel
theorem dJ9_max_f86c9_2 : decode cJ9_max_f86c9 2 = .ok (.lcmp, 1) := by decide +kernel
theorem dJ9_max_f86c9_3 : decode cJ9_max_f86c9 3 = .ok (.ifCond .lt 7, 3) := by decide +kernel
theorem dJ9_max_f86c9_6 : decode cJ9_max_f86c9 6 = .ok (.lload_n 0, 1) := by decide +kernel
theorem dJ9_max_f86c9_7 : decode cJ9_max_f86c9 7 = .ok (.goto 4, 3) := by decide +kernel
theorem dJ9_max_f86c9_10 : decode cJ9_max_f86c9 10 = .ok (.lload_n 2, 1) := by decide +kernel
theorem dJ9_max_f86c9_11 : decode cJ9_max_f86c9 11 = .ok (.lreturn, 1) := by decide +kernel
theorem dJ9_min_7cf53_0 : decode cJ9_min_7cf53 0 = .ok (.iload_n 0, 1) := by decide +kernel
theorem dJ9_min_7cf53_1 : decode cJ9_min_7cf53 1 = .ok (.iload_n 1, 1) := by decide +kernel
theorem dJ9_min_7cf53_2 : decode cJ9_min_7cf53 2 = .ok (.if_icmp .gt 7, 3) := by decide +kernel
theorem dJ9_min_7cf53_5 : decode cJ9_min_7cf53 5 = .ok (.iload_n 0, 1) := by decide +kernel
theorem dJ9_min_7cf53_6 : decode cJ9_min_7cf53 6 = .ok (.goto 4, 3) := by decide +kernel
theorem dJ9_min_7cf53_9 : decode cJ9_min_7cf53 9 = .ok (.iload_n 1, 1) := by decide +kernel
theorem dJ9_min_7cf53_10 : decode cJ9_min_7cf53 10 = .ok (.ireturn, 1) := by decide +kernel
theorem dJ9_min_f86c9_0 : decode cJ9_min_f86c9 0 = .ok (.lload_n 0, 1) := by decide +kernel
theorem dJ9_min_f86c9_1 : decode cJ9_min_f86c9 1 = .ok (.lload_n 2, 1) := by decide +kernel
theorem dJ9_min_f86c9_2 : decode cJ9_min_f86c9 2 = .ok (.lcmp, 1) := by decide +kernel
theorem dJ9_min_f86c9_3 : decode cJ9_min_f86c9 3 = .ok (.ifCond .gt 7, 3) := by decide +kernel
theorem dJ9_min_f86c9_6 : decode cJ9_min_f86c9 6 = .ok (.lload_n 0, 1) := by decide +kernel
theorem dJ9_min_f86c9_7 : decode cJ9_min_f86c9 7 = .ok (.goto 4, 3) := by decide +kernel
theorem dJ9_min_f86c9_10 : decode cJ9_min_f86c9 10 = .ok (.lload_n 2, 1) := by decide +kernel
theorem dJ9_min_f86c9_11 : decode cJ9_min_f86c9 11 = .ok (.lreturn, 1) := by decide +kernel
theorem dJ7_fill_53178_0 : decode cJ7_fill_53178 0 = .ok (.iconst 0, 1) := by decide +kernel
theorem dJ7_fill_53178_1 : decode cJ7_fill_53178 1 = .ok (.istore_n 2, 1) := by decide +kernel
theorem dJ7_fill_53178_2 : decode cJ7_fill_53178 2 = .ok (.aload_n 0, 1) := by decide +kernel
theorem dJ7_fill_53178_3 : decode cJ7_fill_53178 3 = .ok (.arraylength, 1) := by decide +kernel
theorem dJ7_fill_53178_4 : decode cJ7_fill_53178 4 = .ok (.istore_n 3, 1) := by decide +kernel
theorem dJ7_fill_53178_5 : decode cJ7_fill_53178 5 = .ok (.iload_n 2, 1) := by decide +kernel
theorem dJ7_fill_53178_6 : decode cJ7_fill_53178 6 = .ok (.iload_n 3, 1) := by decide +kernel
theorem dJ7_fill_53178_7 : decode cJ7_fill_53178 7 = .ok (.if_icmp .ge 13, 3) := by decide +kernel
theorem dJ7_fill_53178_10 : decode cJ7_fill_53178 10 = .ok (.aload_n 0, 1) := by decide +kernel
theorem dJ7_fill_53178_11 : decode cJ7_fill_53178 11 = .ok (.iload_n 2, 1) := by decide +kernel
theorem dJ7_fill_53178_12 : decode cJ7_fill_53178 12 = .ok (.iload_n 1, 1) := by decide +kernel
theorem dJ7_fill_53178_13 : decode cJ7_fill_53178 13 = .ok (.iastore, 1) := by decide +kernel
theorem dJ7_fill_53178_14 : decode cJ7_fill_53178 14 = .ok (.iinc 2 1, 3) := by decide +kernel
theorem dJ7_fill_53178_17 : decode cJ7_fill_53178 17 = .ok (.goto (-12), 3) := by decide +kernel
theorem dJ7_fill_53178_20 : decode cJ7_fill_53178 20 = .ok (.return_, 1) := by decide +kernel
theorem dL_cell_0 : decode cL_cell 0 = .ok (.iload_n 1, 1) := by decide +kernel
theorem dL_cell_1 : decode cL_cell 1 = .ok (.aload_n 0, 1) := by decide +kernel
theorem dL_cell_2 : decode cL_cell 2 = .ok (.arraylength, 1) := by decide +kernel
theorem dL_cell_3 : decode cL_cell 3 = .ok (.if_icmp .ge 9, 3) := by decide +kernel
theorem dL_cell_6 : decode cL_cell 6 = .ok (.aload_n 0, 1) := by decide +kernel
theorem dL_cell_7 : decode cL_cell 7 = .ok (.iload_n 1, 1) := by decide +kernel
theorem dL_cell_8 : decode cL_cell 8 = .ok (.iaload, 1) := by decide +kernel
theorem dL_cell_9 : decode cL_cell 9 = .ok (.goto 11, 3) := by decide +kernel
theorem dL_cell_12 : decode cL_cell 12 = .ok (.ldc 7, 2) := by decide +kernel
theorem dL_cell_14 : decode cL_cell 14 = .ok (.iload_n 1, 1) := by decide +kernel
theorem dL_cell_15 : decode cL_cell 15 = .ok (.imul, 1) := by decide +kernel
theorem dL_cell_16 : decode cL_cell 16 = .ok (.sipush 3301, 3) := by decide +kernel
theorem dL_cell_19 : decode cL_cell 19 = .ok (.iadd, 1) := by decide +kernel
theorem dL_cell_20 : decode cL_cell 20 = .ok (.ireturn, 1) := by decide +kernel
theorem dL_low_0 : decode cL_low 0 = .ok (.iload_n 0, 1) := by decide +kernel
theorem dL_low_1 : decode cL_low 1 = .ok (.ldc 8, 2) := by decide +kernel
theorem dL_low_3 : decode cL_low 3 = .ok (.iand, 1) := by decide +kernel
theorem dL_low_4 : decode cL_low 4 = .ok (.iload_n 1, 1) := by decide +kernel
theorem dL_low_5 : decode cL_low 5 = .ok (.irem, 1) := by decide +kernel
theorem dL_low_6 : decode cL_low 6 = .ok (.ireturn, 1) := by decide +kernel
theorem dL_members_0 : decode cL_members 0 = .ok (.aload_n 0, 1) := by decide +kernel
theorem dL_members_1 : decode cL_members 1 = .ok (.iload_n 1, 1) := by decide +kernel
theorem dL_members_2 : decode cL_members 2 = .ok (.iload_n 2, 1) := by decide +kernel
theorem dL_members_3 : decode cL_members 3 = .ok (.iload_n 3, 1) := by decide +kernel
theorem dL_members_4 : decode cL_members 4 = .ok (.invokevirtual 9, 3) := by decide +kernel
theorem dL_members_7 : decode cL_members 7 = .ok (.ireturn, 1) := by decide +kernel
theorem dL_members_8 : decode cL_members 8 = .ok (.astore 4, 2) := by decide +kernel
theorem dL_members_10 : decode cL_members 10 = .ok (.bipush (-2), 2) := by decide +kernel
theorem dL_members_12 : decode cL_members 12 = .ok (.ireturn, 1) := by decide +kernel
theorem dL_members_13 : decode cL_members 13 = .ok (.astore 4, 2) := by decide +kernel
theorem dL_members_15 : decode cL_members 15 = .ok (.bipush (-3), 2) := by decide +kernel
theorem dL_members_17 : decode cL_members 17 = .ok (.ireturn, 1) := by decide +kernel
theorem dL_members_18 : decode cL_members 18 = .ok (.astore 4, 2) := by decide +kernel
theorem dL_members_20 : decode cL_members 20 = .ok (.bipush (-4), 2) := by decide +kernel
theorem dL_members_22 : decode cL_members 22 = .ok (.ireturn, 1) := by decide +kernel
theorem dL_bridges_0 : decode cL_bridges 0 = .ok (.aload_n 0, 1) := by decide +kernel
theorem dL_bridges_1 : decode cL_bridges 1 = .ok (.iload_n 1, 1) := by decide +kernel
theorem dL_bridges_2 : decode cL_bridges 2 = .ok (.iload_n 2, 1) := by decide +kernel
theorem dL_bridges_3 : decode cL_bridges 3 = .ok (.invokevirtual 21, 3) := by decide +kernel
theorem dL_bridges_6 : decode cL_bridges 6 = .ok (.ireturn, 1) := by decide +kernel
theorem dL_bridges_7 : decode cL_bridges 7 = .ok (.astore_n 3, 1) := by decide +kernel
theorem dL_bridges_8 : decode cL_bridges 8 = .ok (.bipush (-2), 2) := by decide +kernel
theorem dL_bridges_10 : decode cL_bridges 10 = .ok (.ireturn, 1) := by decide +kernel
theorem dL_bridges_11 : decode cL_bridges 11 = .ok (.astore_n 3, 1) := by decide +kernel
theorem dL_bridges_12 : decode cL_bridges 12 = .ok (.bipush (-3), 2) := by decide +kernel
theorem dL_bridges_14 : decode cL_bridges 14 = .ok (.ireturn, 1) := by decide +kernel
theorem dL_bridges_15 : decode cL_bridges 15 = .ok (.astore_n 3, 1) := by decide +kernel
theorem dL_bridges_16 : decode cL_bridges 16 = .ok (.bipush (-4), 2) := by decide +kernel
theorem dL_bridges_18 : decode cL_bridges 18 = .ok (.ireturn, 1) := by decide +kernel
theorem dL_moves_0 : decode cL_moves 0 = .ok (.aload_n 0, 1) := by decide +kernel
theorem dL_moves_1 : decode cL_moves 1 = .ok (.iload_n 1, 1) := by decide +kernel
theorem dL_moves_2 : decode cL_moves 2 = .ok (.iload_n 2, 1) := by decide +kernel
theorem dL_moves_3 : decode cL_moves 3 = .ok (.iload_n 3, 1) := by decide +kernel
theorem dL_moves_4 : decode cL_moves 4 = .ok (.iload 4, 2) := by decide +kernel
theorem dL_moves_6 : decode cL_moves 6 = .ok (.invokevirtual 25, 3) := by decide +kernel
theorem dL_moves_9 : decode cL_moves 9 = .ok (.ireturn, 1) := by decide +kernel
theorem dL_moves_10 : decode cL_moves 10 = .ok (.astore 5, 2) := by decide +kernel
theorem dL_moves_12 : decode cL_moves 12 = .ok (.bipush (-2), 2) := by decide +kernel
theorem dL_moves_14 : decode cL_moves 14 = .ok (.ireturn, 1) := by decide +kernel
theorem dL_moves_15 : decode cL_moves 15 = .ok (.astore 5, 2) := by decide +kernel
theorem dL_moves_17 : decode cL_moves 17 = .ok (.bipush (-4), 2) := by decide +kernel
theorem dL_moves_19 : decode cL_moves 19 = .ok (.ireturn, 1) := by decide +kernel
theorem dL_words_0 : decode cL_words 0 = .ok (.aload_n 0, 1) := by decide +kernel
theorem dL_words_1 : decode cL_words 1 = .ok (.iload_n 1, 1) := by decide +kernel
theorem dL_words_2 : decode cL_words 2 = .ok (.iload_n 2, 1) := by decide +kernel
theorem dL_words_3 : decode cL_words 3 = .ok (.iload_n 3, 1) := by decide +kernel
theorem dL_words_4 : decode cL_words 4 = .ok (.invokevirtual 29, 3) := by decide +kernel
theorem dL_words_7 : decode cL_words 7 = .ok (.ireturn, 1) := by decide +kernel
theorem dL_words_8 : decode cL_words 8 = .ok (.astore 4, 2) := by decide +kernel
theorem dL_words_10 : decode cL_words 10 = .ok (.bipush (-3), 2) := by decide +kernel
theorem dL_words_12 : decode cL_words 12 = .ok (.ireturn, 1) := by decide +kernel
theorem dL_words_13 : decode cL_words 13 = .ok (.astore 4, 2) := by decide +kernel
theorem dL_words_15 : decode cL_words 15 = .ok (.bipush (-4), 2) := by decide +kernel
theorem dL_words_17 : decode cL_words 17 = .ok (.ireturn, 1) := by decide +kernel
theorem dL_calculates_0 : decode cL_calculates 0 = .ok (.aload_n 0, 1) := by decide +kernel
theorem dL_calculates_1 : decode cL_calculates 1 = .ok (.iload_n 1, 1) := by decide +kernel
theorem dL_calculates_2 : decode cL_calculates 2 = .ok (.iload_n 2, 1) := by decide +kernel
theorem dL_calculates_3 : decode cL_calculates 3 = .ok (.invokevirtual 32, 3) := by decide +kernel
theorem dL_calculates_6 : decode cL_calculates 6 = .ok (.ireturn, 1) := by decide +kernel
theorem dL_calculates_7 : decode cL_calculates 7 = .ok (.astore_n 3, 1) := by decide +kernel
theorem dL_calculates_8 : decode cL_calculates 8 = .ok (.bipush (-2), 2) := by decide +kernel
theorem dL_calculates_10 : decode cL_calculates 10 = .ok (.ireturn, 1) := by decide +kernel
theorem dL_calculates_11 : decode cL_calculates 11 = .ok (.astore_n 3, 1) := by decide +kernel
theorem dL_calculates_12 : decode cL_calculates 12 = .ok (.bipush (-3), 2) := by decide +kernel
theorem dL_calculates_14 : decode cL_calculates 14 = .ok (.ireturn, 1) := by decide +kernel
theorem dL_calculates_15 : decode cL_calculates 15 = .ok (.astore_n 3, 1) := by decide +kernel
theorem dL_calculates_16 : decode cL_calculates 16 = .ok (.bipush (-4), 2) := by decide +kernel
theorem dL_calculates_18 : decode cL_calculates 18 = .ok (.ireturn, 1) := by decide +kernel
theorem dL_measures_0 : decode cL_measures 0 = .ok (.aload_n 0, 1) := by decide +kernel
theorem dL_measures_1 : decode cL_measures 1 = .ok (.iload_n 1, 1) := by decide +kernel
theorem dL_measures_2 : decode cL_measures 2 = .ok (.iload_n 2, 1) := by decide +kernel
theorem dL_measures_3 : decode cL_measures 3 = .ok (.iload_n 3, 1) := by decide +kernel
theorem dL_measures_4 : decode cL_measures 4 = .ok (.invokevirtual 35, 3) := by decide +kernel
theorem dL_measures_7 : decode cL_measures 7 = .ok (.ireturn, 1) := by decide +kernel
theorem dL_measures_8 : decode cL_measures 8 = .ok (.astore 4, 2) := by decide +kernel
theorem dL_measures_10 : decode cL_measures 10 = .ok (.bipush (-2), 2) := by decide +kernel
theorem dL_measures_12 : decode cL_measures 12 = .ok (.ireturn, 1) := by decide +kernel
theorem dL_measures_13 : decode cL_measures 13 = .ok (.astore 4, 2) := by decide +kernel
theorem dL_measures_15 : decode cL_measures 15 = .ok (.bipush (-3), 2) := by decide +kernel
theorem dL_measures_17 : decode cL_measures 17 = .ok (.ireturn, 1) := by decide +kernel
theorem dL_measures_18 : decode cL_measures 18 = .ok (.astore 4, 2) := by decide +kernel
theorem dL_measures_20 : decode cL_measures 20 = .ok (.bipush (-4), 2) := by decide +kernel
theorem dL_measures_22 : decode cL_measures 22 = .ok (.ireturn, 1) := by decide +kernel
theorem dL_facts_0 : decode cL_facts 0 = .ok (.aload_n 0, 1) := by decide +kernel
theorem dL_facts_1 : decode cL_facts 1 = .ok (.iload_n 1, 1) := by decide +kernel
theorem dL_facts_2 : decode cL_facts 2 = .ok (.iload_n 2, 1) := by decide +kernel
theorem dL_facts_3 : decode cL_facts 3 = .ok (.iload_n 3, 1) := by decide +kernel
theorem dL_facts_4 : decode cL_facts 4 = .ok (.iload 4, 2) := by decide +kernel
theorem dL_facts_6 : decode cL_facts 6 = .ok (.iload 5, 2) := by decide +kernel
theorem dL_facts_8 : decode cL_facts 8 = .ok (.invokevirtual 38, 3) := by decide +kernel
theorem dL_facts_11 : decode cL_facts 11 = .ok (.ireturn, 1) := by decide +kernel
theorem dL_facts_12 : decode cL_facts 12 = .ok (.astore 6, 2) := by decide +kernel
theorem dL_facts_14 : decode cL_facts 14 = .ok (.bipush (-2), 2) := by decide +kernel
theorem dL_facts_16 : decode cL_facts 16 = .ok (.ireturn, 1) := by decide +kernel
theorem dL_facts_17 : decode cL_facts 17 = .ok (.astore 6, 2) := by decide +kernel
theorem dL_facts_19 : decode cL_facts 19 = .ok (.bipush (-3), 2) := by decide +kernel
theorem dL_facts_21 : decode cL_facts 21 = .ok (.ireturn, 1) := by decide +kernel
theorem dL_facts_22 : decode cL_facts 22 = .ok (.astore 6, 2) := by decide +kernel
theorem dL_facts_24 : decode cL_facts 24 = .ok (.bipush (-4), 2) := by decide +kernel
theorem dL_facts_26 : decode cL_facts 26 = .ok (.ireturn, 1) := by decide +kernel
theorem dL_writes_0 : decode cL_writes 0 = .ok (.aload_n 0, 1) := by decide +kernel
theorem dL_writes_1 : decode cL_writes 1 = .ok (.iload_n 1, 1) := by decide +kernel
theorem dL_writes_2 : decode cL_writes 2 = .ok (.iload_n 2, 1) := by decide +kernel
theorem dL_writes_3 : decode cL_writes 3 = .ok (.iload_n 3, 1) := by decide +kernel
theorem dL_writes_4 : decode cL_writes 4 = .ok (.iload 4, 2) := by decide +kernel
theorem dL_writes_6 : decode cL_writes 6 = .ok (.iload 5, 2) := by decide +kernel
theorem dL_writes_8 : decode cL_writes 8 = .ok (.iload 6, 2) := by decide +kernel
theorem dL_writes_10 : decode cL_writes 10 = .ok (.invokevirtual 42, 3) := by decide +kernel
theorem dL_writes_13 : decode cL_writes 13 = .ok (.ireturn, 1) := by decide +kernel
theorem dL_writes_14 : decode cL_writes 14 = .ok (.astore 7, 2) := by decide +kernel
theorem dL_writes_16 : decode cL_writes 16 = .ok (.bipush (-2), 2) := by decide +kernel
theorem dL_writes_18 : decode cL_writes 18 = .ok (.ireturn, 1) := by decide +kernel
theorem dL_writes_19 : decode cL_writes 19 = .ok (.astore 7, 2) := by decide +kernel
theorem dL_writes_21 : decode cL_writes 21 = .ok (.bipush (-3), 2) := by decide +kernel
theorem dL_writes_23 : decode cL_writes 23 = .ok (.ireturn, 1) := by decide +kernel
theorem dL_writes_24 : decode cL_writes 24 = .ok (.astore 7, 2) := by decide +kernel
theorem dL_writes_26 : decode cL_writes 26 = .ok (.bipush (-4), 2) := by decide +kernel
theorem dL_writes_28 : decode cL_writes 28 = .ok (.ireturn, 1) := by decide +kernel
theorem dL_picks_0 : decode cL_picks 0 = .ok (.aload_n 0, 1) := by decide +kernel
theorem dL_picks_1 : decode cL_picks 1 = .ok (.iload_n 1, 1) := by decide +kernel
theorem dL_picks_2 : decode cL_picks 2 = .ok (.iload_n 2, 1) := by decide +kernel
theorem dL_picks_3 : decode cL_picks 3 = .ok (.iload_n 3, 1) := by decide +kernel
theorem dL_picks_4 : decode cL_picks 4 = .ok (.iload 4, 2) := by decide +kernel
theorem dL_picks_6 : decode cL_picks 6 = .ok (.iload 5, 2) := by decide +kernel
theorem dL_picks_8 : decode cL_picks 8 = .ok (.invokevirtual 46, 3) := by decide +kernel
theorem dL_picks_11 : decode cL_picks 11 = .ok (.ireturn, 1) := by decide +kernel
theorem dL_picks_12 : decode cL_picks 12 = .ok (.astore 6, 2) := by decide +kernel
theorem dL_picks_14 : decode cL_picks 14 = .ok (.bipush (-2), 2) := by decide +kernel
theorem dL_picks_16 : decode cL_picks 16 = .ok (.ireturn, 1) := by decide +kernel
theorem dL_picks_17 : decode cL_picks 17 = .ok (.astore 6, 2) := by decide +kernel
theorem dL_picks_19 : decode cL_picks 19 = .ok (.bipush (-3), 2) := by decide +kernel
theorem dL_picks_21 : decode cL_picks 21 = .ok (.ireturn, 1) := by decide +kernel
theorem dL_picks_22 : decode cL_picks 22 = .ok (.astore 6, 2) := by decide +kernel
theorem dL_picks_24 : decode cL_picks 24 = .ok (.bipush (-4), 2) := by decide +kernel
theorem dL_picks_26 : decode cL_picks 26 = .ok (.ireturn, 1) := by decide +kernel
theorem dL_ends_0 : decode cL_ends 0 = .ok (.aload_n 0, 1) := by decide +kernel
theorem dL_ends_1 : decode cL_ends 1 = .ok (.iload_n 1, 1) := by decide +kernel
theorem dL_ends_2 : decode cL_ends 2 = .ok (.invokevirtual 49, 3) := by decide +kernel
theorem dL_ends_5 : decode cL_ends 5 = .ok (.ireturn, 1) := by decide +kernel
theorem dL_ends_6 : decode cL_ends 6 = .ok (.astore_n 2, 1) := by decide +kernel
theorem dL_ends_7 : decode cL_ends 7 = .ok (.bipush (-4), 2) := by decide +kernel
theorem dL_ends_9 : decode cL_ends 9 = .ok (.ireturn, 1) := by decide +kernel
theorem dL_begins_0 : decode cL_begins 0 = .ok (.aload_n 0, 1) := by decide +kernel
theorem dL_begins_1 : decode cL_begins 1 = .ok (.invokevirtual 53, 3) := by decide +kernel
theorem dL_begins_4 : decode cL_begins 4 = .ok (.iconst 0, 1) := by decide +kernel
theorem dL_begins_5 : decode cL_begins 5 = .ok (.ireturn, 1) := by decide +kernel
theorem dL_begins_6 : decode cL_begins 6 = .ok (.astore_n 1, 1) := by decide +kernel
theorem dL_begins_7 : decode cL_begins 7 = .ok (.bipush (-4), 2) := by decide +kernel
theorem dL_begins_9 : decode cL_begins 9 = .ok (.ireturn, 1) := by decide +kernel
theorem dL_tell_0 : decode cL_tell 0 = .ok (.bipush 60, 2) := by decide +kernel
theorem dL_tell_2 : decode cL_tell 2 = .ok (.newarray .int, 2) := by decide +kernel
theorem dL_tell_4 : decode cL_tell 4 = .ok (.astore_n 2, 1) := by decide +kernel
theorem dL_tell_5 : decode cL_tell 5 = .ok (.iconst 0, 1) := by decide +kernel
theorem dL_tell_6 : decode cL_tell 6 = .ok (.istore_n 3, 1) := by decide +kernel
theorem dL_tell_7 : decode cL_tell 7 = .ok (.iload_n 3, 1) := by decide +kernel
theorem dL_tell_8 : decode cL_tell 8 = .ok (.iconst 3, 1) := by decide +kernel
theorem dL_tell_9 : decode cL_tell 9 = .ok (.if_icmp .ge 68, 3) := by decide +kernel
theorem dL_tell_12 : decode cL_tell 12 = .ok (.iconst 0, 1) := by decide +kernel
theorem dL_tell_13 : decode cL_tell 13 = .ok (.istore 4, 2) := by decide +kernel
theorem dL_tell_15 : decode cL_tell 15 = .ok (.iload 4, 2) := by decide +kernel
theorem dL_tell_17 : decode cL_tell 17 = .ok (.aload_n 1, 1) := by decide +kernel
theorem dL_tell_18 : decode cL_tell 18 = .ok (.iload_n 3, 1) := by decide +kernel
theorem dL_tell_19 : decode cL_tell 19 = .ok (.iaload, 1) := by decide +kernel
theorem dL_tell_20 : decode cL_tell 20 = .ok (.if_icmp .ge 51, 3) := by decide +kernel
theorem dL_tell_23 : decode cL_tell 23 = .ok (.aload_n 2, 1) := by decide +kernel
theorem dL_tell_24 : decode cL_tell 24 = .ok (.bipush 12, 2) := by decide +kernel
theorem dL_tell_26 : decode cL_tell 26 = .ok (.iload_n 3, 1) := by decide +kernel
theorem dL_tell_27 : decode cL_tell 27 = .ok (.imul, 1) := by decide +kernel
theorem dL_tell_28 : decode cL_tell 28 = .ok (.iload 4, 2) := by decide +kernel
theorem dL_tell_30 : decode cL_tell 30 = .ok (.iadd, 1) := by decide +kernel
theorem dL_tell_31 : decode cL_tell 31 = .ok (.aload_n 0, 1) := by decide +kernel
theorem dL_tell_32 : decode cL_tell 32 = .ok (.iload_n 3, 1) := by decide +kernel
theorem dL_tell_33 : decode cL_tell 33 = .ok (.iload 4, 2) := by decide +kernel
theorem dL_tell_35 : decode cL_tell 35 = .ok (.iconst 1, 1) := by decide +kernel
theorem dL_tell_36 : decode cL_tell 36 = .ok (.invokevirtual 56, 3) := by decide +kernel
theorem dL_tell_39 : decode cL_tell 39 = .ok (.bipush 20, 2) := by decide +kernel
theorem dL_tell_41 : decode cL_tell 41 = .ok (.aload_n 0, 1) := by decide +kernel
theorem dL_tell_42 : decode cL_tell 42 = .ok (.iload_n 3, 1) := by decide +kernel
theorem dL_tell_43 : decode cL_tell 43 = .ok (.iload 4, 2) := by decide +kernel
theorem dL_tell_45 : decode cL_tell 45 = .ok (.iconst 2, 1) := by decide +kernel
theorem dL_tell_46 : decode cL_tell 46 = .ok (.invokevirtual 56, 3) := by decide +kernel
theorem dL_tell_49 : decode cL_tell 49 = .ok (.imul, 1) := by decide +kernel
theorem dL_tell_50 : decode cL_tell 50 = .ok (.iadd, 1) := by decide +kernel
theorem dL_tell_51 : decode cL_tell 51 = .ok (.sipush 400, 3) := by decide +kernel
theorem dL_tell_54 : decode cL_tell 54 = .ok (.aload_n 0, 1) := by decide +kernel
theorem dL_tell_55 : decode cL_tell 55 = .ok (.iload_n 3, 1) := by decide +kernel
theorem dL_tell_56 : decode cL_tell 56 = .ok (.iload 4, 2) := by decide +kernel
theorem dL_tell_58 : decode cL_tell 58 = .ok (.iconst 4, 1) := by decide +kernel
theorem dL_tell_59 : decode cL_tell 59 = .ok (.invokevirtual 56, 3) := by decide +kernel
theorem dL_tell_62 : decode cL_tell 62 = .ok (.imul, 1) := by decide +kernel
theorem dL_tell_63 : decode cL_tell 63 = .ok (.iadd, 1) := by decide +kernel
theorem dL_tell_64 : decode cL_tell 64 = .ok (.iastore, 1) := by decide +kernel
theorem dL_tell_65 : decode cL_tell 65 = .ok (.iinc 4 1, 3) := by decide +kernel
theorem dL_tell_68 : decode cL_tell 68 = .ok (.goto (-53), 3) := by decide +kernel
theorem dL_tell_71 : decode cL_tell 71 = .ok (.iinc 3 1, 3) := by decide +kernel
theorem dL_tell_74 : decode cL_tell 74 = .ok (.goto (-67), 3) := by decide +kernel
theorem dL_tell_77 : decode cL_tell 77 = .ok (.iconst 0, 1) := by decide +kernel
theorem dL_tell_78 : decode cL_tell 78 = .ok (.istore_n 3, 1) := by decide +kernel
theorem dL_tell_79 : decode cL_tell 79 = .ok (.iload_n 3, 1) := by decide +kernel
theorem dL_tell_80 : decode cL_tell 80 = .ok (.aload_n 1, 1) := by decide +kernel
theorem dL_tell_81 : decode cL_tell 81 = .ok (.iconst 3, 1) := by decide +kernel
theorem dL_tell_82 : decode cL_tell 82 = .ok (.iaload, 1) := by decide +kernel
theorem dL_tell_83 : decode cL_tell 83 = .ok (.if_icmp .ge 88, 3) := by decide +kernel
theorem dL_tell_86 : decode cL_tell 86 = .ok (.iconst 0, 1) := by decide +kernel
theorem dL_tell_87 : decode cL_tell 87 = .ok (.istore 4, 2) := by decide +kernel
theorem dL_tell_89 : decode cL_tell 89 = .ok (.iload 4, 2) := by decide +kernel
theorem dL_tell_91 : decode cL_tell 91 = .ok (.iconst 3, 1) := by decide +kernel
theorem dL_tell_92 : decode cL_tell 92 = .ok (.if_icmp .ge 73, 3) := by decide +kernel
theorem dL_tell_95 : decode cL_tell 95 = .ok (.aload_n 0, 1) := by decide +kernel
theorem dL_tell_96 : decode cL_tell 96 = .ok (.iload 4, 2) := by decide +kernel
theorem dL_tell_98 : decode cL_tell 98 = .ok (.aload_n 1, 1) := by decide +kernel
theorem dL_tell_99 : decode cL_tell 99 = .ok (.iconst 0, 1) := by decide +kernel
theorem dL_tell_100 : decode cL_tell 100 = .ok (.iaload, 1) := by decide +kernel
theorem dL_tell_101 : decode cL_tell 101 = .ok (.invokestatic 59, 3) := by decide +kernel
theorem dL_tell_104 : decode cL_tell 104 = .ok (.iconst 2, 1) := by decide +kernel
theorem dL_tell_105 : decode cL_tell 105 = .ok (.iload 4, 2) := by decide +kernel
theorem dL_tell_107 : decode cL_tell 107 = .ok (.imul, 1) := by decide +kernel
theorem dL_tell_108 : decode cL_tell 108 = .ok (.aload_n 1, 1) := by decide +kernel
theorem dL_tell_109 : decode cL_tell 109 = .ok (.iconst 1, 1) := by decide +kernel
theorem dL_tell_110 : decode cL_tell 110 = .ok (.iaload, 1) := by decide +kernel
theorem dL_tell_111 : decode cL_tell 111 = .ok (.invokestatic 59, 3) := by decide +kernel
theorem dL_tell_114 : decode cL_tell 114 = .ok (.iload 4, 2) := by decide +kernel
theorem dL_tell_116 : decode cL_tell 116 = .ok (.aload_n 1, 1) := by decide +kernel
theorem dL_tell_117 : decode cL_tell 117 = .ok (.iconst 2, 1) := by decide +kernel
theorem dL_tell_118 : decode cL_tell 118 = .ok (.iaload, 1) := by decide +kernel
theorem dL_tell_119 : decode cL_tell 119 = .ok (.invokestatic 59, 3) := by decide +kernel
theorem dL_tell_122 : decode cL_tell 122 = .ok (.iload_n 3, 1) := by decide +kernel
theorem dL_tell_123 : decode cL_tell 123 = .ok (.invokevirtual 64, 3) := by decide +kernel
theorem dL_tell_126 : decode cL_tell 126 = .ok (.lstore 5, 2) := by decide +kernel
theorem dL_tell_128 : decode cL_tell 128 = .ok (.aload_n 2, 1) := by decide +kernel
theorem dL_tell_129 : decode cL_tell 129 = .ok (.bipush 36, 2) := by decide +kernel
theorem dL_tell_131 : decode cL_tell 131 = .ok (.iconst 3, 1) := by decide +kernel
theorem dL_tell_132 : decode cL_tell 132 = .ok (.iload_n 3, 1) := by decide +kernel
theorem dL_tell_133 : decode cL_tell 133 = .ok (.imul, 1) := by decide +kernel
theorem dL_tell_134 : decode cL_tell 134 = .ok (.iadd, 1) := by decide +kernel
theorem dL_tell_135 : decode cL_tell 135 = .ok (.iload 4, 2) := by decide +kernel
theorem dL_tell_137 : decode cL_tell 137 = .ok (.iadd, 1) := by decide +kernel
theorem dL_tell_138 : decode cL_tell 138 = .ok (.lload 5, 2) := by decide +kernel
theorem dL_tell_140 : decode cL_tell 140 = .ok (.ldc2_w 68, 3) := by decide +kernel
theorem dL_tell_143 : decode cL_tell 143 = .ok (.lcmp, 1) := by decide +kernel
theorem dL_tell_144 : decode cL_tell 144 = .ok (.ifCond .ne 7, 3) := by decide +kernel
theorem dL_tell_147 : decode cL_tell 147 = .ok (.iconst (-1), 1) := by decide +kernel
theorem dL_tell_148 : decode cL_tell 148 = .ok (.goto 10, 3) := by decide +kernel
theorem dL_tell_151 : decode cL_tell 151 = .ok (.lload 5, 2) := by decide +kernel
theorem dL_tell_153 : decode cL_tell 153 = .ok (.ldc2_w 70, 3) := by decide +kernel
theorem dL_tell_156 : decode cL_tell 156 = .ok (.lrem, 1) := by decide +kernel
theorem dL_tell_157 : decode cL_tell 157 = .ok (.l2i, 1) := by decide +kernel
theorem dL_tell_158 : decode cL_tell 158 = .ok (.iastore, 1) := by decide +kernel
theorem dL_tell_159 : decode cL_tell 159 = .ok (.iinc 4 1, 3) := by decide +kernel
theorem dL_tell_162 : decode cL_tell 162 = .ok (.goto (-73), 3) := by decide +kernel
theorem dL_tell_165 : decode cL_tell 165 = .ok (.iinc 3 1, 3) := by decide +kernel
theorem dL_tell_168 : decode cL_tell 168 = .ok (.goto (-89), 3) := by decide +kernel
theorem dL_tell_171 : decode cL_tell 171 = .ok (.aload_n 2, 1) := by decide +kernel
theorem dL_tell_172 : decode cL_tell 172 = .ok (.bipush 50, 2) := by decide +kernel
theorem dL_tell_174 : decode cL_tell 174 = .ok (.aload_n 0, 1) := by decide +kernel
theorem dL_tell_175 : decode cL_tell 175 = .ok (.invokevirtual 72, 3) := by decide +kernel
theorem dL_tell_178 : decode cL_tell 178 = .ok (.iastore, 1) := by decide +kernel
theorem dL_tell_179 : decode cL_tell 179 = .ok (.aload_n 2, 1) := by decide +kernel
theorem dL_tell_180 : decode cL_tell 180 = .ok (.bipush 51, 2) := by decide +kernel
theorem dL_tell_182 : decode cL_tell 182 = .ok (.aload_n 0, 1) := by decide +kernel
theorem dL_tell_183 : decode cL_tell 183 = .ok (.invokevirtual 76, 3) := by decide +kernel
theorem dL_tell_186 : decode cL_tell 186 = .ok (.iastore, 1) := by decide +kernel
theorem dL_tell_187 : decode cL_tell 187 = .ok (.aload_n 2, 1) := by decide +kernel
theorem dL_tell_188 : decode cL_tell 188 = .ok (.bipush 52, 2) := by decide +kernel
theorem dL_tell_190 : decode cL_tell 190 = .ok (.aload_n 0, 1) := by decide +kernel
theorem dL_tell_191 : decode cL_tell 191 = .ok (.invokevirtual 79, 3) := by decide +kernel
theorem dL_tell_194 : decode cL_tell 194 = .ok (.iastore, 1) := by decide +kernel
theorem dL_tell_195 : decode cL_tell 195 = .ok (.aload_n 2, 1) := by decide +kernel
theorem dL_tell_196 : decode cL_tell 196 = .ok (.areturn, 1) := by decide +kernel
theorem dL_same_0 : decode cL_same 0 = .ok (.iconst 0, 1) := by decide +kernel
theorem dL_same_1 : decode cL_same 1 = .ok (.istore_n 2, 1) := by decide +kernel
theorem dL_same_2 : decode cL_same 2 = .ok (.iload_n 2, 1) := by decide +kernel
theorem dL_same_3 : decode cL_same 3 = .ok (.bipush 60, 2) := by decide +kernel
theorem dL_same_5 : decode cL_same 5 = .ok (.if_icmp .ge 20, 3) := by decide +kernel
theorem dL_same_8 : decode cL_same 8 = .ok (.aload_n 0, 1) := by decide +kernel
theorem dL_same_9 : decode cL_same 9 = .ok (.iload_n 2, 1) := by decide +kernel
theorem dL_same_10 : decode cL_same 10 = .ok (.iaload, 1) := by decide +kernel
theorem dL_same_11 : decode cL_same 11 = .ok (.aload_n 1, 1) := by decide +kernel
theorem dL_same_12 : decode cL_same 12 = .ok (.iload_n 2, 1) := by decide +kernel
theorem dL_same_13 : decode cL_same 13 = .ok (.iaload, 1) := by decide +kernel
theorem dL_same_14 : decode cL_same 14 = .ok (.if_icmp .eq 5, 3) := by decide +kernel
theorem dL_same_17 : decode cL_same 17 = .ok (.iconst 0, 1) := by decide +kernel
theorem dL_same_18 : decode cL_same 18 = .ok (.ireturn, 1) := by decide +kernel
theorem dL_same_19 : decode cL_same 19 = .ok (.iinc 2 1, 3) := by decide +kernel
theorem dL_same_22 : decode cL_same 22 = .ok (.goto (-20), 3) := by decide +kernel
theorem dL_same_25 : decode cL_same 25 = .ok (.iconst 1, 1) := by decide +kernel
theorem dL_same_26 : decode cL_same 26 = .ok (.ireturn, 1) := by decide +kernel
theorem dL_asks_0 : decode cL_asks 0 = .ok (.iload_n 2, 1) := by decide +kernel
theorem dL_asks_1 : decode cL_asks 1 = .ok (.aload_n 1, 1) := by decide +kernel
theorem dL_asks_2 : decode cL_asks 2 = .ok (.iconst 0, 1) := by decide +kernel
theorem dL_asks_3 : decode cL_asks 3 = .ok (.iaload, 1) := by decide +kernel
theorem dL_asks_4 : decode cL_asks 4 = .ok (.invokestatic 59, 3) := by decide +kernel
theorem dL_asks_7 : decode cL_asks 7 = .ok (.istore_n 3, 1) := by decide +kernel
theorem dL_asks_8 : decode cL_asks 8 = .ok (.iload_n 2, 1) := by decide +kernel
theorem dL_asks_9 : decode cL_asks 9 = .ok (.iconst 3, 1) := by decide +kernel
theorem dL_asks_10 : decode cL_asks 10 = .ok (.ishr, 1) := by decide +kernel
theorem dL_asks_11 : decode cL_asks 11 = .ok (.aload_n 1, 1) := by decide +kernel
theorem dL_asks_12 : decode cL_asks 12 = .ok (.iconst 1, 1) := by decide +kernel
theorem dL_asks_13 : decode cL_asks 13 = .ok (.iaload, 1) := by decide +kernel
theorem dL_asks_14 : decode cL_asks 14 = .ok (.invokestatic 59, 3) := by decide +kernel
theorem dL_asks_17 : decode cL_asks 17 = .ok (.istore 4, 2) := by decide +kernel
theorem dL_asks_19 : decode cL_asks 19 = .ok (.iload_n 2, 1) := by decide +kernel
theorem dL_asks_20 : decode cL_asks 20 = .ok (.iconst 5, 1) := by decide +kernel
theorem dL_asks_21 : decode cL_asks 21 = .ok (.ishr, 1) := by decide +kernel
theorem dL_asks_22 : decode cL_asks 22 = .ok (.aload_n 1, 1) := by decide +kernel
theorem dL_asks_23 : decode cL_asks 23 = .ok (.iconst 2, 1) := by decide +kernel
theorem dL_asks_24 : decode cL_asks 24 = .ok (.iaload, 1) := by decide +kernel
theorem dL_asks_25 : decode cL_asks 25 = .ok (.invokestatic 59, 3) := by decide +kernel
theorem dL_asks_28 : decode cL_asks 28 = .ok (.istore 5, 2) := by decide +kernel
theorem dL_asks_30 : decode cL_asks 30 = .ok (.iload_n 2, 1) := by decide +kernel
theorem dL_asks_31 : decode cL_asks 31 = .ok (.bipush 7, 2) := by decide +kernel
theorem dL_asks_33 : decode cL_asks 33 = .ok (.ishr, 1) := by decide +kernel
theorem dL_asks_34 : decode cL_asks 34 = .ok (.aload_n 1, 1) := by decide +kernel
theorem dL_asks_35 : decode cL_asks 35 = .ok (.iconst 3, 1) := by decide +kernel
theorem dL_asks_36 : decode cL_asks 36 = .ok (.iaload, 1) := by decide +kernel
theorem dL_asks_37 : decode cL_asks 37 = .ok (.invokestatic 59, 3) := by decide +kernel
theorem dL_asks_40 : decode cL_asks 40 = .ok (.istore 6, 2) := by decide +kernel
theorem dL_asks_42 : decode cL_asks 42 = .ok (.aload_n 0, 1) := by decide +kernel
theorem dL_asks_43 : decode cL_asks 43 = .ok (.iload_n 3, 1) := by decide +kernel
theorem dL_asks_44 : decode cL_asks 44 = .ok (.iload 4, 2) := by decide +kernel
theorem dL_asks_46 : decode cL_asks 46 = .ok (.iload 5, 2) := by decide +kernel
theorem dL_asks_48 : decode cL_asks 48 = .ok (.iload 6, 2) := by decide +kernel
theorem dL_asks_50 : decode cL_asks 50 = .ok (.invokevirtual 82, 3) := by decide +kernel
theorem dL_asks_53 : decode cL_asks 53 = .ok (.lstore 7, 2) := by decide +kernel
theorem dL_asks_55 : decode cL_asks 55 = .ok (.aload_n 0, 1) := by decide +kernel
theorem dL_asks_56 : decode cL_asks 56 = .ok (.iconst 0, 1) := by decide +kernel
theorem dL_asks_57 : decode cL_asks 57 = .ok (.iload_n 3, 1) := by decide +kernel
theorem dL_asks_58 : decode cL_asks 58 = .ok (.iconst 4, 1) := by decide +kernel
theorem dL_asks_59 : decode cL_asks 59 = .ok (.invokevirtual 56, 3) := by decide +kernel
theorem dL_asks_62 : decode cL_asks 62 = .ok (.iconst 1, 1) := by decide +kernel
theorem dL_asks_63 : decode cL_asks 63 = .ok (.if_icmp .ne 31, 3) := by decide +kernel
theorem dL_asks_66 : decode cL_asks 66 = .ok (.aload_n 0, 1) := by decide +kernel
theorem dL_asks_67 : decode cL_asks 67 = .ok (.iconst 1, 1) := by decide +kernel
theorem dL_asks_68 : decode cL_asks 68 = .ok (.iload 4, 2) := by decide +kernel
theorem dL_asks_70 : decode cL_asks 70 = .ok (.iconst 4, 1) := by decide +kernel
theorem dL_asks_71 : decode cL_asks 71 = .ok (.invokevirtual 56, 3) := by decide +kernel
theorem dL_asks_74 : decode cL_asks 74 = .ok (.iconst 1, 1) := by decide +kernel
theorem dL_asks_75 : decode cL_asks 75 = .ok (.if_icmp .ne 19, 3) := by decide +kernel
theorem dL_asks_78 : decode cL_asks 78 = .ok (.aload_n 0, 1) := by decide +kernel
theorem dL_asks_79 : decode cL_asks 79 = .ok (.iconst 2, 1) := by decide +kernel
theorem dL_asks_80 : decode cL_asks 80 = .ok (.iload 5, 2) := by decide +kernel
theorem dL_asks_82 : decode cL_asks 82 = .ok (.iconst 4, 1) := by decide +kernel
theorem dL_asks_83 : decode cL_asks 83 = .ok (.invokevirtual 56, 3) := by decide +kernel
theorem dL_asks_86 : decode cL_asks 86 = .ok (.iconst 1, 1) := by decide +kernel
theorem dL_asks_87 : decode cL_asks 87 = .ok (.if_icmp .ne 7, 3) := by decide +kernel
theorem dL_asks_90 : decode cL_asks 90 = .ok (.iconst 1, 1) := by decide +kernel
theorem dL_asks_91 : decode cL_asks 91 = .ok (.goto 4, 3) := by decide +kernel
theorem dL_asks_94 : decode cL_asks 94 = .ok (.iconst 0, 1) := by decide +kernel
theorem dL_asks_95 : decode cL_asks 95 = .ok (.istore 9, 2) := by decide +kernel
theorem dL_asks_97 : decode cL_asks 97 = .ok (.aload_n 0, 1) := by decide +kernel
theorem dL_asks_98 : decode cL_asks 98 = .ok (.invokevirtual 79, 3) := by decide +kernel
theorem dL_asks_101 : decode cL_asks 101 = .ok (.istore 10, 2) := by decide +kernel
theorem dL_asks_103 : decode cL_asks 103 = .ok (.lload 7, 2) := by decide +kernel
theorem dL_asks_105 : decode cL_asks 105 = .ok (.aload_n 0, 1) := by decide +kernel
theorem dL_asks_106 : decode cL_asks 106 = .ok (.iload_n 3, 1) := by decide +kernel
theorem dL_asks_107 : decode cL_asks 107 = .ok (.iload 4, 2) := by decide +kernel
theorem dL_asks_109 : decode cL_asks 109 = .ok (.iload 5, 2) := by decide +kernel
theorem dL_asks_111 : decode cL_asks 111 = .ok (.iload 6, 2) := by decide +kernel
theorem dL_asks_113 : decode cL_asks 113 = .ok (.invokevirtual 64, 3) := by decide +kernel
theorem dL_asks_116 : decode cL_asks 116 = .ok (.lcmp, 1) := by decide +kernel
theorem dL_asks_117 : decode cL_asks 117 = .ok (.ifCond .ne 71, 3) := by decide +kernel
theorem dL_asks_120 : decode cL_asks 120 = .ok (.iload 9, 2) := by decide +kernel
theorem dL_asks_122 : decode cL_asks 122 = .ok (.ifCond .ne 12, 3) := by decide +kernel
theorem dL_asks_125 : decode cL_asks 125 = .ok (.lload 7, 2) := by decide +kernel
theorem dL_asks_127 : decode cL_asks 127 = .ok (.ldc2_w 68, 3) := by decide +kernel
theorem dL_asks_130 : decode cL_asks 130 = .ok (.lcmp, 1) := by decide +kernel
theorem dL_asks_131 : decode cL_asks 131 = .ok (.ifCond .ne 57, 3) := by decide +kernel
theorem dL_asks_134 : decode cL_asks 134 = .ok (.aload_n 0, 1) := by decide +kernel
theorem dL_asks_135 : decode cL_asks 135 = .ok (.iload_n 3, 1) := by decide +kernel
theorem dL_asks_136 : decode cL_asks 136 = .ok (.iload 4, 2) := by decide +kernel
theorem dL_asks_138 : decode cL_asks 138 = .ok (.iload 5, 2) := by decide +kernel
theorem dL_asks_140 : decode cL_asks 140 = .ok (.iload 6, 2) := by decide +kernel
theorem dL_asks_142 : decode cL_asks 142 = .ok (.invokevirtual 82, 3) := by decide +kernel
theorem dL_asks_145 : decode cL_asks 145 = .ok (.lload 7, 2) := by decide +kernel
theorem dL_asks_147 : decode cL_asks 147 = .ok (.lcmp, 1) := by decide +kernel
theorem dL_asks_148 : decode cL_asks 148 = .ok (.ifCond .ne 40, 3) := by decide +kernel
theorem dL_asks_151 : decode cL_asks 151 = .ok (.aload_n 0, 1) := by decide +kernel
theorem dL_asks_152 : decode cL_asks 152 = .ok (.invokevirtual 79, 3) := by decide +kernel
theorem dL_asks_155 : decode cL_asks 155 = .ok (.iload 10, 2) := by decide +kernel
theorem dL_asks_157 : decode cL_asks 157 = .ok (.iload 9, 2) := by decide +kernel
theorem dL_asks_159 : decode cL_asks 159 = .ok (.ifCond .eq 7, 3) := by decide +kernel
theorem dL_asks_162 : decode cL_asks 162 = .ok (.iconst 1, 1) := by decide +kernel
theorem dL_asks_163 : decode cL_asks 163 = .ok (.goto 4, 3) := by decide +kernel
theorem dL_asks_166 : decode cL_asks 166 = .ok (.iconst 0, 1) := by decide +kernel
theorem dL_asks_167 : decode cL_asks 167 = .ok (.iadd, 1) := by decide +kernel
theorem dL_asks_168 : decode cL_asks 168 = .ok (.if_icmp .ne 20, 3) := by decide +kernel
theorem dL_asks_171 : decode cL_asks 171 = .ok (.aload_n 0, 1) := by decide +kernel
theorem dL_asks_172 : decode cL_asks 172 = .ok (.invokevirtual 76, 3) := by decide +kernel
theorem dL_asks_175 : decode cL_asks 175 = .ok (.bipush 20, 2) := by decide +kernel
theorem dL_asks_177 : decode cL_asks 177 = .ok (.if_icmp .gt 11, 3) := by decide +kernel
theorem dL_asks_180 : decode cL_asks 180 = .ok (.iload 10, 2) := by decide +kernel
theorem dL_asks_182 : decode cL_asks 182 = .ok (.aload_n 1, 1) := by decide +kernel
theorem dL_asks_183 : decode cL_asks 183 = .ok (.iconst 4, 1) := by decide +kernel
theorem dL_asks_184 : decode cL_asks 184 = .ok (.iaload, 1) := by decide +kernel
theorem dL_asks_185 : decode cL_asks 185 = .ok (.if_icmp .ge 5, 3) := by decide +kernel
theorem dL_asks_188 : decode cL_asks 188 = .ok (.iconst 0, 1) := by decide +kernel
theorem dL_asks_189 : decode cL_asks 189 = .ok (.ireturn, 1) := by decide +kernel
theorem dL_asks_190 : decode cL_asks 190 = .ok (.aload_n 1, 1) := by decide +kernel
theorem dL_asks_191 : decode cL_asks 191 = .ok (.iconst 4, 1) := by decide +kernel
theorem dL_asks_192 : decode cL_asks 192 = .ok (.aload_n 0, 1) := by decide +kernel
theorem dL_asks_193 : decode cL_asks 193 = .ok (.invokevirtual 79, 3) := by decide +kernel
theorem dL_asks_196 : decode cL_asks 196 = .ok (.iastore, 1) := by decide +kernel
theorem dL_asks_197 : decode cL_asks 197 = .ok (.iload_n 2, 1) := by decide +kernel
theorem dL_asks_198 : decode cL_asks 198 = .ok (.iconst 4, 1) := by decide +kernel
theorem dL_asks_199 : decode cL_asks 199 = .ok (.ishr, 1) := by decide +kernel
theorem dL_asks_200 : decode cL_asks 200 = .ok (.iconst 3, 1) := by decide +kernel
theorem dL_asks_201 : decode cL_asks 201 = .ok (.invokestatic 59, 3) := by decide +kernel
theorem dL_asks_204 : decode cL_asks 204 = .ok (.istore 11, 2) := by decide +kernel
theorem dL_asks_206 : decode cL_asks 206 = .ok (.iload 11, 2) := by decide +kernel
theorem dL_asks_208 : decode cL_asks 208 = .ok (.iconst 1, 1) := by decide +kernel
theorem dL_asks_209 : decode cL_asks 209 = .ok (.iadd, 1) := by decide +kernel
theorem dL_asks_210 : decode cL_asks 210 = .ok (.iconst 3, 1) := by decide +kernel
theorem dL_asks_211 : decode cL_asks 211 = .ok (.irem, 1) := by decide +kernel
theorem dL_asks_212 : decode cL_asks 212 = .ok (.istore 12, 2) := by decide +kernel
theorem dL_asks_214 : decode cL_asks 214 = .ok (.aload_n 0, 1) := by decide +kernel
theorem dL_asks_215 : decode cL_asks 215 = .ok (.iconst 0, 1) := by decide +kernel
theorem dL_asks_216 : decode cL_asks 216 = .ok (.iload_n 3, 1) := by decide +kernel
theorem dL_asks_217 : decode cL_asks 217 = .ok (.invokevirtual 85, 3) := by decide +kernel
theorem dL_asks_220 : decode cL_asks 220 = .ok (.pop, 1) := by decide +kernel
theorem dL_asks_221 : decode cL_asks 221 = .ok (.aload_n 0, 1) := by decide +kernel
theorem dL_asks_222 : decode cL_asks 222 = .ok (.iconst 1, 1) := by decide +kernel
theorem dL_asks_223 : decode cL_asks 223 = .ok (.iload 4, 2) := by decide +kernel
theorem dL_asks_225 : decode cL_asks 225 = .ok (.invokevirtual 85, 3) := by decide +kernel
theorem dL_asks_228 : decode cL_asks 228 = .ok (.pop, 1) := by decide +kernel
theorem dL_asks_229 : decode cL_asks 229 = .ok (.aload_n 0, 1) := by decide +kernel
theorem dL_asks_230 : decode cL_asks 230 = .ok (.iconst 2, 1) := by decide +kernel
theorem dL_asks_231 : decode cL_asks 231 = .ok (.iload 5, 2) := by decide +kernel
theorem dL_asks_233 : decode cL_asks 233 = .ok (.invokevirtual 85, 3) := by decide +kernel
theorem dL_asks_236 : decode cL_asks 236 = .ok (.pop, 1) := by decide +kernel
theorem dL_asks_237 : decode cL_asks 237 = .ok (.aload_n 0, 1) := by decide +kernel
theorem dL_asks_238 : decode cL_asks 238 = .ok (.iload 11, 2) := by decide +kernel
theorem dL_asks_240 : decode cL_asks 240 = .ok (.iconst 2, 1) := by decide +kernel
theorem dL_asks_241 : decode cL_asks 241 = .ok (.iload_n 2, 1) := by decide +kernel
theorem dL_asks_242 : decode cL_asks 242 = .ok (.bipush 6, 2) := by decide +kernel
theorem dL_asks_244 : decode cL_asks 244 = .ok (.ishr, 1) := by decide +kernel
theorem dL_asks_245 : decode cL_asks 245 = .ok (.iconst 4, 1) := by decide +kernel
theorem dL_asks_246 : decode cL_asks 246 = .ok (.invokestatic 59, 3) := by decide +kernel
theorem dL_asks_249 : decode cL_asks 249 = .ok (.iload 6, 2) := by decide +kernel
theorem dL_asks_251 : decode cL_asks 251 = .ok (.iconst 0, 1) := by decide +kernel
theorem dL_asks_252 : decode cL_asks 252 = .ok (.invokestatic 88, 3) := by decide +kernel
theorem dL_asks_255 : decode cL_asks 255 = .ok (.istore 13, 2) := by decide +kernel
theorem dL_asks_257 : decode cL_asks 257 = .ok (.iconst (-1), 1) := by decide +kernel
theorem dL_asks_258 : decode cL_asks 258 = .ok (.istore 14, 2) := by decide +kernel
theorem dL_asks_260 : decode cL_asks 260 = .ok (.iconst 0, 1) := by decide +kernel
theorem dL_asks_261 : decode cL_asks 261 = .ok (.istore 15, 2) := by decide +kernel
theorem dL_asks_263 : decode cL_asks 263 = .ok (.iload 15, 2) := by decide +kernel
theorem dL_asks_265 : decode cL_asks 265 = .ok (.iload 13, 2) := by decide +kernel
theorem dL_asks_267 : decode cL_asks 267 = .ok (.if_icmp .ge 65, 3) := by decide +kernel
theorem dL_asks_270 : decode cL_asks 270 = .ok (.aload_n 0, 1) := by decide +kernel
theorem dL_asks_271 : decode cL_asks 271 = .ok (.iload 11, 2) := by decide +kernel
theorem dL_asks_273 : decode cL_asks 273 = .ok (.iload 15, 2) := by decide +kernel
theorem dL_asks_275 : decode cL_asks 275 = .ok (.invokevirtual 92, 3) := by decide +kernel
theorem dL_asks_278 : decode cL_asks 278 = .ok (.istore 16, 2) := by decide +kernel
theorem dL_asks_280 : decode cL_asks 280 = .ok (.iload 16, 2) := by decide +kernel
theorem dL_asks_282 : decode cL_asks 282 = .ok (.iload 14, 2) := by decide +kernel
theorem dL_asks_284 : decode cL_asks 284 = .ok (.if_icmp .le 36, 3) := by decide +kernel
theorem dL_asks_287 : decode cL_asks 287 = .ok (.aload_n 0, 1) := by decide +kernel
theorem dL_asks_288 : decode cL_asks 288 = .ok (.iload 11, 2) := by decide +kernel
theorem dL_asks_290 : decode cL_asks 290 = .ok (.iload 16, 2) := by decide +kernel
theorem dL_asks_292 : decode cL_asks 292 = .ok (.iconst 2, 1) := by decide +kernel
theorem dL_asks_293 : decode cL_asks 293 = .ok (.invokevirtual 56, 3) := by decide +kernel
theorem dL_asks_296 : decode cL_asks 296 = .ok (.iload_n 2, 1) := by decide +kernel
theorem dL_asks_297 : decode cL_asks 297 = .ok (.bipush 6, 2) := by decide +kernel
theorem dL_asks_299 : decode cL_asks 299 = .ok (.ishr, 1) := by decide +kernel
theorem dL_asks_300 : decode cL_asks 300 = .ok (.iconst 4, 1) := by decide +kernel
theorem dL_asks_301 : decode cL_asks 301 = .ok (.invokestatic 59, 3) := by decide +kernel
theorem dL_asks_304 : decode cL_asks 304 = .ok (.if_icmp .ne 16, 3) := by decide +kernel
theorem dL_asks_307 : decode cL_asks 307 = .ok (.aload_n 0, 1) := by decide +kernel
theorem dL_asks_308 : decode cL_asks 308 = .ok (.iload 11, 2) := by decide +kernel
theorem dL_asks_310 : decode cL_asks 310 = .ok (.iload 16, 2) := by decide +kernel
theorem dL_asks_312 : decode cL_asks 312 = .ok (.iconst 4, 1) := by decide +kernel
theorem dL_asks_313 : decode cL_asks 313 = .ok (.invokevirtual 56, 3) := by decide +kernel
theorem dL_asks_316 : decode cL_asks 316 = .ok (.iconst 1, 1) := by decide +kernel
theorem dL_asks_317 : decode cL_asks 317 = .ok (.if_icmp .eq 5, 3) := by decide +kernel
theorem dL_asks_320 : decode cL_asks 320 = .ok (.iconst 0, 1) := by decide +kernel
theorem dL_asks_321 : decode cL_asks 321 = .ok (.ireturn, 1) := by decide +kernel
theorem dL_asks_322 : decode cL_asks 322 = .ok (.iload 16, 2) := by decide +kernel
theorem dL_asks_324 : decode cL_asks 324 = .ok (.istore 14, 2) := by decide +kernel
theorem dL_asks_326 : decode cL_asks 326 = .ok (.iinc 15 1, 3) := by decide +kernel
theorem dL_asks_329 : decode cL_asks 329 = .ok (.goto (-66), 3) := by decide +kernel
theorem dL_asks_332 : decode cL_asks 332 = .ok (.aload_n 0, 1) := by decide +kernel
theorem dL_asks_333 : decode cL_asks 333 = .ok (.iload 11, 2) := by decide +kernel
theorem dL_asks_335 : decode cL_asks 335 = .ok (.iconst 2, 1) := by decide +kernel
theorem dL_asks_336 : decode cL_asks 336 = .ok (.iload_n 2, 1) := by decide +kernel
theorem dL_asks_337 : decode cL_asks 337 = .ok (.bipush 6, 2) := by decide +kernel
theorem dL_asks_339 : decode cL_asks 339 = .ok (.ishr, 1) := by decide +kernel
theorem dL_asks_340 : decode cL_asks 340 = .ok (.iconst 4, 1) := by decide +kernel
theorem dL_asks_341 : decode cL_asks 341 = .ok (.invokestatic 59, 3) := by decide +kernel
theorem dL_asks_344 : decode cL_asks 344 = .ok (.iload 6, 2) := by decide +kernel
theorem dL_asks_346 : decode cL_asks 346 = .ok (.iconst 3, 1) := by decide +kernel
theorem dL_asks_347 : decode cL_asks 347 = .ok (.invokestatic 88, 3) := by decide +kernel
theorem dL_asks_350 : decode cL_asks 350 = .ok (.istore 15, 2) := by decide +kernel
theorem dL_asks_352 : decode cL_asks 352 = .ok (.ldc2_w 95, 3) := by decide +kernel
theorem dL_asks_355 : decode cL_asks 355 = .ok (.lstore 16, 2) := by decide +kernel
theorem dL_asks_357 : decode cL_asks 357 = .ok (.iconst 0, 1) := by decide +kernel
theorem dL_asks_358 : decode cL_asks 358 = .ok (.istore 18, 2) := by decide +kernel
theorem dL_asks_360 : decode cL_asks 360 = .ok (.iload 18, 2) := by decide +kernel
theorem dL_asks_362 : decode cL_asks 362 = .ok (.iload 15, 2) := by decide +kernel
theorem dL_asks_364 : decode cL_asks 364 = .ok (.if_icmp .ge 87, 3) := by decide +kernel
theorem dL_asks_367 : decode cL_asks 367 = .ok (.aload_n 0, 1) := by decide +kernel
theorem dL_asks_368 : decode cL_asks 368 = .ok (.iload 11, 2) := by decide +kernel
theorem dL_asks_370 : decode cL_asks 370 = .ok (.iload 18, 2) := by decide +kernel
theorem dL_asks_372 : decode cL_asks 372 = .ok (.invokevirtual 92, 3) := by decide +kernel
theorem dL_asks_375 : decode cL_asks 375 = .ok (.istore 19, 2) := by decide +kernel
theorem dL_asks_377 : decode cL_asks 377 = .ok (.aload_n 0, 1) := by decide +kernel
theorem dL_asks_378 : decode cL_asks 378 = .ok (.iload 11, 2) := by decide +kernel
theorem dL_asks_380 : decode cL_asks 380 = .ok (.ifCond .ne 8, 3) := by decide +kernel
theorem dL_asks_383 : decode cL_asks 383 = .ok (.iload 19, 2) := by decide +kernel
theorem dL_asks_385 : decode cL_asks 385 = .ok (.goto 4, 3) := by decide +kernel
theorem dL_asks_388 : decode cL_asks 388 = .ok (.iload_n 3, 1) := by decide +kernel
theorem dL_asks_389 : decode cL_asks 389 = .ok (.iload 11, 2) := by decide +kernel
theorem dL_asks_391 : decode cL_asks 391 = .ok (.iconst 1, 1) := by decide +kernel
theorem dL_asks_392 : decode cL_asks 392 = .ok (.if_icmp .ne 8, 3) := by decide +kernel
theorem dL_asks_395 : decode cL_asks 395 = .ok (.iload 19, 2) := by decide +kernel
theorem dL_asks_397 : decode cL_asks 397 = .ok (.goto 5, 3) := by decide +kernel
theorem dL_asks_400 : decode cL_asks 400 = .ok (.iload 4, 2) := by decide +kernel
theorem dL_asks_402 : decode cL_asks 402 = .ok (.iload 11, 2) := by decide +kernel
theorem dL_asks_404 : decode cL_asks 404 = .ok (.iconst 2, 1) := by decide +kernel
theorem dL_asks_405 : decode cL_asks 405 = .ok (.if_icmp .ne 8, 3) := by decide +kernel
theorem dL_asks_408 : decode cL_asks 408 = .ok (.iload 19, 2) := by decide +kernel
theorem dL_asks_410 : decode cL_asks 410 = .ok (.goto 5, 3) := by decide +kernel
theorem dL_asks_413 : decode cL_asks 413 = .ok (.iload 5, 2) := by decide +kernel
theorem dL_asks_415 : decode cL_asks 415 = .ok (.iload 6, 2) := by decide +kernel
theorem dL_asks_417 : decode cL_asks 417 = .ok (.invokevirtual 64, 3) := by decide +kernel
theorem dL_asks_420 : decode cL_asks 420 = .ok (.lstore 20, 2) := by decide +kernel
theorem dL_asks_422 : decode cL_asks 422 = .ok (.lload 20, 2) := by decide +kernel
theorem dL_asks_424 : decode cL_asks 424 = .ok (.ldc2_w 68, 3) := by decide +kernel
theorem dL_asks_427 : decode cL_asks 427 = .ok (.lcmp, 1) := by decide +kernel
theorem dL_asks_428 : decode cL_asks 428 = .ok (.ifCond .eq 11, 3) := by decide +kernel
theorem dL_asks_431 : decode cL_asks 431 = .ok (.lload 20, 2) := by decide +kernel
theorem dL_asks_433 : decode cL_asks 433 = .ok (.lload 16, 2) := by decide +kernel
theorem dL_asks_435 : decode cL_asks 435 = .ok (.lcmp, 1) := by decide +kernel
theorem dL_asks_436 : decode cL_asks 436 = .ok (.ifCond .le 5, 3) := by decide +kernel
theorem dL_asks_439 : decode cL_asks 439 = .ok (.iconst 0, 1) := by decide +kernel
theorem dL_asks_440 : decode cL_asks 440 = .ok (.ireturn, 1) := by decide +kernel
theorem dL_asks_441 : decode cL_asks 441 = .ok (.lload 20, 2) := by decide +kernel
theorem dL_asks_443 : decode cL_asks 443 = .ok (.lstore 16, 2) := by decide +kernel
theorem dL_asks_445 : decode cL_asks 445 = .ok (.iinc 18 1, 3) := by decide +kernel
theorem dL_asks_448 : decode cL_asks 448 = .ok (.goto (-88), 3) := by decide +kernel
theorem dL_asks_451 : decode cL_asks 451 = .ok (.aload_n 0, 1) := by decide +kernel
theorem dL_asks_452 : decode cL_asks 452 = .ok (.iload 12, 2) := by decide +kernel
theorem dL_asks_454 : decode cL_asks 454 = .ok (.iconst 0, 1) := by decide +kernel
theorem dL_asks_455 : decode cL_asks 455 = .ok (.iconst 0, 1) := by decide +kernel
theorem dL_asks_456 : decode cL_asks 456 = .ok (.iload 6, 2) := by decide +kernel
theorem dL_asks_458 : decode cL_asks 458 = .ok (.iconst 0, 1) := by decide +kernel
theorem dL_asks_459 : decode cL_asks 459 = .ok (.invokestatic 88, 3) := by decide +kernel
theorem dL_asks_462 : decode cL_asks 462 = .ok (.istore 18, 2) := by decide +kernel
theorem dL_asks_464 : decode cL_asks 464 = .ok (.aload_n 0, 1) := by decide +kernel
theorem dL_asks_465 : decode cL_asks 465 = .ok (.iload 11, 2) := by decide +kernel
theorem dL_asks_467 : decode cL_asks 467 = .ok (.iload 12, 2) := by decide +kernel
theorem dL_asks_469 : decode cL_asks 469 = .ok (.iload 6, 2) := by decide +kernel
theorem dL_asks_471 : decode cL_asks 471 = .ok (.invokevirtual 97, 3) := by decide +kernel
theorem dL_asks_474 : decode cL_asks 474 = .ok (.istore 19, 2) := by decide +kernel
theorem dL_asks_476 : decode cL_asks 476 = .ok (.aload_n 0, 1) := by decide +kernel
theorem dL_asks_477 : decode cL_asks 477 = .ok (.iload 11, 2) := by decide +kernel
theorem dL_asks_479 : decode cL_asks 479 = .ok (.iload 15, 2) := by decide +kernel
theorem dL_asks_481 : decode cL_asks 481 = .ok (.invokevirtual 92, 3) := by decide +kernel
theorem dL_asks_484 : decode cL_asks 484 = .ok (.iconst (-1), 1) := by decide +kernel
theorem dL_asks_485 : decode cL_asks 485 = .ok (.if_icmp .ne 59, 3) := by decide +kernel
theorem dL_asks_488 : decode cL_asks 488 = .ok (.iload 15, 2) := by decide +kernel
theorem dL_asks_490 : decode cL_asks 490 = .ok (.iconst 3, 1) := by decide +kernel
theorem dL_asks_491 : decode cL_asks 491 = .ok (.if_icmp .gt 53, 3) := by decide +kernel
theorem dL_asks_494 : decode cL_asks 494 = .ok (.iload 15, 2) := by decide +kernel
theorem dL_asks_496 : decode cL_asks 496 = .ok (.iload 13, 2) := by decide +kernel
theorem dL_asks_498 : decode cL_asks 498 = .ok (.if_icmp .gt 46, 3) := by decide +kernel
theorem dL_asks_501 : decode cL_asks 501 = .ok (.iload 19, 2) := by decide +kernel
theorem dL_asks_503 : decode cL_asks 503 = .ok (.ifCond .lt 41, 3) := by decide +kernel
theorem dL_asks_506 : decode cL_asks 506 = .ok (.iload 19, 2) := by decide +kernel
theorem dL_asks_508 : decode cL_asks 508 = .ok (.iload 15, 2) := by decide +kernel
theorem dL_asks_510 : decode cL_asks 510 = .ok (.iload 18, 2) := by decide +kernel
theorem dL_asks_512 : decode cL_asks 512 = .ok (.imul, 1) := by decide +kernel
theorem dL_asks_513 : decode cL_asks 513 = .ok (.if_icmp .gt 31, 3) := by decide +kernel
theorem dL_asks_516 : decode cL_asks 516 = .ok (.aload_n 0, 1) := by decide +kernel
theorem dL_asks_517 : decode cL_asks 517 = .ok (.iload 12, 2) := by decide +kernel
theorem dL_asks_519 : decode cL_asks 519 = .ok (.iload 11, 2) := by decide +kernel
theorem dL_asks_521 : decode cL_asks 521 = .ok (.iload 6, 2) := by decide +kernel
theorem dL_asks_523 : decode cL_asks 523 = .ok (.invokevirtual 97, 3) := by decide +kernel
theorem dL_asks_526 : decode cL_asks 526 = .ok (.iload 19, 2) := by decide +kernel
theorem dL_asks_528 : decode cL_asks 528 = .ok (.if_icmp .ne 16, 3) := by decide +kernel
theorem dL_asks_531 : decode cL_asks 531 = .ok (.aload_n 0, 1) := by decide +kernel
theorem dL_asks_532 : decode cL_asks 532 = .ok (.invokevirtual 72, 3) := by decide +kernel
theorem dL_asks_535 : decode cL_asks 535 = .ok (.bipush 50, 2) := by decide +kernel
theorem dL_asks_537 : decode cL_asks 537 = .ok (.if_icmp .gt 7, 3) := by decide +kernel
theorem dL_asks_540 : decode cL_asks 540 = .ok (.iconst 1, 1) := by decide +kernel
theorem dL_asks_541 : decode cL_asks 541 = .ok (.goto 4, 3) := by decide +kernel
theorem dL_asks_544 : decode cL_asks 544 = .ok (.iconst 0, 1) := by decide +kernel
theorem dL_asks_545 : decode cL_asks 545 = .ok (.ireturn, 1) := by decide +kernel
theorem dL_act_0 : decode cL_act 0 = .ok (.iload_n 2, 1) := by decide +kernel
theorem dL_act_1 : decode cL_act 1 = .ok (.iconst 3, 1) := by decide +kernel
theorem dL_act_2 : decode cL_act 2 = .ok (.invokestatic 59, 3) := by decide +kernel
theorem dL_act_5 : decode cL_act 5 = .ok (.istore 4, 2) := by decide +kernel
theorem dL_act_7 : decode cL_act 7 = .ok (.iload_n 2, 1) := by decide +kernel
theorem dL_act_8 : decode cL_act 8 = .ok (.iconst 2, 1) := by decide +kernel
theorem dL_act_9 : decode cL_act 9 = .ok (.ishr, 1) := by decide +kernel
theorem dL_act_10 : decode cL_act 10 = .ok (.aload_n 1, 1) := by decide +kernel
theorem dL_act_11 : decode cL_act 11 = .ok (.iload 4, 2) := by decide +kernel
theorem dL_act_13 : decode cL_act 13 = .ok (.iaload, 1) := by decide +kernel
theorem dL_act_14 : decode cL_act 14 = .ok (.iconst 1, 1) := by decide +kernel
theorem dL_act_15 : decode cL_act 15 = .ok (.iadd, 1) := by decide +kernel
theorem dL_act_16 : decode cL_act 16 = .ok (.invokestatic 59, 3) := by decide +kernel
theorem dL_act_19 : decode cL_act 19 = .ok (.istore 5, 2) := by decide +kernel
theorem dL_act_21 : decode cL_act 21 = .ok (.iload_n 3, 1) := by decide +kernel
theorem dL_act_22 : decode cL_act 22 = .ok (.tableswitch 650 0 11 #[62, 62, 112, 166, 195, 221, 322, 322, 462, 530, 553, 615], 62) := by decide +kernel
theorem dL_act_84 : decode cL_act 84 = .ok (.aload_n 0, 1) := by decide +kernel
theorem dL_act_85 : decode cL_act 85 = .ok (.iload 4, 2) := by decide +kernel
theorem dL_act_87 : decode cL_act 87 = .ok (.iload 5, 2) := by decide +kernel
theorem dL_act_89 : decode cL_act 89 = .ok (.iload_n 2, 1) := by decide +kernel
theorem dL_act_90 : decode cL_act 90 = .ok (.bipush 6, 2) := by decide +kernel
theorem dL_act_92 : decode cL_act 92 = .ok (.ishr, 1) := by decide +kernel
theorem dL_act_93 : decode cL_act 93 = .ok (.bipush 12, 2) := by decide +kernel
theorem dL_act_95 : decode cL_act 95 = .ok (.invokestatic 59, 3) := by decide +kernel
theorem dL_act_98 : decode cL_act 98 = .ok (.iconst 4, 1) := by decide +kernel
theorem dL_act_99 : decode cL_act 99 = .ok (.idiv, 1) := by decide +kernel
theorem dL_act_100 : decode cL_act 100 = .ok (.iload_n 2, 1) := by decide +kernel
theorem dL_act_101 : decode cL_act 101 = .ok (.bipush 9, 2) := by decide +kernel
theorem dL_act_103 : decode cL_act 103 = .ok (.ishr, 1) := by decide +kernel
theorem dL_act_104 : decode cL_act 104 = .ok (.iconst 2, 1) := by decide +kernel
theorem dL_act_105 : decode cL_act 105 = .ok (.invokestatic 59, 3) := by decide +kernel
theorem dL_act_108 : decode cL_act 108 = .ok (.isub, 1) := by decide +kernel
theorem dL_act_109 : decode cL_act 109 = .ok (.invokestatic 100, 3) := by decide +kernel
theorem dL_act_112 : decode cL_act 112 = .ok (.istore 6, 2) := by decide +kernel
theorem dL_act_114 : decode cL_act 114 = .ok (.aload_n 1, 1) := by decide +kernel
theorem dL_act_115 : decode cL_act 115 = .ok (.iload 4, 2) := by decide +kernel
theorem dL_act_117 : decode cL_act 117 = .ok (.dup2, 1) := by decide +kernel
theorem dL_act_118 : decode cL_act 118 = .ok (.iaload, 1) := by decide +kernel
theorem dL_act_119 : decode cL_act 119 = .ok (.iload 6, 2) := by decide +kernel
theorem dL_act_121 : decode cL_act 121 = .ok (.ifCond .ge 7, 3) := by decide +kernel
theorem dL_act_124 : decode cL_act 124 = .ok (.iconst 0, 1) := by decide +kernel
theorem dL_act_125 : decode cL_act 125 = .ok (.goto 4, 3) := by decide +kernel
theorem dL_act_128 : decode cL_act 128 = .ok (.iconst 1, 1) := by decide +kernel
theorem dL_act_129 : decode cL_act 129 = .ok (.iadd, 1) := by decide +kernel
theorem dL_act_130 : decode cL_act 130 = .ok (.iastore, 1) := by decide +kernel
theorem dL_act_131 : decode cL_act 131 = .ok (.iload 6, 2) := by decide +kernel
theorem dL_act_133 : decode cL_act 133 = .ok (.ireturn, 1) := by decide +kernel
theorem dL_act_134 : decode cL_act 134 = .ok (.aload_n 1, 1) := by decide +kernel
theorem dL_act_135 : decode cL_act 135 = .ok (.iload 4, 2) := by decide +kernel
theorem dL_act_137 : decode cL_act 137 = .ok (.iaload, 1) := by decide +kernel
theorem dL_act_138 : decode cL_act 138 = .ok (.bipush 9, 2) := by decide +kernel
theorem dL_act_140 : decode cL_act 140 = .ok (.if_icmp .le 8, 3) := by decide +kernel
theorem dL_act_143 : decode cL_act 143 = .ok (.bipush (-9), 2) := by decide +kernel
theorem dL_act_145 : decode cL_act 145 = .ok (.goto 21, 3) := by decide +kernel
theorem dL_act_148 : decode cL_act 148 = .ok (.aload_n 0, 1) := by decide +kernel
theorem dL_act_149 : decode cL_act 149 = .ok (.iload 4, 2) := by decide +kernel
theorem dL_act_151 : decode cL_act 151 = .ok (.iload_n 2, 1) := by decide +kernel
theorem dL_act_152 : decode cL_act 152 = .ok (.iconst 4, 1) := by decide +kernel
theorem dL_act_153 : decode cL_act 153 = .ok (.ishr, 1) := by decide +kernel
theorem dL_act_154 : decode cL_act 154 = .ok (.iconst 1, 1) := by decide +kernel
theorem dL_act_155 : decode cL_act 155 = .ok (.aload_n 1, 1) := by decide +kernel
theorem dL_act_156 : decode cL_act 156 = .ok (.iload 4, 2) := by decide +kernel
theorem dL_act_158 : decode cL_act 158 = .ok (.iaload, 1) := by decide +kernel
theorem dL_act_159 : decode cL_act 159 = .ok (.ishl, 1) := by decide +kernel
theorem dL_act_160 : decode cL_act 160 = .ok (.invokestatic 59, 3) := by decide +kernel
theorem dL_act_163 : decode cL_act 163 = .ok (.invokestatic 104, 3) := by decide +kernel
theorem dL_act_166 : decode cL_act 166 = .ok (.istore 6, 2) := by decide +kernel
theorem dL_act_168 : decode cL_act 168 = .ok (.aload_n 1, 1) := by decide +kernel
theorem dL_act_169 : decode cL_act 169 = .ok (.iload 4, 2) := by decide +kernel
theorem dL_act_171 : decode cL_act 171 = .ok (.dup2, 1) := by decide +kernel
theorem dL_act_172 : decode cL_act 172 = .ok (.iaload, 1) := by decide +kernel
theorem dL_act_173 : decode cL_act 173 = .ok (.iload 6, 2) := by decide +kernel
theorem dL_act_175 : decode cL_act 175 = .ok (.ifCond .ge 7, 3) := by decide +kernel
theorem dL_act_178 : decode cL_act 178 = .ok (.iconst 0, 1) := by decide +kernel
theorem dL_act_179 : decode cL_act 179 = .ok (.goto 4, 3) := by decide +kernel
theorem dL_act_182 : decode cL_act 182 = .ok (.iconst 1, 1) := by decide +kernel
theorem dL_act_183 : decode cL_act 183 = .ok (.iadd, 1) := by decide +kernel
theorem dL_act_184 : decode cL_act 184 = .ok (.iastore, 1) := by decide +kernel
theorem dL_act_185 : decode cL_act 185 = .ok (.iload 6, 2) := by decide +kernel
theorem dL_act_187 : decode cL_act 187 = .ok (.ireturn, 1) := by decide +kernel
theorem dL_act_188 : decode cL_act 188 = .ok (.aload_n 0, 1) := by decide +kernel
theorem dL_act_189 : decode cL_act 189 = .ok (.iload 4, 2) := by decide +kernel
theorem dL_act_191 : decode cL_act 191 = .ok (.iload 5, 2) := by decide +kernel
theorem dL_act_193 : decode cL_act 193 = .ok (.iload_n 2, 1) := by decide +kernel
theorem dL_act_194 : decode cL_act 194 = .ok (.iconst 5, 1) := by decide +kernel
theorem dL_act_195 : decode cL_act 195 = .ok (.ishr, 1) := by decide +kernel
theorem dL_act_196 : decode cL_act 196 = .ok (.aload_n 1, 1) := by decide +kernel
theorem dL_act_197 : decode cL_act 197 = .ok (.iload 4, 2) := by decide +kernel
theorem dL_act_199 : decode cL_act 199 = .ok (.iaload, 1) := by decide +kernel
theorem dL_act_200 : decode cL_act 200 = .ok (.invokestatic 59, 3) := by decide +kernel
theorem dL_act_203 : decode cL_act 203 = .ok (.iload_n 2, 1) := by decide +kernel
theorem dL_act_204 : decode cL_act 204 = .ok (.bipush 7, 2) := by decide +kernel
theorem dL_act_206 : decode cL_act 206 = .ok (.ishr, 1) := by decide +kernel
theorem dL_act_207 : decode cL_act 207 = .ok (.aload_n 1, 1) := by decide +kernel
theorem dL_act_208 : decode cL_act 208 = .ok (.iconst 0, 1) := by decide +kernel
theorem dL_act_209 : decode cL_act 209 = .ok (.iaload, 1) := by decide +kernel
theorem dL_act_210 : decode cL_act 210 = .ok (.invokestatic 59, 3) := by decide +kernel
theorem dL_act_213 : decode cL_act 213 = .ok (.invokestatic 108, 3) := by decide +kernel
theorem dL_act_216 : decode cL_act 216 = .ok (.ireturn, 1) := by decide +kernel
theorem dL_act_217 : decode cL_act 217 = .ok (.aload_n 0, 1) := by decide +kernel
theorem dL_act_218 : decode cL_act 218 = .ok (.iload_n 2, 1) := by decide +kernel
theorem dL_act_219 : decode cL_act 219 = .ok (.iconst 2, 1) := by decide +kernel
theorem dL_act_220 : decode cL_act 220 = .ok (.invokestatic 59, 3) := by decide +kernel
theorem dL_act_223 : decode cL_act 223 = .ok (.ifCond .ne 7, 3) := by decide +kernel
theorem dL_act_226 : decode cL_act 226 = .ok (.iconst 1, 1) := by decide +kernel
theorem dL_act_227 : decode cL_act 227 = .ok (.goto 4, 3) := by decide +kernel
theorem dL_act_230 : decode cL_act 230 = .ok (.iconst 0, 1) := by decide +kernel
theorem dL_act_231 : decode cL_act 231 = .ok (.invokevirtual 112, 3) := by decide +kernel
theorem dL_act_234 : decode cL_act 234 = .ok (.ifCond .eq 7, 3) := by decide +kernel
theorem dL_act_237 : decode cL_act 237 = .ok (.iconst 1, 1) := by decide +kernel
theorem dL_act_238 : decode cL_act 238 = .ok (.goto 4, 3) := by decide +kernel
theorem dL_act_241 : decode cL_act 241 = .ok (.iconst 0, 1) := by decide +kernel
theorem dL_act_242 : decode cL_act 242 = .ok (.ireturn, 1) := by decide +kernel
theorem dL_act_243 : decode cL_act 243 = .ok (.iload_n 2, 1) := by decide +kernel
theorem dL_act_244 : decode cL_act 244 = .ok (.iconst 3, 1) := by decide +kernel
theorem dL_act_245 : decode cL_act 245 = .ok (.ishr, 1) := by decide +kernel
theorem dL_act_246 : decode cL_act 246 = .ok (.iconst 3, 1) := by decide +kernel
theorem dL_act_247 : decode cL_act 247 = .ok (.invokestatic 59, 3) := by decide +kernel
theorem dL_act_250 : decode cL_act 250 = .ok (.ifCond .eq 34, 3) := by decide +kernel
theorem dL_act_253 : decode cL_act 253 = .ok (.iload 4, 2) := by decide +kernel
theorem dL_act_255 : decode cL_act 255 = .ok (.ifCond .eq 29, 3) := by decide +kernel
theorem dL_act_258 : decode cL_act 258 = .ok (.iload 5, 2) := by decide +kernel
theorem dL_act_260 : decode cL_act 260 = .ok (.ifCond .eq 24, 3) := by decide +kernel
theorem dL_act_263 : decode cL_act 263 = .ok (.iload 5, 2) := by decide +kernel
theorem dL_act_265 : decode cL_act 265 = .ok (.aload_n 1, 1) := by decide +kernel
theorem dL_act_266 : decode cL_act 266 = .ok (.iload 4, 2) := by decide +kernel
theorem dL_act_268 : decode cL_act 268 = .ok (.iaload, 1) := by decide +kernel
theorem dL_act_269 : decode cL_act 269 = .ok (.if_icmp .eq 15, 3) := by decide +kernel
theorem dL_act_272 : decode cL_act 272 = .ok (.aload_n 0, 1) := by decide +kernel
theorem dL_act_273 : decode cL_act 273 = .ok (.iload 4, 2) := by decide +kernel
theorem dL_act_275 : decode cL_act 275 = .ok (.iload 5, 2) := by decide +kernel
theorem dL_act_277 : decode cL_act 277 = .ok (.iconst 0, 1) := by decide +kernel
theorem dL_act_278 : decode cL_act 278 = .ok (.invokevirtual 56, 3) := by decide +kernel
theorem dL_act_281 : decode cL_act 281 = .ok (.ifCond .eq 31, 3) := by decide +kernel
theorem dL_act_284 : decode cL_act 284 = .ok (.aload_n 0, 1) := by decide +kernel
theorem dL_act_285 : decode cL_act 285 = .ok (.iload_n 2, 1) := by decide +kernel
theorem dL_act_286 : decode cL_act 286 = .ok (.iconst 4, 1) := by decide +kernel
theorem dL_act_287 : decode cL_act 287 = .ok (.ishr, 1) := by decide +kernel
theorem dL_act_288 : decode cL_act 288 = .ok (.iconst 2, 1) := by decide +kernel
theorem dL_act_289 : decode cL_act 289 = .ok (.invokestatic 59, 3) := by decide +kernel
theorem dL_act_292 : decode cL_act 292 = .ok (.ifCond .ne 7, 3) := by decide +kernel
theorem dL_act_295 : decode cL_act 295 = .ok (.iconst 1, 1) := by decide +kernel
theorem dL_act_296 : decode cL_act 296 = .ok (.goto 4, 3) := by decide +kernel
theorem dL_act_299 : decode cL_act 299 = .ok (.iconst 0, 1) := by decide +kernel
theorem dL_act_300 : decode cL_act 300 = .ok (.invokevirtual 116, 3) := by decide +kernel
theorem dL_act_303 : decode cL_act 303 = .ok (.ifCond .eq 7, 3) := by decide +kernel
theorem dL_act_306 : decode cL_act 306 = .ok (.iconst 1, 1) := by decide +kernel
theorem dL_act_307 : decode cL_act 307 = .ok (.goto 4, 3) := by decide +kernel
theorem dL_act_310 : decode cL_act 310 = .ok (.iconst 0, 1) := by decide +kernel
theorem dL_act_311 : decode cL_act 311 = .ok (.ireturn, 1) := by decide +kernel
theorem dL_act_312 : decode cL_act 312 = .ok (.aload_n 0, 1) := by decide +kernel
theorem dL_act_313 : decode cL_act 313 = .ok (.iload 4, 2) := by decide +kernel
theorem dL_act_315 : decode cL_act 315 = .ok (.iload 5, 2) := by decide +kernel
theorem dL_act_317 : decode cL_act 317 = .ok (.iload_n 2, 1) := by decide +kernel
theorem dL_act_318 : decode cL_act 318 = .ok (.iconst 5, 1) := by decide +kernel
theorem dL_act_319 : decode cL_act 319 = .ok (.ishr, 1) := by decide +kernel
theorem dL_act_320 : decode cL_act 320 = .ok (.iconst 2, 1) := by decide +kernel
theorem dL_act_321 : decode cL_act 321 = .ok (.invokestatic 59, 3) := by decide +kernel
theorem dL_act_324 : decode cL_act 324 = .ok (.ifCond .ne 7, 3) := by decide +kernel
theorem dL_act_327 : decode cL_act 327 = .ok (.iconst 1, 1) := by decide +kernel
theorem dL_act_328 : decode cL_act 328 = .ok (.goto 4, 3) := by decide +kernel
theorem dL_act_331 : decode cL_act 331 = .ok (.iconst 0, 1) := by decide +kernel
theorem dL_act_332 : decode cL_act 332 = .ok (.invokevirtual 119, 3) := by decide +kernel
theorem dL_act_335 : decode cL_act 335 = .ok (.ifCond .eq 7, 3) := by decide +kernel
theorem dL_act_338 : decode cL_act 338 = .ok (.iconst 1, 1) := by decide +kernel
theorem dL_act_339 : decode cL_act 339 = .ok (.goto 4, 3) := by decide +kernel
theorem dL_act_342 : decode cL_act 342 = .ok (.iconst 0, 1) := by decide +kernel
theorem dL_act_343 : decode cL_act 343 = .ok (.ireturn, 1) := by decide +kernel
theorem dL_act_344 : decode cL_act 344 = .ok (.iload_n 2, 1) := by decide +kernel
theorem dL_act_345 : decode cL_act 345 = .ok (.iconst 3, 1) := by decide +kernel
theorem dL_act_346 : decode cL_act 346 = .ok (.invokestatic 59, 3) := by decide +kernel
theorem dL_act_349 : decode cL_act 349 = .ok (.istore 6, 2) := by decide +kernel
theorem dL_act_351 : decode cL_act 351 = .ok (.aload_n 0, 1) := by decide +kernel
theorem dL_act_352 : decode cL_act 352 = .ok (.iload 6, 2) := by decide +kernel
theorem dL_act_354 : decode cL_act 354 = .ok (.iload_n 2, 1) := by decide +kernel
theorem dL_act_355 : decode cL_act 355 = .ok (.iconst 2, 1) := by decide +kernel
theorem dL_act_356 : decode cL_act 356 = .ok (.ishr, 1) := by decide +kernel
theorem dL_act_357 : decode cL_act 357 = .ok (.iload 6, 2) := by decide +kernel
theorem dL_act_359 : decode cL_act 359 = .ok (.ifCond .ne 9, 3) := by decide +kernel
theorem dL_act_362 : decode cL_act 362 = .ok (.sipush 900, 3) := by decide +kernel
theorem dL_act_365 : decode cL_act 365 = .ok (.goto 5, 3) := by decide +kernel
theorem dL_act_368 : decode cL_act 368 = .ok (.bipush 12, 2) := by decide +kernel
theorem dL_act_370 : decode cL_act 370 = .ok (.invokestatic 59, 3) := by decide +kernel
theorem dL_act_373 : decode cL_act 373 = .ok (.iload_n 2, 1) := by decide +kernel
theorem dL_act_374 : decode cL_act 374 = .ok (.iconst 5, 1) := by decide +kernel
theorem dL_act_375 : decode cL_act 375 = .ok (.ishr, 1) := by decide +kernel
theorem dL_act_376 : decode cL_act 376 = .ok (.iconst 3, 1) := by decide +kernel
theorem dL_act_377 : decode cL_act 377 = .ok (.invokestatic 59, 3) := by decide +kernel
theorem dL_act_380 : decode cL_act 380 = .ok (.invokestatic 123, 3) := by decide +kernel
theorem dL_act_383 : decode cL_act 383 = .ok (.pop, 1) := by decide +kernel
theorem dL_act_384 : decode cL_act 384 = .ok (.iload_n 2, 1) := by decide +kernel
theorem dL_act_385 : decode cL_act 385 = .ok (.bipush 7, 2) := by decide +kernel
theorem dL_act_387 : decode cL_act 387 = .ok (.ishr, 1) := by decide +kernel
theorem dL_act_388 : decode cL_act 388 = .ok (.iconst 3, 1) := by decide +kernel
theorem dL_act_389 : decode cL_act 389 = .ok (.invokestatic 59, 3) := by decide +kernel
theorem dL_act_392 : decode cL_act 392 = .ok (.ifCond .ne 41, 3) := by decide +kernel
theorem dL_act_395 : decode cL_act 395 = .ok (.aload_n 0, 1) := by decide +kernel
theorem dL_act_396 : decode cL_act 396 = .ok (.iload_n 2, 1) := by decide +kernel
theorem dL_act_397 : decode cL_act 397 = .ok (.iconst 4, 1) := by decide +kernel
theorem dL_act_398 : decode cL_act 398 = .ok (.ishr, 1) := by decide +kernel
theorem dL_act_399 : decode cL_act 399 = .ok (.iconst 3, 1) := by decide +kernel
theorem dL_act_400 : decode cL_act 400 = .ok (.invokestatic 59, 3) := by decide +kernel
theorem dL_act_403 : decode cL_act 403 = .ok (.iload_n 2, 1) := by decide +kernel
theorem dL_act_404 : decode cL_act 404 = .ok (.bipush 6, 2) := by decide +kernel
theorem dL_act_406 : decode cL_act 406 = .ok (.ishr, 1) := by decide +kernel
theorem dL_act_407 : decode cL_act 407 = .ok (.iconst 3, 1) := by decide +kernel
theorem dL_act_408 : decode cL_act 408 = .ok (.invokestatic 59, 3) := by decide +kernel
theorem dL_act_411 : decode cL_act 411 = .ok (.iconst 0, 1) := by decide +kernel
theorem dL_act_412 : decode cL_act 412 = .ok (.invokestatic 123, 3) := by decide +kernel
theorem dL_act_415 : decode cL_act 415 = .ok (.pop, 1) := by decide +kernel
theorem dL_act_416 : decode cL_act 416 = .ok (.aload_n 0, 1) := by decide +kernel
theorem dL_act_417 : decode cL_act 417 = .ok (.iconst 3, 1) := by decide +kernel
theorem dL_act_418 : decode cL_act 418 = .ok (.iload_n 2, 1) := by decide +kernel
theorem dL_act_419 : decode cL_act 419 = .ok (.bipush 8, 2) := by decide +kernel
theorem dL_act_421 : decode cL_act 421 = .ok (.ishr, 1) := by decide +kernel
theorem dL_act_422 : decode cL_act 422 = .ok (.iconst 5, 1) := by decide +kernel
theorem dL_act_423 : decode cL_act 423 = .ok (.invokestatic 59, 3) := by decide +kernel
theorem dL_act_426 : decode cL_act 426 = .ok (.iadd, 1) := by decide +kernel
theorem dL_act_427 : decode cL_act 427 = .ok (.iconst 0, 1) := by decide +kernel
theorem dL_act_428 : decode cL_act 428 = .ok (.iconst 0, 1) := by decide +kernel
theorem dL_act_429 : decode cL_act 429 = .ok (.invokestatic 123, 3) := by decide +kernel
theorem dL_act_432 : decode cL_act 432 = .ok (.pop, 1) := by decide +kernel
theorem dL_act_433 : decode cL_act 433 = .ok (.aload_n 1, 1) := by decide +kernel
theorem dL_act_434 : decode cL_act 434 = .ok (.iload 4, 2) := by decide +kernel
theorem dL_act_436 : decode cL_act 436 = .ok (.iaload, 1) := by decide +kernel
theorem dL_act_437 : decode cL_act 437 = .ok (.bipush 10, 2) := by decide +kernel
theorem dL_act_439 : decode cL_act 439 = .ok (.if_icmp .le 8, 3) := by decide +kernel
theorem dL_act_442 : decode cL_act 442 = .ok (.bipush (-9), 2) := by decide +kernel
theorem dL_act_444 : decode cL_act 444 = .ok (.goto 18, 3) := by decide +kernel
theorem dL_act_447 : decode cL_act 447 = .ok (.aload_n 0, 1) := by decide +kernel
theorem dL_act_448 : decode cL_act 448 = .ok (.iload 4, 2) := by decide +kernel
theorem dL_act_450 : decode cL_act 450 = .ok (.iload_n 2, 1) := by decide +kernel
theorem dL_act_451 : decode cL_act 451 = .ok (.bipush 6, 2) := by decide +kernel
theorem dL_act_453 : decode cL_act 453 = .ok (.ishr, 1) := by decide +kernel
theorem dL_act_454 : decode cL_act 454 = .ok (.bipush 102, 2) := by decide +kernel
theorem dL_act_456 : decode cL_act 456 = .ok (.invokestatic 59, 3) := by decide +kernel
theorem dL_act_459 : decode cL_act 459 = .ok (.invokestatic 126, 3) := by decide +kernel
theorem dL_act_462 : decode cL_act 462 = .ok (.istore 7, 2) := by decide +kernel
theorem dL_act_464 : decode cL_act 464 = .ok (.aload_n 1, 1) := by decide +kernel
theorem dL_act_465 : decode cL_act 465 = .ok (.iload 4, 2) := by decide +kernel
theorem dL_act_467 : decode cL_act 467 = .ok (.dup2, 1) := by decide +kernel
theorem dL_act_468 : decode cL_act 468 = .ok (.iaload, 1) := by decide +kernel
theorem dL_act_469 : decode cL_act 469 = .ok (.iload 7, 2) := by decide +kernel
theorem dL_act_471 : decode cL_act 471 = .ok (.ifCond .ge 7, 3) := by decide +kernel
theorem dL_act_474 : decode cL_act 474 = .ok (.iconst 0, 1) := by decide +kernel
theorem dL_act_475 : decode cL_act 475 = .ok (.goto 4, 3) := by decide +kernel
theorem dL_act_478 : decode cL_act 478 = .ok (.iconst 1, 1) := by decide +kernel
theorem dL_act_479 : decode cL_act 479 = .ok (.iadd, 1) := by decide +kernel
theorem dL_act_480 : decode cL_act 480 = .ok (.iastore, 1) := by decide +kernel
theorem dL_act_481 : decode cL_act 481 = .ok (.bipush (-9), 2) := by decide +kernel
theorem dL_act_483 : decode cL_act 483 = .ok (.ireturn, 1) := by decide +kernel
theorem dL_act_484 : decode cL_act 484 = .ok (.aload_n 1, 1) := by decide +kernel
theorem dL_act_485 : decode cL_act 485 = .ok (.iconst 3, 1) := by decide +kernel
theorem dL_act_486 : decode cL_act 486 = .ok (.iaload, 1) := by decide +kernel
theorem dL_act_487 : decode cL_act 487 = .ok (.iconst 4, 1) := by decide +kernel
theorem dL_act_488 : decode cL_act 488 = .ok (.if_icmp .ne 17, 3) := by decide +kernel
theorem dL_act_491 : decode cL_act 491 = .ok (.aload_n 0, 1) := by decide +kernel
theorem dL_act_492 : decode cL_act 492 = .ok (.iload_n 2, 1) := by decide +kernel
end
section
theorem dL_act_493 : decode cL_act 493 = .ok (.iconst 5, 1) := by decide +kernel
theorem dL_act_494 : decode cL_act 494 = .ok (.invokestatic 59, 3) := by decide +kernel
theorem dL_act_497 : decode cL_act 497 = .ok (.iconst 0, 1) := by decide +kernel
theorem dL_act_498 : decode cL_act 498 = .ok (.iconst 0, 1) := by decide +kernel
theorem dL_act_499 : decode cL_act 499 = .ok (.invokestatic 129, 3) := by decide +kernel
theorem dL_act_502 : decode cL_act 502 = .ok (.goto 49, 3) := by decide +kernel
theorem dL_act_505 : decode cL_act 505 = .ok (.aload_n 1, 1) := by decide +kernel
theorem dL_act_506 : decode cL_act 506 = .ok (.iconst 3, 1) := by decide +kernel
theorem dL_act_507 : decode cL_act 507 = .ok (.iaload, 1) := by decide +kernel
theorem dL_act_508 : decode cL_act 508 = .ok (.ifCond .ge 8, 3) := by decide +kernel
theorem dL_act_511 : decode cL_act 511 = .ok (.bipush (-9), 2) := by decide +kernel
theorem dL_act_513 : decode cL_act 513 = .ok (.goto 38, 3) := by decide +kernel
theorem dL_act_516 : decode cL_act 516 = .ok (.aload_n 1, 1) := by decide +kernel
theorem dL_act_517 : decode cL_act 517 = .ok (.aload_n 0, 1) := by decide +kernel
theorem dL_act_518 : decode cL_act 518 = .ok (.iload_n 2, 1) := by decide +kernel
theorem dL_act_519 : decode cL_act 519 = .ok (.iconst 5, 1) := by decide +kernel
theorem dL_act_520 : decode cL_act 520 = .ok (.invokestatic 59, 3) := by decide +kernel
theorem dL_act_523 : decode cL_act 523 = .ok (.iload_n 2, 1) := by decide +kernel
theorem dL_act_524 : decode cL_act 524 = .ok (.iconst 3, 1) := by decide +kernel
theorem dL_act_525 : decode cL_act 525 = .ok (.ishr, 1) := by decide +kernel
theorem dL_act_526 : decode cL_act 526 = .ok (.aload_n 1, 1) := by decide +kernel
theorem dL_act_527 : decode cL_act 527 = .ok (.iconst 3, 1) := by decide +kernel
theorem dL_act_528 : decode cL_act 528 = .ok (.iaload, 1) := by decide +kernel
theorem dL_act_529 : decode cL_act 529 = .ok (.iconst 1, 1) := by decide +kernel
theorem dL_act_530 : decode cL_act 530 = .ok (.iadd, 1) := by decide +kernel
theorem dL_act_531 : decode cL_act 531 = .ok (.invokestatic 59, 3) := by decide +kernel
theorem dL_act_534 : decode cL_act 534 = .ok (.iload_n 2, 1) := by decide +kernel
theorem dL_act_535 : decode cL_act 535 = .ok (.iconst 5, 1) := by decide +kernel
theorem dL_act_536 : decode cL_act 536 = .ok (.ishr, 1) := by decide +kernel
theorem dL_act_537 : decode cL_act 537 = .ok (.aload_n 1, 1) := by decide +kernel
theorem dL_act_538 : decode cL_act 538 = .ok (.iconst 3, 1) := by decide +kernel
theorem dL_act_539 : decode cL_act 539 = .ok (.iaload, 1) := by decide +kernel
theorem dL_act_540 : decode cL_act 540 = .ok (.iconst 1, 1) := by decide +kernel
theorem dL_act_541 : decode cL_act 541 = .ok (.iadd, 1) := by decide +kernel
theorem dL_act_542 : decode cL_act 542 = .ok (.invokestatic 59, 3) := by decide +kernel
theorem dL_act_545 : decode cL_act 545 = .ok (.invokestatic 129, 3) := by decide +kernel
theorem dL_act_548 : decode cL_act 548 = .ok (.invokestatic 132, 3) := by decide +kernel
theorem dL_act_551 : decode cL_act 551 = .ok (.ireturn, 1) := by decide +kernel
theorem dL_act_552 : decode cL_act 552 = .ok (.aload_n 0, 1) := by decide +kernel
theorem dL_act_553 : decode cL_act 553 = .ok (.iload_n 2, 1) := by decide +kernel
theorem dL_act_554 : decode cL_act 554 = .ok (.iconst 3, 1) := by decide +kernel
theorem dL_act_555 : decode cL_act 555 = .ok (.ishr, 1) := by decide +kernel
theorem dL_act_556 : decode cL_act 556 = .ok (.aload_n 1, 1) := by decide +kernel
theorem dL_act_557 : decode cL_act 557 = .ok (.iconst 3, 1) := by decide +kernel
theorem dL_act_558 : decode cL_act 558 = .ok (.iaload, 1) := by decide +kernel
theorem dL_act_559 : decode cL_act 559 = .ok (.invokestatic 59, 3) := by decide +kernel
theorem dL_act_562 : decode cL_act 562 = .ok (.iload 4, 2) := by decide +kernel
theorem dL_act_564 : decode cL_act 564 = .ok (.iload_n 2, 1) := by decide +kernel
theorem dL_act_565 : decode cL_act 565 = .ok (.iconst 5, 1) := by decide +kernel
theorem dL_act_566 : decode cL_act 566 = .ok (.ishr, 1) := by decide +kernel
theorem dL_act_567 : decode cL_act 567 = .ok (.iconst 3, 1) := by decide +kernel
theorem dL_act_568 : decode cL_act 568 = .ok (.invokestatic 59, 3) := by decide +kernel
theorem dL_act_571 : decode cL_act 571 = .ok (.invokevirtual 136, 3) := by decide +kernel
theorem dL_act_574 : decode cL_act 574 = .ok (.ireturn, 1) := by decide +kernel
theorem dL_act_575 : decode cL_act 575 = .ok (.aload_n 0, 1) := by decide +kernel
theorem dL_act_576 : decode cL_act 576 = .ok (.iload_n 2, 1) := by decide +kernel
theorem dL_act_577 : decode cL_act 577 = .ok (.aload_n 1, 1) := by decide +kernel
theorem dL_act_578 : decode cL_act 578 = .ok (.iconst 0, 1) := by decide +kernel
theorem dL_act_579 : decode cL_act 579 = .ok (.iaload, 1) := by decide +kernel
theorem dL_act_580 : decode cL_act 580 = .ok (.iconst 1, 1) := by decide +kernel
theorem dL_act_581 : decode cL_act 581 = .ok (.iadd, 1) := by decide +kernel
theorem dL_act_582 : decode cL_act 582 = .ok (.invokestatic 59, 3) := by decide +kernel
theorem dL_act_585 : decode cL_act 585 = .ok (.iload_n 2, 1) := by decide +kernel
theorem dL_act_586 : decode cL_act 586 = .ok (.iconst 3, 1) := by decide +kernel
theorem dL_act_587 : decode cL_act 587 = .ok (.ishr, 1) := by decide +kernel
theorem dL_act_588 : decode cL_act 588 = .ok (.aload_n 1, 1) := by decide +kernel
theorem dL_act_589 : decode cL_act 589 = .ok (.iconst 1, 1) := by decide +kernel
theorem dL_act_590 : decode cL_act 590 = .ok (.iaload, 1) := by decide +kernel
theorem dL_act_591 : decode cL_act 591 = .ok (.invokestatic 59, 3) := by decide +kernel
theorem dL_act_594 : decode cL_act 594 = .ok (.iload_n 2, 1) := by decide +kernel
theorem dL_act_595 : decode cL_act 595 = .ok (.iconst 5, 1) := by decide +kernel
theorem dL_act_596 : decode cL_act 596 = .ok (.ishr, 1) := by decide +kernel
theorem dL_act_597 : decode cL_act 597 = .ok (.aload_n 1, 1) := by decide +kernel
theorem dL_act_598 : decode cL_act 598 = .ok (.iconst 2, 1) := by decide +kernel
theorem dL_act_599 : decode cL_act 599 = .ok (.iaload, 1) := by decide +kernel
theorem dL_act_600 : decode cL_act 600 = .ok (.invokestatic 59, 3) := by decide +kernel
theorem dL_act_603 : decode cL_act 603 = .ok (.iload_n 2, 1) := by decide +kernel
theorem dL_act_604 : decode cL_act 604 = .ok (.bipush 7, 2) := by decide +kernel
theorem dL_act_606 : decode cL_act 606 = .ok (.ishr, 1) := by decide +kernel
theorem dL_act_607 : decode cL_act 607 = .ok (.aload_n 1, 1) := by decide +kernel
theorem dL_act_608 : decode cL_act 608 = .ok (.iconst 3, 1) := by decide +kernel
theorem dL_act_609 : decode cL_act 609 = .ok (.iaload, 1) := by decide +kernel
theorem dL_act_610 : decode cL_act 610 = .ok (.invokestatic 59, 3) := by decide +kernel
theorem dL_act_613 : decode cL_act 613 = .ok (.iload_n 2, 1) := by decide +kernel
theorem dL_act_614 : decode cL_act 614 = .ok (.iconst 4, 1) := by decide +kernel
theorem dL_act_615 : decode cL_act 615 = .ok (.ishr, 1) := by decide +kernel
theorem dL_act_616 : decode cL_act 616 = .ok (.sipush 2000, 3) := by decide +kernel
theorem dL_act_619 : decode cL_act 619 = .ok (.invokestatic 59, 3) := by decide +kernel
theorem dL_act_622 : decode cL_act 622 = .ok (.bipush 9, 2) := by decide +kernel
theorem dL_act_624 : decode cL_act 624 = .ok (.isub, 1) := by decide +kernel
theorem dL_act_625 : decode cL_act 625 = .ok (.iload_n 2, 1) := by decide +kernel
theorem dL_act_626 : decode cL_act 626 = .ok (.bipush 8, 2) := by decide +kernel
theorem dL_act_628 : decode cL_act 628 = .ok (.ishr, 1) := by decide +kernel
theorem dL_act_629 : decode cL_act 629 = .ok (.iconst 4, 1) := by decide +kernel
theorem dL_act_630 : decode cL_act 630 = .ok (.invokestatic 59, 3) := by decide +kernel
theorem dL_act_633 : decode cL_act 633 = .ok (.invokestatic 139, 3) := by decide +kernel
theorem dL_act_636 : decode cL_act 636 = .ok (.ireturn, 1) := by decide +kernel
theorem dL_act_637 : decode cL_act 637 = .ok (.iload_n 2, 1) := by decide +kernel
theorem dL_act_638 : decode cL_act 638 = .ok (.iconst 2, 1) := by decide +kernel
theorem dL_act_639 : decode cL_act 639 = .ok (.invokestatic 59, 3) := by decide +kernel
theorem dL_act_642 : decode cL_act 642 = .ok (.ifCond .ne 10, 3) := by decide +kernel
theorem dL_act_645 : decode cL_act 645 = .ok (.aload_n 0, 1) := by decide +kernel
theorem dL_act_646 : decode cL_act 646 = .ok (.invokestatic 143, 3) := by decide +kernel
theorem dL_act_649 : decode cL_act 649 = .ok (.goto 22, 3) := by decide +kernel
theorem dL_act_652 : decode cL_act 652 = .ok (.aload_n 0, 1) := by decide +kernel
theorem dL_act_653 : decode cL_act 653 = .ok (.iload_n 2, 1) := by decide +kernel
theorem dL_act_654 : decode cL_act 654 = .ok (.iconst 2, 1) := by decide +kernel
theorem dL_act_655 : decode cL_act 655 = .ok (.ishr, 1) := by decide +kernel
theorem dL_act_656 : decode cL_act 656 = .ok (.iconst 2, 1) := by decide +kernel
theorem dL_act_657 : decode cL_act 657 = .ok (.invokestatic 59, 3) := by decide +kernel
theorem dL_act_660 : decode cL_act 660 = .ok (.ifCond .ne 7, 3) := by decide +kernel
theorem dL_act_663 : decode cL_act 663 = .ok (.iconst 1, 1) := by decide +kernel
theorem dL_act_664 : decode cL_act 664 = .ok (.goto 4, 3) := by decide +kernel
theorem dL_act_667 : decode cL_act 667 = .ok (.iconst 0, 1) := by decide +kernel
theorem dL_act_668 : decode cL_act 668 = .ok (.invokestatic 147, 3) := by decide +kernel
theorem dL_act_671 : decode cL_act 671 = .ok (.ireturn, 1) := by decide +kernel
theorem dL_act_672 : decode cL_act 672 = .ok (.aload_n 0, 1) := by decide +kernel
theorem dL_act_673 : decode cL_act 673 = .ok (.iload_n 2, 1) := by decide +kernel
theorem dL_act_674 : decode cL_act 674 = .ok (.aload_n 1, 1) := by decide +kernel
theorem dL_act_675 : decode cL_act 675 = .ok (.iconst 0, 1) := by decide +kernel
theorem dL_act_676 : decode cL_act 676 = .ok (.iaload, 1) := by decide +kernel
theorem dL_act_677 : decode cL_act 677 = .ok (.iconst 1, 1) := by decide +kernel
theorem dL_act_678 : decode cL_act 678 = .ok (.iadd, 1) := by decide +kernel
theorem dL_act_679 : decode cL_act 679 = .ok (.invokestatic 59, 3) := by decide +kernel
theorem dL_act_682 : decode cL_act 682 = .ok (.iload_n 2, 1) := by decide +kernel
theorem dL_act_683 : decode cL_act 683 = .ok (.iconst 3, 1) := by decide +kernel
theorem dL_act_684 : decode cL_act 684 = .ok (.ishr, 1) := by decide +kernel
theorem dL_act_685 : decode cL_act 685 = .ok (.aload_n 1, 1) := by decide +kernel
theorem dL_act_686 : decode cL_act 686 = .ok (.iconst 1, 1) := by decide +kernel
theorem dL_act_687 : decode cL_act 687 = .ok (.iaload, 1) := by decide +kernel
theorem dL_act_688 : decode cL_act 688 = .ok (.invokestatic 59, 3) := by decide +kernel
theorem dL_act_691 : decode cL_act 691 = .ok (.iload_n 2, 1) := by decide +kernel
theorem dL_act_692 : decode cL_act 692 = .ok (.iconst 5, 1) := by decide +kernel
theorem dL_act_693 : decode cL_act 693 = .ok (.ishr, 1) := by decide +kernel
theorem dL_act_694 : decode cL_act 694 = .ok (.aload_n 1, 1) := by decide +kernel
theorem dL_act_695 : decode cL_act 695 = .ok (.iconst 2, 1) := by decide +kernel
theorem dL_act_696 : decode cL_act 696 = .ok (.iaload, 1) := by decide +kernel
theorem dL_act_697 : decode cL_act 697 = .ok (.invokestatic 59, 3) := by decide +kernel
theorem dL_act_700 : decode cL_act 700 = .ok (.iload_n 2, 1) := by decide +kernel
theorem dL_act_701 : decode cL_act 701 = .ok (.bipush 7, 2) := by decide +kernel
theorem dL_act_703 : decode cL_act 703 = .ok (.ishr, 1) := by decide +kernel
theorem dL_act_704 : decode cL_act 704 = .ok (.aload_n 1, 1) := by decide +kernel
theorem dL_act_705 : decode cL_act 705 = .ok (.iconst 3, 1) := by decide +kernel
theorem dL_act_706 : decode cL_act 706 = .ok (.iaload, 1) := by decide +kernel
theorem dL_act_707 : decode cL_act 707 = .ok (.iconst 1, 1) := by decide +kernel
theorem dL_act_708 : decode cL_act 708 = .ok (.iadd, 1) := by decide +kernel
theorem dL_act_709 : decode cL_act 709 = .ok (.invokestatic 59, 3) := by decide +kernel
theorem dL_act_712 : decode cL_act 712 = .ok (.iload_n 2, 1) := by decide +kernel
theorem dL_act_713 : decode cL_act 713 = .ok (.iconst 4, 1) := by decide +kernel
theorem dL_act_714 : decode cL_act 714 = .ok (.ishr, 1) := by decide +kernel
theorem dL_act_715 : decode cL_act 715 = .ok (.sipush 3000, 3) := by decide +kernel
theorem dL_act_718 : decode cL_act 718 = .ok (.invokestatic 59, 3) := by decide +kernel
theorem dL_act_721 : decode cL_act 721 = .ok (.sipush 1000, 3) := by decide +kernel
theorem dL_act_724 : decode cL_act 724 = .ok (.isub, 1) := by decide +kernel
theorem dL_act_725 : decode cL_act 725 = .ok (.invokestatic 151, 3) := by decide +kernel
theorem dL_act_728 : decode cL_act 728 = .ok (.ireturn, 1) := by decide +kernel
theorem dL_grow_0 : decode cL_grow 0 = .ok (.aload_n 0, 1) := by decide +kernel
theorem dL_grow_1 : decode cL_grow 1 = .ok (.iconst 3, 1) := by decide +kernel
theorem dL_grow_2 : decode cL_grow 2 = .ok (.dup2, 1) := by decide +kernel
theorem dL_grow_3 : decode cL_grow 3 = .ok (.iaload, 1) := by decide +kernel
theorem dL_grow_4 : decode cL_grow 4 = .ok (.iload_n 1, 1) := by decide +kernel
theorem dL_grow_5 : decode cL_grow 5 = .ok (.ifCond .ge 7, 3) := by decide +kernel
theorem dL_grow_8 : decode cL_grow 8 = .ok (.iconst 0, 1) := by decide +kernel
theorem dL_grow_9 : decode cL_grow 9 = .ok (.goto 4, 3) := by decide +kernel
theorem dL_grow_12 : decode cL_grow 12 = .ok (.iconst 1, 1) := by decide +kernel
theorem dL_grow_13 : decode cL_grow 13 = .ok (.iadd, 1) := by decide +kernel
theorem dL_grow_14 : decode cL_grow 14 = .ok (.iastore, 1) := by decide +kernel
theorem dL_grow_15 : decode cL_grow 15 = .ok (.iload_n 1, 1) := by decide +kernel
theorem dL_grow_16 : decode cL_grow 16 = .ok (.ireturn, 1) := by decide +kernel
theorem dL_law_0 : decode cL_law 0 = .ok (.new 10, 3) := by decide +kernel
theorem dL_law_3 : decode cL_law 3 = .ok (.dup, 1) := by decide +kernel
theorem dL_law_4 : decode cL_law 4 = .ok (.invokespecial 153, 3) := by decide +kernel
theorem dL_law_7 : decode cL_law 7 = .ok (.astore_n 1, 1) := by decide +kernel
theorem dL_law_8 : decode cL_law 8 = .ok (.iconst 5, 1) := by decide +kernel
theorem dL_law_9 : decode cL_law 9 = .ok (.newarray .int, 2) := by decide +kernel
theorem dL_law_11 : decode cL_law 11 = .ok (.astore_n 2, 1) := by decide +kernel
theorem dL_law_12 : decode cL_law 12 = .ok (.iconst 0, 1) := by decide +kernel
theorem dL_law_13 : decode cL_law 13 = .ok (.istore_n 3, 1) := by decide +kernel
theorem dL_law_14 : decode cL_law 14 = .ok (.iload_n 3, 1) := by decide +kernel
theorem dL_law_15 : decode cL_law 15 = .ok (.iconst 3, 1) := by decide +kernel
theorem dL_law_16 : decode cL_law 16 = .ok (.if_icmp .ge 26, 3) := by decide +kernel
theorem dL_law_19 : decode cL_law 19 = .ok (.aload_n 2, 1) := by decide +kernel
theorem dL_law_20 : decode cL_law 20 = .ok (.iload_n 3, 1) := by decide +kernel
theorem dL_law_21 : decode cL_law 21 = .ok (.iconst 2, 1) := by decide +kernel
theorem dL_law_22 : decode cL_law 22 = .ok (.iastore, 1) := by decide +kernel
theorem dL_law_23 : decode cL_law 23 = .ok (.aload_n 1, 1) := by decide +kernel
theorem dL_law_24 : decode cL_law 24 = .ok (.iload_n 3, 1) := by decide +kernel
theorem dL_law_25 : decode cL_law 25 = .ok (.iconst 0, 1) := by decide +kernel
theorem dL_law_26 : decode cL_law 26 = .ok (.iconst 1, 1) := by decide +kernel
theorem dL_law_27 : decode cL_law 27 = .ok (.invokevirtual 9, 3) := by decide +kernel
theorem dL_law_30 : decode cL_law 30 = .ok (.iconst 1, 1) := by decide +kernel
theorem dL_law_31 : decode cL_law 31 = .ok (.if_icmp .eq 5, 3) := by decide +kernel
theorem dL_law_34 : decode cL_law 34 = .ok (.iconst 0, 1) := by decide +kernel
theorem dL_law_35 : decode cL_law 35 = .ok (.ireturn, 1) := by decide +kernel
theorem dL_law_36 : decode cL_law 36 = .ok (.iinc 3 1, 3) := by decide +kernel
theorem dL_law_39 : decode cL_law 39 = .ok (.goto (-25), 3) := by decide +kernel
theorem dL_law_42 : decode cL_law 42 = .ok (.aload_n 2, 1) := by decide +kernel
theorem dL_law_43 : decode cL_law 43 = .ok (.iconst 3, 1) := by decide +kernel
theorem dL_law_44 : decode cL_law 44 = .ok (.iconst 2, 1) := by decide +kernel
theorem dL_law_45 : decode cL_law 45 = .ok (.iastore, 1) := by decide +kernel
theorem dL_law_46 : decode cL_law 46 = .ok (.aload_n 1, 1) := by decide +kernel
theorem dL_law_47 : decode cL_law 47 = .ok (.iconst 0, 1) := by decide +kernel
theorem dL_law_48 : decode cL_law 48 = .ok (.iconst 0, 1) := by decide +kernel
theorem dL_law_49 : decode cL_law 49 = .ok (.iconst 0, 1) := by decide +kernel
theorem dL_law_50 : decode cL_law 50 = .ok (.invokevirtual 35, 3) := by decide +kernel
theorem dL_law_53 : decode cL_law 53 = .ok (.ifCond .ne 14, 3) := by decide +kernel
theorem dL_law_56 : decode cL_law 56 = .ok (.aload_n 1, 1) := by decide +kernel
theorem dL_law_57 : decode cL_law 57 = .ok (.iconst 1, 1) := by decide +kernel
theorem dL_law_58 : decode cL_law 58 = .ok (.iconst 0, 1) := by decide +kernel
theorem dL_law_59 : decode cL_law 59 = .ok (.iconst 0, 1) := by decide +kernel
theorem dL_law_60 : decode cL_law 60 = .ok (.invokevirtual 35, 3) := by decide +kernel
theorem dL_law_63 : decode cL_law 63 = .ok (.iconst 1, 1) := by decide +kernel
theorem dL_law_64 : decode cL_law 64 = .ok (.if_icmp .eq 5, 3) := by decide +kernel
theorem dL_law_67 : decode cL_law 67 = .ok (.iconst 0, 1) := by decide +kernel
theorem dL_law_68 : decode cL_law 68 = .ok (.ireturn, 1) := by decide +kernel
theorem dL_law_69 : decode cL_law 69 = .ok (.iconst 0, 1) := by decide +kernel
theorem dL_law_70 : decode cL_law 70 = .ok (.istore_n 3, 1) := by decide +kernel
theorem dL_law_71 : decode cL_law 71 = .ok (.iload_n 3, 1) := by decide +kernel
theorem dL_law_72 : decode cL_law 72 = .ok (.bipush 36, 2) := by decide +kernel
theorem dL_law_74 : decode cL_law 74 = .ok (.if_icmp .ge 92, 3) := by decide +kernel
theorem dL_law_77 : decode cL_law 77 = .ok (.aload_n 0, 1) := by decide +kernel
theorem dL_law_78 : decode cL_law 78 = .ok (.iconst 2, 1) := by decide +kernel
theorem dL_law_79 : decode cL_law 79 = .ok (.iload_n 3, 1) := by decide +kernel
theorem dL_law_80 : decode cL_law 80 = .ok (.imul, 1) := by decide +kernel
theorem dL_law_81 : decode cL_law 81 = .ok (.invokestatic 154, 3) := by decide +kernel
theorem dL_law_84 : decode cL_law 84 = .ok (.istore 4, 2) := by decide +kernel
theorem dL_law_86 : decode cL_law 86 = .ok (.aload_n 0, 1) := by decide +kernel
theorem dL_law_87 : decode cL_law 87 = .ok (.iconst 2, 1) := by decide +kernel
theorem dL_law_88 : decode cL_law 88 = .ok (.iload_n 3, 1) := by decide +kernel
theorem dL_law_89 : decode cL_law 89 = .ok (.imul, 1) := by decide +kernel
theorem dL_law_90 : decode cL_law 90 = .ok (.iconst 1, 1) := by decide +kernel
theorem dL_law_91 : decode cL_law 91 = .ok (.iadd, 1) := by decide +kernel
theorem dL_law_92 : decode cL_law 92 = .ok (.invokestatic 154, 3) := by decide +kernel
theorem dL_law_95 : decode cL_law 95 = .ok (.istore 5, 2) := by decide +kernel
theorem dL_law_97 : decode cL_law 97 = .ok (.aload_n 1, 1) := by decide +kernel
theorem dL_law_98 : decode cL_law 98 = .ok (.aload_n 2, 1) := by decide +kernel
theorem dL_law_99 : decode cL_law 99 = .ok (.invokestatic 156, 3) := by decide +kernel
theorem dL_law_102 : decode cL_law 102 = .ok (.astore 6, 2) := by decide +kernel
theorem dL_law_104 : decode cL_law 104 = .ok (.aload_n 1, 1) := by decide +kernel
theorem dL_law_105 : decode cL_law 105 = .ok (.aload_n 2, 1) := by decide +kernel
theorem dL_law_106 : decode cL_law 106 = .ok (.iload 5, 2) := by decide +kernel
theorem dL_law_108 : decode cL_law 108 = .ok (.iload 4, 2) := by decide +kernel
theorem dL_law_110 : decode cL_law 110 = .ok (.iconst 3, 1) := by decide +kernel
theorem dL_law_111 : decode cL_law 111 = .ok (.ishr, 1) := by decide +kernel
theorem dL_law_112 : decode cL_law 112 = .ok (.bipush 17, 2) := by decide +kernel
theorem dL_law_114 : decode cL_law 114 = .ok (.invokestatic 59, 3) := by decide +kernel
theorem dL_law_117 : decode cL_law 117 = .ok (.invokestatic 160, 3) := by decide +kernel
theorem dL_law_120 : decode cL_law 120 = .ok (.istore 7, 2) := by decide +kernel
theorem dL_law_122 : decode cL_law 122 = .ok (.iload 7, 2) := by decide +kernel
theorem dL_law_124 : decode cL_law 124 = .ok (.iconst (-1), 1) := by decide +kernel
theorem dL_law_125 : decode cL_law 125 = .ok (.if_icmp .ge 23, 3) := by decide +kernel
theorem dL_law_128 : decode cL_law 128 = .ok (.iload 7, 2) := by decide +kernel
theorem dL_law_130 : decode cL_law 130 = .ok (.bipush (-9), 2) := by decide +kernel
theorem dL_law_132 : decode cL_law 132 = .ok (.if_icmp .le 16, 3) := by decide +kernel
theorem dL_law_135 : decode cL_law 135 = .ok (.aload 6, 2) := by decide +kernel
theorem dL_law_137 : decode cL_law 137 = .ok (.aload_n 1, 1) := by decide +kernel
theorem dL_law_138 : decode cL_law 138 = .ok (.aload_n 2, 1) := by decide +kernel
theorem dL_law_139 : decode cL_law 139 = .ok (.invokestatic 156, 3) := by decide +kernel
theorem dL_law_142 : decode cL_law 142 = .ok (.invokestatic 164, 3) := by decide +kernel
theorem dL_law_145 : decode cL_law 145 = .ok (.ifCond .eq 13, 3) := by decide +kernel
theorem dL_law_148 : decode cL_law 148 = .ok (.aload_n 1, 1) := by decide +kernel
theorem dL_law_149 : decode cL_law 149 = .ok (.aload_n 2, 1) := by decide +kernel
theorem dL_law_150 : decode cL_law 150 = .ok (.iload 4, 2) := by decide +kernel
theorem dL_law_152 : decode cL_law 152 = .ok (.invokestatic 168, 3) := by decide +kernel
theorem dL_law_155 : decode cL_law 155 = .ok (.ifCond .ne 5, 3) := by decide +kernel
theorem dL_law_158 : decode cL_law 158 = .ok (.iconst 0, 1) := by decide +kernel
theorem dL_law_159 : decode cL_law 159 = .ok (.ireturn, 1) := by decide +kernel
theorem dL_law_160 : decode cL_law 160 = .ok (.iinc 3 1, 3) := by decide +kernel
theorem dL_law_163 : decode cL_law 163 = .ok (.goto (-92), 3) := by decide +kernel
theorem dL_law_166 : decode cL_law 166 = .ok (.aload_n 1, 1) := by decide +kernel
theorem dL_law_167 : decode cL_law 167 = .ok (.iconst 3, 1) := by decide +kernel
theorem dL_law_168 : decode cL_law 168 = .ok (.iconst 0, 1) := by decide +kernel
theorem dL_law_169 : decode cL_law 169 = .ok (.iconst 1, 1) := by decide +kernel
theorem dL_law_170 : decode cL_law 170 = .ok (.invokestatic 100, 3) := by decide +kernel
theorem dL_law_173 : decode cL_law 173 = .ok (.bipush (-2), 2) := by decide +kernel
theorem dL_law_175 : decode cL_law 175 = .ok (.if_icmp .ne 98, 3) := by decide +kernel
theorem dL_law_178 : decode cL_law 178 = .ok (.aload_n 1, 1) := by decide +kernel
theorem dL_law_179 : decode cL_law 179 = .ok (.iconst 0, 1) := by decide +kernel
theorem dL_law_180 : decode cL_law 180 = .ok (.iconst 0, 1) := by decide +kernel
theorem dL_law_181 : decode cL_law 181 = .ok (.invokestatic 104, 3) := by decide +kernel
theorem dL_law_184 : decode cL_law 184 = .ok (.bipush (-3), 2) := by decide +kernel
theorem dL_law_186 : decode cL_law 186 = .ok (.if_icmp .ne 87, 3) := by decide +kernel
theorem dL_law_189 : decode cL_law 189 = .ok (.aload_n 1, 1) := by decide +kernel
theorem dL_law_190 : decode cL_law 190 = .ok (.iconst 4, 1) := by decide +kernel
theorem dL_law_191 : decode cL_law 191 = .ok (.iconst 0, 1) := by decide +kernel
theorem dL_law_192 : decode cL_law 192 = .ok (.iconst 0, 1) := by decide +kernel
theorem dL_law_193 : decode cL_law 193 = .ok (.invokestatic 129, 3) := by decide +kernel
theorem dL_law_196 : decode cL_law 196 = .ok (.bipush (-3), 2) := by decide +kernel
theorem dL_law_198 : decode cL_law 198 = .ok (.if_icmp .ne 75, 3) := by decide +kernel
theorem dL_law_201 : decode cL_law 201 = .ok (.aload_n 1, 1) := by decide +kernel
theorem dL_law_202 : decode cL_law 202 = .ok (.bipush 7, 2) := by decide +kernel
theorem dL_law_204 : decode cL_law 204 = .ok (.iconst 0, 1) := by decide +kernel
theorem dL_law_205 : decode cL_law 205 = .ok (.iconst 0, 1) := by decide +kernel
theorem dL_law_206 : decode cL_law 206 = .ok (.invokestatic 123, 3) := by decide +kernel
theorem dL_law_209 : decode cL_law 209 = .ok (.bipush (-3), 2) := by decide +kernel
theorem dL_law_211 : decode cL_law 211 = .ok (.if_icmp .ne 62, 3) := by decide +kernel
theorem dL_law_214 : decode cL_law 214 = .ok (.aload_n 1, 1) := by decide +kernel
theorem dL_law_215 : decode cL_law 215 = .ok (.bipush 12, 2) := by decide +kernel
theorem dL_law_217 : decode cL_law 217 = .ok (.iconst 0, 1) := by decide +kernel
theorem dL_law_218 : decode cL_law 218 = .ok (.iconst 0, 1) := by decide +kernel
theorem dL_law_219 : decode cL_law 219 = .ok (.iconst 0, 1) := by decide +kernel
theorem dL_law_220 : decode cL_law 220 = .ok (.iconst 0, 1) := by decide +kernel
theorem dL_law_221 : decode cL_law 221 = .ok (.invokestatic 151, 3) := by decide +kernel
theorem dL_law_224 : decode cL_law 224 = .ok (.bipush (-2), 2) := by decide +kernel
theorem dL_law_226 : decode cL_law 226 = .ok (.if_icmp .ne 47, 3) := by decide +kernel
theorem dL_law_229 : decode cL_law 229 = .ok (.aload_n 1, 1) := by decide +kernel
theorem dL_law_230 : decode cL_law 230 = .ok (.iconst 0, 1) := by decide +kernel
theorem dL_law_231 : decode cL_law 231 = .ok (.iconst 3, 1) := by decide +kernel
theorem dL_law_232 : decode cL_law 232 = .ok (.iconst 0, 1) := by decide +kernel
theorem dL_law_233 : decode cL_law 233 = .ok (.iconst 0, 1) := by decide +kernel
theorem dL_law_234 : decode cL_law 234 = .ok (.iconst 0, 1) := by decide +kernel
theorem dL_law_235 : decode cL_law 235 = .ok (.invokestatic 88, 3) := by decide +kernel
theorem dL_law_238 : decode cL_law 238 = .ok (.bipush (-3), 2) := by decide +kernel
theorem dL_law_240 : decode cL_law 240 = .ok (.if_icmp .ne 33, 3) := by decide +kernel
theorem dL_law_243 : decode cL_law 243 = .ok (.aload_n 1, 1) := by decide +kernel
theorem dL_law_244 : decode cL_law 244 = .ok (.iconst 0, 1) := by decide +kernel
theorem dL_law_245 : decode cL_law 245 = .ok (.iconst 2, 1) := by decide +kernel
theorem dL_law_246 : decode cL_law 246 = .ok (.bipush 12, 2) := by decide +kernel
theorem dL_law_248 : decode cL_law 248 = .ok (.iconst 0, 1) := by decide +kernel
theorem dL_law_249 : decode cL_law 249 = .ok (.iconst 0, 1) := by decide +kernel
theorem dL_law_250 : decode cL_law 250 = .ok (.invokestatic 88, 3) := by decide +kernel
theorem dL_law_253 : decode cL_law 253 = .ok (.bipush (-3), 2) := by decide +kernel
theorem dL_law_255 : decode cL_law 255 = .ok (.if_icmp .ne 18, 3) := by decide +kernel
theorem dL_law_258 : decode cL_law 258 = .ok (.aload_n 1, 1) := by decide +kernel
theorem dL_law_259 : decode cL_law 259 = .ok (.iconst 3, 1) := by decide +kernel
theorem dL_law_260 : decode cL_law 260 = .ok (.iconst 0, 1) := by decide +kernel
theorem dL_law_261 : decode cL_law 261 = .ok (.invokestatic 126, 3) := by decide +kernel
theorem dL_law_264 : decode cL_law 264 = .ok (.bipush (-2), 2) := by decide +kernel
theorem dL_law_266 : decode cL_law 266 = .ok (.if_icmp .ne 7, 3) := by decide +kernel
theorem dL_law_269 : decode cL_law 269 = .ok (.iconst 1, 1) := by decide +kernel
theorem dL_law_270 : decode cL_law 270 = .ok (.goto 4, 3) := by decide +kernel
theorem dL_law_273 : decode cL_law 273 = .ok (.iconst 0, 1) := by decide +kernel
theorem dL_law_274 : decode cL_law 274 = .ok (.ireturn, 1) := by decide +kernel
end
section
/-! the shapes of the cells: kinds (classes 0..10, int[] 12, long[] 13, boolean[] 14, Formula[] 15, int[][] 16), lengths, types of the slots; none at 130..170; Formulas from 171 on, four cells each; int[60] of the law's from 1048576 on -/
def zKinds : List Nat := [10, 7, 0, 5, 12, 12, 12, 12, 12, 12, 12, 12, 14, 15, 12, 12, 12, 14, 16, 12, 12, 12, 12, 12, 12, 12, 12, 12, 12, 12, 12, 12, 0, 5, 12, 12, 12, 12, 12, 12, 12, 12, 14, 15, 12, 12, 12, 14, 16, 12, 12, 12, 12, 12, 12, 12, 12, 12, 12, 12, 12, 12, 0, 5, 12, 12, 12, 12, 12, 12, 12, 12, 14, 15, 12, 12, 12, 14, 16, 12, 12, 12, 12, 12, 12, 12, 12, 12, 12, 12, 12, 12, 9, 12, 12, 4, 12, 12, 12, 12, 12, 1, 12, 12, 12, 12, 12, 12, 3, 12, 12, 13, 8, 13, 13, 13, 6, 12, 13, 13, 13, 12, 12, 12, 13, 2, 12, 12, 12, 12]
def zLens : List Nat := [0, 0, 0, 0, 10, 10, 10, 12, 12, 12, 12, 12, 12, 12, 12, 12, 12, 12, 13, 144, 144, 144, 144, 144, 144, 144, 144, 144, 144, 144, 144, 144, 0, 0, 10, 10, 10, 12, 12, 12, 12, 12, 12, 12, 12, 12, 12, 12, 13, 144, 144, 144, 144, 144, 144, 144, 144, 144, 144, 144, 144, 144, 0, 0, 10, 10, 10, 12, 12, 12, 12, 12, 12, 12, 12, 12, 12, 12, 13, 144, 144, 144, 144, 144, 144, 144, 144, 144, 144, 144, 144, 144, 0, 12, 12, 0, 4, 4, 4, 4, 12, 0, 50, 50, 50, 50, 50, 50, 0, 20, 20, 20, 0, 50, 50, 50, 0, 1728, 1728, 410, 4, 50, 50, 50, 12, 0, 10, 10, 10, 5]
def zFld (k : Nat) : List (Nat × Int) := match k with
  | 0 => [(0, 0), (0, 0), (0, 0), (4, 1), (4, 5), (4, 6), (4, 7), (4, 8), (4, 9), (4, 10), (4, 11), (4, 12), (4, 13), (4, 14), (4, 15), (4, 16)]
  | 1 => [(0, 0), (0, 0), (2, 0), (4, 1), (4, 2), (4, 3), (4, 4), (4, 5), (4, 6)]
  | 2 => [(0, 0), (0, 0), (4, 1), (4, 2), (4, 3)]
  | 3 => [(0, 0), (0, 0), (4, 1), (4, 2), (4, 3)]
  | 4 => [(0, 0), (4, 1), (4, 2), (4, 3), (4, 4), (4, 5)]
  | 5 => [(0, 0), (4, 1), (4, 2), (4, 3)]
  | 6 => [(4, -115), (4, -21), (4, -15), (0, 0), (0, 0), (4, 1), (4, 2), (4, 3), (4, 4), (0, 0), (4, 5), (4, 6), (4, 7), (4, 8)]
  | 7 => [(4, 1), (4, 31), (4, 61), (4, 91), (2, 0), (2, 0)]
  | 8 => [(0, 0), (1, 0), (4, 1), (4, 2), (4, 3)]
  | 9 => [(0, 0), (4, 1), (4, 2)]
  | 10 => [(4, 1), (4, 95), (4, 101), (4, 108), (4, 112), (4, 116), (3, 0)]
  | _ => []
def zTgt (k : Nat) : List (Nat × Nat) := match k with
  | 0 => [(99, 0), (99, 0), (99, 0), (5, 0), (12, 12), (12, 12), (12, 12), (12, 12), (12, 12), (14, 12), (15, 12), (12, 12), (12, 12), (12, 12), (14, 12), (16, 13)]
  | 1 => [(99, 0), (99, 0), (99, 0), (12, 50), (12, 50), (12, 50), (12, 50), (12, 50), (12, 50)]
  | 2 => [(99, 0), (99, 0), (12, 10), (12, 10), (12, 10)]
  | 3 => [(99, 0), (99, 0), (12, 20), (12, 20), (13, 20)]
  | 4 => [(99, 0), (12, 4), (12, 4), (12, 4), (12, 4), (12, 12)]
  | 5 => [(99, 0), (12, 10), (12, 10), (12, 10)]
  | 6 => [(7, 0), (4, 0), (1, 0), (99, 0), (99, 0), (12, 1728), (13, 1728), (13, 410), (13, 4), (99, 0), (12, 50), (12, 50), (12, 50), (13, 12)]
  | 7 => [(0, 0), (0, 0), (0, 0), (9, 0), (99, 0), (99, 0)]
  | 8 => [(99, 0), (99, 0), (13, 50), (13, 50), (13, 50)]
  | 9 => [(99, 0), (12, 12), (12, 12)]
  | 10 => [(7, 0), (4, 0), (1, 0), (3, 0), (8, 0), (6, 0), (99, 0)]
  | _ => []

def sh (p : Nat) : Nat := if p < 130 then zKinds.getD p 99 else if p < 171 then 11 else if 1048576 ≤ p then 12 else if (p - 171) % 4 = 0 then 2 else 12
def ln (p : Nat) : Nat := if p < 130 then zLens.getD p 0 else if p < 171 then 0 else if 1048576 ≤ p then 60 else if (p - 171) % 4 = 0 then 0 else 10
/-- the cell p is there, where n says how many there are: n mod 2^20 with the gap 130..170, n div 2^20 of the law's rows -/
def inn (n p : Nat) : Prop := (p < n % 1048576 ∧ (p < 130 ∨ 171 ≤ p)) ∨ (1048576 ≤ p ∧ p < 1048576 + n / 1048576)
def nle (n m : Nat) : Prop := n % 1048576 ≤ m % 1048576 ∧ n / 1048576 ≤ m / 1048576
theorem nle.refl (n : Nat) : nle n n := ⟨Nat.le_refl _, Nat.le_refl _⟩
theorem nle.trans {a b c : Nat} (h : nle a b) (g : nle b c) : nle a c := ⟨Nat.le_trans h.1 g.1, Nat.le_trans h.2 g.2⟩
theorem inn.mono {n m p : Nat} (h : inn n p) (g : nle n m) : inn m p := by
  unfold inn nle at *
  omega
theorem inn_lt {n p : Nat} (h : inn n p) (hn : n < 1048576) : p < n := by unfold inn at h; omega
theorem inn_of {n p : Nat} (h : p < n) (h1 : p < 130) (hn : n < 1048576) : inn n p := by unfold inn; omega
def Sh (n p k L : Nat) : Prop := inn n p ∧ sh p = k ∧ ln p = L
def nOk (n : Nat) : Prop := ∃ j : Nat, n % 1048576 = 171 + 4 * j
theorem nOk.le {n : Nat} (h : nOk n) : 171 ≤ n % 1048576 := by obtain ⟨j, h⟩ := h; omega
theorem nOk.in {n p : Nat} (h : nOk n) (hp : p < 130) : inn n p := by have := h.le; unfold inn; omega
theorem Sh.of {n p k L : Nat} (hn : nOk n) (h : p < 130) (h1 : sh p = k) (h2 : ln p = L) : Sh n p k L := ⟨hn.in h, h1, h2⟩
theorem Sh.mono {n m p k L : Nat} (h : Sh n p k L) (hm : nle n m) : Sh m p k L := ⟨h.1.mono hm, h.2⟩
def z_okT (p : Nat) : Bool := (List.range (zFld (sh p)).length).all fun j => match (zFld (sh p))[j]?, (zTgt (sh p))[j]? with
  | some (4, o), some (k, L) => decide (0 ≤ (p : Int) + o) && (decide (((p : Int) + o).toNat < 130) && (decide (sh ((p : Int) + o).toNat = k) && decide (ln ((p : Int) + o).toNat = L)))
  | some (4, _), none => false
  | _, _ => true
theorem z_okT_all : (List.range 130).all z_okT = true := by decide +kernel
theorem sh_gap {p : Nat} (h : ¬ p < 130) (h2 : p < 171) : sh p = 11 := by unfold sh; rw [if_neg h, if_pos h2]
theorem sh_big {p : Nat} (h : 1048576 ≤ p) : sh p = 12 ∧ ln p = 60 := by
  unfold sh ln
  rw [if_neg (show ¬ p < 130 by omega), if_neg (show ¬ p < 171 by omega), if_pos h, if_neg (show ¬ p < 130 by omega), if_neg (show ¬ p < 171 by omega), if_pos h]
  exact ⟨rfl, rfl⟩
theorem sh_fm {p : Nat} (h : 171 ≤ p) (h2 : p < 1048576) : sh p = (if (p - 171) % 4 = 0 then 2 else 12) ∧ ln p = (if (p - 171) % 4 = 0 then 0 else 10) := by
  unfold sh ln
  rw [if_neg (show ¬ p < 130 by omega), if_neg (show ¬ p < 171 by omega), if_neg (show ¬ 1048576 ≤ p by omega), if_neg (show ¬ p < 130 by omega), if_neg (show ¬ p < 171 by omega), if_neg (show ¬ 1048576 ≤ p by omega)]
  exact ⟨rfl, rfl⟩
theorem Sh.tgt {n p k L j k' L' P' : Nat} {o : Int} (hn : nOk n) (h : Sh n p k L) (h1 : (zFld k)[j]? = some (4, o)) (h2 : (zTgt k)[j]? = some (k', L')) (hP : (P' : Int) = p + o) : Sh n P' k' L' := by
  obtain ⟨hp, rfl, rfl⟩ := h
  by_cases hl : p < 130
  · have h3 := List.all_eq_true.mp z_okT_all p (List.mem_range.mpr hl)
    unfold z_okT at h3
    have hj : j < (zFld (sh p)).length := (List.getElem?_eq_some_iff.mp h1).1
    have h4 := List.all_eq_true.mp h3 j (List.mem_range.mpr hj)
    rw [h1, h2] at h4
    simp only [Bool.and_eq_true, decide_eq_true_eq] at h4
    have e : ((p : Int) + o).toNat = P' := by omega
    rw [e] at h4
    exact ⟨hn.in h4.2.1, h4.2.2.1, h4.2.2.2⟩
  · by_cases hg : p < 171
    · rw [sh_gap hl hg] at h1
      simp [zFld] at h1
    · by_cases hb : 1048576 ≤ p
      · rw [(sh_big hb).1] at h1
        simp [zFld] at h1
      · have hf := sh_fm (p := p) (by omega) (by omega)
        obtain ⟨i, hi⟩ := hn
        have hpn : p < n % 1048576 := by unfold inn at hp; omega
        by_cases hm2 : (p - 171) % 4 = 0
        · rw [if_pos hm2] at hf
          rw [hf.1] at h1 h2
          have hj : j < 5 := (List.getElem?_eq_some_iff.mp h1).1
          have key : ∀ d : Nat, 1 ≤ d → d ≤ 3 → (P' : Int) = p + d → Sh n P' 12 10 := by
            intro d d1 d3 hd
            have hP2 : P' = p + d := by omega
            subst hP2
            have g := sh_fm (p := p + d) (by omega) (by omega)
            rw [if_neg (by omega), if_neg (by omega)] at g
            exact ⟨by unfold inn; omega, g.1, g.2⟩
          match j, hj with
          | 0, _ => cases h1
          | 1, _ => cases h1
          | 2, _ => cases h1; cases h2; exact key 1 (by omega) (by omega) hP
          | 3, _ => cases h1; cases h2; exact key 2 (by omega) (by omega) hP
          | 4, _ => cases h1; cases h2; exact key 3 (by omega) (by omega) hP
        · rw [if_neg hm2] at hf
          rw [hf.1] at h1
          simp [zFld] at h1
def z_okR (p : Nat) : Bool := !(decide (sh p = 16)) || (List.range 13).all fun i => decide (p + 1 + i < 130) && (decide (sh (p + 1 + i) = 12) && decide (ln (p + 1 + i) = 144))
theorem z_okR_all : (List.range 130).all z_okR = true := by decide +kernel
theorem sh16 {p : Nat} (h : sh p = 16) : p < 130 := by
  by_cases hl : p < 130
  · exact hl
  · unfold sh at h
    rw [if_neg hl] at h
    split at h
    · cases h
    · split at h
      · cases h
      · split at h <;> cases h
theorem Sh.row {n p i : Nat} (hn : nOk n) (h : Sh n p 16 13) (hi : i < 13) : Sh n (p + 1 + i) 12 144 := by
  obtain ⟨hp, h1, h2⟩ := h
  have hl := sh16 h1
  have h3 := List.all_eq_true.mp z_okR_all p (List.mem_range.mpr hl)
  unfold z_okR at h3
  rw [h1] at h3
  simp only [decide_true, Bool.not_true, Bool.false_or] at h3
  have h4 := List.all_eq_true.mp h3 i (List.mem_range.mpr hi)
  simp only [Bool.and_eq_true, decide_eq_true_eq] at h4
  exact ⟨hn.in h4.1, h4.2.1, h4.2.2⟩
end
section
/-! ===== numbers: a Java int and a Java long as an Int in its range ===== -/
def w32 (x : Int) : Int := (x + 2147483648) % 4294967296 - 2147483648
def w64 (x : Int) : Int := (x + 9223372036854775808) % 18446744073709551616 - 9223372036854775808
def r32 (x : Int) : Prop := -2147483648 ≤ x ∧ x < 2147483648
def r64 (x : Int) : Prop := -9223372036854775808 ≤ x ∧ x < 9223372036854775808
theorem r32_w32 (x : Int) : r32 (w32 x) := by unfold r32 w32; omega
theorem r64_w64 (x : Int) : r64 (w64 x) := by unfold r64 w64; omega
theorem w32_id {x : Int} (h : r32 x) : w32 x = x := by unfold r32 at h; unfold w32; omega
theorem w64_id {x : Int} (h : r64 x) : w64 x = x := by unfold r64 at h; unfold w64; omega
theorem toInt32_of (x : Int) : (Int32.ofInt x).toInt = w32 x := by
  simp [Int32.toInt_ofInt, Int.bmod, w32]
  omega
theorem toInt64_of (x : Int) : (Int64.ofInt x).toInt = w64 x := by
  simp [Int64.toInt_ofInt, Int.bmod, w64]
  omega
theorem toInt32_r {x : Int} (h : r32 x) : (Int32.ofInt x).toInt = x := by rw [toInt32_of, w32_id h]
theorem toInt64_r {x : Int} (h : r64 x) : (Int64.ofInt x).toInt = x := by rw [toInt64_of, w64_id h]
theorem of_w32 (x : Int) : Int32.ofInt (w32 x) = Int32.ofInt x := by
  apply Int32.toInt_inj.mp
  rw [toInt32_of, toInt32_of, w32_id (r32_w32 x)]
theorem of_w64 (x : Int) : Int64.ofInt (w64 x) = Int64.ofInt x := by
  apply Int64.toInt_inj.mp
  rw [toInt64_of, toInt64_of, w64_id (r64_w64 x)]
theorem i_of (x : Int32) : ∃ v : Int, r32 v ∧ x = Int32.ofInt v := ⟨x.toInt, ⟨by have := x.le_toInt; unfold Int32.minValue at *; simpa using this, by have := x.toInt_lt; simpa using this⟩, by simp⟩
theorem i_le {x y : Int} (hx : r32 x) (hy : r32 y) : Int32.ofInt x ≤ Int32.ofInt y ↔ x ≤ y := by rw [Int32.le_iff_toInt_le, toInt32_r hx, toInt32_r hy]
theorem i_lt {x y : Int} (hx : r32 x) (hy : r32 y) : Int32.ofInt x < Int32.ofInt y ↔ x < y := by rw [Int32.lt_iff_toInt_lt, toInt32_r hx, toInt32_r hy]
theorem i_eq {x y : Int} (hx : r32 x) (hy : r32 y) : Int32.ofInt x = Int32.ofInt y ↔ x = y := by rw [← Int32.toInt_inj, toInt32_r hx, toInt32_r hy]
theorem l_le {x y : Int} (hx : r64 x) (hy : r64 y) : Int64.ofInt x ≤ Int64.ofInt y ↔ x ≤ y := by rw [Int64.le_iff_toInt_le, toInt64_r hx, toInt64_r hy]
theorem l_lt {x y : Int} (hx : r64 x) (hy : r64 y) : Int64.ofInt x < Int64.ofInt y ↔ x < y := by rw [Int64.lt_iff_toInt_lt, toInt64_r hx, toInt64_r hy]
theorem l_eq {x y : Int} (hx : r64 x) (hy : r64 y) : Int64.ofInt x = Int64.ofInt y ↔ x = y := by rw [← Int64.toInt_inj, toInt64_r hx, toInt64_r hy]
theorem i_add (x y : Int) : Int32.ofInt x + Int32.ofInt y = Int32.ofInt (w32 (x + y)) := by rw [of_w32]; exact (Int32.ofInt_add x y).symm
theorem i_sub (x y : Int) : Int32.ofInt x - Int32.ofInt y = Int32.ofInt (w32 (x - y)) := by rw [of_w32]; exact (Int32.ofInt_sub x y).symm
theorem i_mul (x y : Int) : Int32.ofInt x * Int32.ofInt y = Int32.ofInt (w32 (x * y)) := by rw [of_w32]; exact (Int32.ofInt_mul x y).symm
theorem l_add (x y : Int) : Int64.ofInt x + Int64.ofInt y = Int64.ofInt (w64 (x + y)) := by rw [of_w64]; exact (Int64.ofInt_add x y).symm
theorem l_sub (x y : Int) : Int64.ofInt x - Int64.ofInt y = Int64.ofInt (w64 (x - y)) := by rw [of_w64]; exact (Int64.ofInt_sub x y).symm
theorem l_mul (x y : Int) : Int64.ofInt x * Int64.ofInt y = Int64.ofInt (w64 (x * y)) := by rw [of_w64]; exact (Int64.ofInt_mul x y).symm
theorem l_neg (x : Int) : -Int64.ofInt x = Int64.ofInt (w64 (-x)) := by rw [of_w64]; exact (Int64.ofInt_neg x).symm
def idiv (x y : Int) : Int := w32 (x.tdiv y)
def irem (x y : Int) : Int := w32 (x - idiv x y * y)
def ldiv (x y : Int) : Int := w64 (x.tdiv y)
def lrem (x y : Int) : Int := w64 (x - ldiv x y * y)
def iand (x y : Int) : Int := (Int32.ofInt x &&& Int32.ofInt y).toInt
def ior (x y : Int) : Int := (Int32.ofInt x ||| Int32.ofInt y).toInt
def ishl (x y : Int) : Int := (Int32.ofInt x <<< (Int32.ofInt y &&& 31)).toInt
def ishr (x y : Int) : Int := (Int32.ofInt x >>> (Int32.ofInt y &&& 31)).toInt
theorem of_toInt32 (x : Int32) : Int32.ofInt x.toInt = x := by simp
theorem r32_toInt (x : Int32) : r32 x.toInt := by
  have h1 := x.le_toInt
  have h2 := x.toInt_lt
  unfold r32
  simp at h1 h2
  omega
theorem i_div {x y : Int} (hx : r32 x) (hy : r32 y) : Int32.ofInt x / Int32.ofInt y = Int32.ofInt (idiv x y) := by
  apply Int32.toInt_inj.mp
  rw [Int32.toInt_div, toInt32_r hx, toInt32_r hy, idiv, toInt32_of, w32_id (r32_w32 _)]
  unfold w32 Int.bmod
  simp
  omega
theorem l_div {x y : Int} (hx : r64 x) (hy : r64 y) : Int64.ofInt x / Int64.ofInt y = Int64.ofInt (ldiv x y) := by
  apply Int64.toInt_inj.mp
  rw [Int64.toInt_div, toInt64_r hx, toInt64_r hy, ldiv, toInt64_of, w64_id (r64_w64 _)]
  unfold w64 Int.bmod
  simp
  omega
theorem r32_c {x : Int} (h : (decide (-2147483648 ≤ x) && decide (x < 2147483648)) = true) : r32 x := by simpa [r32] using h
theorem r64_c {x : Int} (h : (decide (-9223372036854775808 ≤ x) && decide (x < 9223372036854775808)) = true) : r64 x := by simpa [r64] using h
theorem i_ne0 {y : Int} (hy : r32 y) (h : y ≠ 0) : ¬ Int32.ofInt y = 0 := fun e => h ((i_eq hy (r32_c rfl)).mp (e.trans (show (0 : Int32) = Int32.ofInt 0 from rfl)))
theorem l_ne0 {y : Int} (hy : r64 y) (h : y ≠ 0) : ¬ Int64.ofInt y = 0 := fun e => h ((l_eq hy (r64_c rfl)).mp (e.trans (show (0 : Int64) = Int64.ofInt 0 from rfl)))
theorem i_in {i : Int} {L : Nat} (hi : 0 ≤ i ∧ i < L) (hL : L < 2147483648) : vp_in (Int32.ofInt i) L := by
  have hr : r32 i := by unfold r32; omega
  exact vp_in_iff.mpr (by rw [toInt32_r hr]; exact hi)
theorem i_cl {i : Int} {L : Nat} (hi : 0 ≤ i ∧ i < L) (hL : L < 2147483648) : ((Int32.ofInt i).toNatClampNeg : Int) = i := by
  have hr : r32 i := by unfold r32; omega
  have h1 : (Int32.ofInt i).toNatClampNeg = (Int32.ofInt i).toInt.toNat := by simp [Int32.toNatClampNeg]
  rw [h1, toInt32_r hr]
  omega
end
section
/-! ===== the world: every cell of the two systems, by its pointer (a number); what it holds, as Ints ===== -/
abbrev Hp : Type := Nat → Int → Int
def hset (σ : Hp) (p : Nat) (i v : Int) : Hp := fun q j => if q = p ∧ j = i then v else σ q j
theorem hset_ne {σ : Hp} {p q : Nat} {i v : Int} (h : q ≠ p) : hset σ p i v q = σ q := by funext j; simp [hset, h]
abbrev Cids : Type := ClassId × ClassId × ClassId × ClassId × ClassId
def rfo (al : Nat → Nat) (x : Int) : Option Nat := if x < 0 then none else some (al x.toNat)
def fvl (al : Nat → Nat) (c : Nat) (x : Int) : Value := match c with
  | 0 => .int (Int32.ofInt x)
  | 1 => .long (Int64.ofInt x)
  | 2 => .int (Int32.ofInt x)
  | _ => va_rf (rfo al x)
def flds (k : Nat) (al : Nat → Nat) (u : Int → Int) : List Value := (List.range (zFld k).length).map fun j => fvl al ((zFld k).getD j (0, 0)).1 (u j)
def cel (al : Nat → Nat) (cs : Cids) (u : Int → Int) (p : Nat) : va_E :=
  if sh p < 12 then .inr (sh p, flds (sh p) al u)
  else if sh p = 13 then .inl (cs.2.1, ln p, .inr (.inl fun j => Int64.ofInt (u j)))
  else if sh p = 14 then .inl (cs.2.2.1, ln p, .inl fun j => Int32.ofInt (u j))
  else if sh p = 15 then .inl (cs.2.2.2.1, ln p, .inr (.inr (.inr (.inr fun j => rfo al (u j)))))
  else if sh p = 16 then .inl (cs.2.2.2.2, ln p, .inr (.inr (.inr (.inr fun j => rfo al (u j)))))
  else .inl (cs.1, ln p, .inl fun j => Int32.ofInt (u j))
/-- the cells that there are, in a row -/
def ptrs (n : Nat) : List Nat := ((List.range (n % 1048576)).filter fun p => decide (p < 130 ∨ 171 ≤ p)) ++ (List.range (n / 1048576)).map fun i => 1048576 + i
theorem ptrs_mem {n p : Nat} : p ∈ ptrs n ↔ inn n p := by
  unfold ptrs inn
  rw [List.mem_append, List.mem_filter, List.mem_range, List.mem_map]
  constructor
  · rintro (⟨h1, h2⟩ | ⟨i, h1, rfl⟩)
    · exact Or.inl ⟨h1, of_decide_eq_true h2⟩
    · exact Or.inr ⟨by omega, by have := List.mem_range.mp h1; omega⟩
  · rintro (⟨h1, h2⟩ | ⟨h1, h2⟩)
    · exact Or.inl ⟨h1, decide_eq_true h2⟩
    · exact Or.inr ⟨p - 1048576, List.mem_range.mpr (by omega), by omega⟩
theorem ptrs_nd (n : Nat) : (ptrs n).Nodup := by
  unfold ptrs
  refine List.nodup_append.mpr ⟨List.nodup_range.sublist List.filter_sublist, ?_, ?_⟩
  · refine List.pairwise_map.mpr ?_
    exact List.nodup_range.imp (fun h => by omega)
  · intro a ha b hb
    have h1 := List.mem_range.mp (List.mem_filter.mp ha).1
    obtain ⟨i, -, rfl⟩ := List.mem_map.mp hb
    have : n % 1048576 < 1048576 := Nat.mod_lt _ (by omega)
    omega
/-- the place of the cell p in that row -/
def ix (n p : Nat) : Nat := (ptrs n).idxOf p
theorem ix_get {n p : Nat} (h : inn n p) : (ptrs n)[ix n p]? = some p := by
  have h1 := List.idxOf_lt_length_of_mem (ptrs_mem.mpr h)
  have h2 := List.getElem_idxOf h1
  exact List.getElem?_eq_some_iff.mpr ⟨h1, h2⟩
theorem ix_of {n k p : Nat} (h : (ptrs n)[k]? = some p) : inn n p ∧ k = ix n p := by
  obtain ⟨h1, h2⟩ := List.getElem?_eq_some_iff.mp h
  refine ⟨ptrs_mem.mp (by rw [← h2]; exact List.getElem_mem h1), ?_⟩
  have := (ptrs_nd n).idxOf_getElem k h1
  unfold ix
  rw [← h2]
  exact this.symm
theorem ix_inj {n p q : Nat} (h : inn n p) (g : inn n q) (e : ix n p = ix n q) : p = q := by
  have h1 := ix_get h
  rw [e, ix_get g] at h1
  exact (Option.some.inj h1).symm
def wsv (al : Nat → Nat) (cs : Cids) (σ : Hp) (n : Nat) : va_W := (ptrs n).map fun p => (al p, cel al cs (σ p) p)
theorem wsv_get {al : Nat → Nat} {cs : Cids} {σ : Hp} {n p : Nat} (h : inn n p) : (wsv al cs σ n)[ix n p]? = some (al p, cel al cs (σ p) p) := by
  unfold wsv
  rw [List.getElem?_map, ix_get h]
  rfl
theorem wsv_of {al : Nat → Nat} {cs : Cids} {σ : Hp} {n k : Nat} {x : Nat × va_E} (h : (wsv al cs σ n)[k]? = some x) : ∃ p, inn n p ∧ k = ix n p ∧ x = (al p, cel al cs (σ p) p) := by
  unfold wsv at h
  rw [List.getElem?_map] at h
  obtain ⟨p, h1, h2⟩ := Option.map_eq_some_iff.mp h
  exact ⟨p, (ix_of h1).1, (ix_of h1).2, h2.symm⟩
theorem wsv_set {al : Nat → Nat} {cs : Cids} {σ σ' : Hp} {n p : Nat} {e : va_E} (hp : inn n p) (he : cel al cs (σ' p) p = e) (ho : ∀ q, q ≠ p → σ' q = σ q) : (wsv al cs σ n).set (ix n p) (al p, e) = wsv al cs σ' n := by
  apply List.ext_getElem?
  intro k
  rw [List.getElem?_set]
  have hl : ∀ σ1 : Hp, (wsv al cs σ1 n).length = (ptrs n).length := fun σ1 => by simp [wsv]
  by_cases hk : k < (ptrs n).length
  · obtain ⟨q, hq⟩ : ∃ q, (ptrs n)[k]? = some q := ⟨_, List.getElem?_eq_getElem hk⟩
    obtain ⟨q1, rfl⟩ := ix_of hq
    rw [wsv_get q1, wsv_get q1]
    by_cases h : p = q
    · subst h
      rw [if_pos rfl, if_pos (by rw [hl]; exact hk), he]
    · rw [if_neg (fun z => h (ix_inj hp q1 z)), ho q (fun z => h z.symm)]
  · have h1 : ∀ σ1 : Hp, (wsv al cs σ1 n)[k]? = none := fun σ1 => List.getElem?_eq_none (by rw [hl]; omega)
    rw [h1, h1]
    split
    · rw [if_neg (by rw [hl]; omega)]
    · rfl
/-- the world, cell by cell -/
theorem wsv_P {D : va_G} {al : Nat → Nat} {cs : Cids} {σ : Hp} {n : Nat} {H : Heap} : va_P D vwCl (wsv al cs σ n) H ↔ ∀ p, inn n p → va_at D vwCl (al p, cel al cs (σ p) p) H :=
  ⟨fun h p hp => h _ _ (wsv_get hp), fun h k x hx => by obtain ⟨p, hp, -, rfl⟩ := wsv_of hx; exact h p hp⟩
theorem wsv_D {A : Nat → Prop} {al : Nat → Nat} {cs : Cids} {σ : Hp} {n : Nat} : va_D A (wsv al cs σ n) ↔ (∀ p q, inn n p → inn n q → al p = al q → p = q) ∧ ∀ p, inn n p → A (al p) := by
  refine ⟨fun h => ⟨fun p q hp hq e => ix_inj hp hq (h.1 _ _ _ _ (wsv_get hp) (wsv_get hq) e), fun p hp => h.2 _ _ (wsv_get hp)⟩, fun h => ⟨fun i j x y hi hj e => ?_, fun k x hx => ?_⟩⟩
  · obtain ⟨p, hp, rfl, rfl⟩ := wsv_of hi
    obtain ⟨q, hq, rfl, rfl⟩ := wsv_of hj
    rw [h.1 p q hp hq e]
  · obtain ⟨p, hp, rfl, rfl⟩ := wsv_of hx
    exact h.2 p hp
theorem flds_len (k : Nat) (al : Nat → Nat) (u : Int → Int) : (flds k al u).length = (zFld k).length := by simp [flds]
theorem flds_get {k : Nat} {al : Nat → Nat} {u : Int → Int} {j c : Nat} {o : Int} (h : (zFld k)[j]? = some (c, o)) : (flds k al u)[j]? = some (fvl al c (u j)) := by
  have hj : j < (zFld k).length := (List.getElem?_eq_some_iff.mp h).1
  unfold flds
  rw [List.getElem?_map, List.getElem?_range hj, Option.map_some]
  rw [List.getD_eq_getElem?_getD, h]
  rfl
theorem flds_set {k : Nat} {al : Nat → Nat} {σ : Hp} {p j c : Nat} {o v : Int} (h : (zFld k)[j]? = some (c, o)) : flds k al (hset σ p j v p) = (flds k al (σ p)).set j (fvl al c v) := by
  have hj : j < (zFld k).length := (List.getElem?_eq_some_iff.mp h).1
  apply List.ext_getElem?
  intro q
  rw [List.getElem?_set, flds_len]
  by_cases hq : q < (zFld k).length
  · obtain ⟨x, hx⟩ : ∃ x, (zFld k)[q]? = some x := ⟨_, List.getElem?_eq_getElem hq⟩
    rw [flds_get (c := x.1) (o := x.2) hx, flds_get (c := x.1) (o := x.2) hx]
    by_cases e : j = q
    · subst e
      rw [if_pos rfl, if_pos hj]
      rw [h] at hx
      cases hx
      simp [hset]
    · rw [if_neg e]
      have e2 : ¬ ((q : Int) = (j : Int)) := by omega
      simp [hset, e2]
  · have h1 : ∀ u : Int → Int, (flds k al u)[q]? = none := fun u => List.getElem?_eq_none (by rw [flds_len]; omega)
    rw [h1, h1]
    split
    · omega
    · rfl
/-- what each cell may hold -/
def fOk (n : Nat) (v : Int) : Prop := v = -1 ∨ ∃ P : Nat, v = (P : Int) ∧ Sh n P 2 0
def tyC (n p c : Nat) (o v : Int) : Prop := match c with
  | 0 => r32 v
  | 1 => r64 v
  | 2 => 0 ≤ v ∧ v ≤ 1
  | 3 => fOk n v
  | _ => v = p + o
def tyA (n p k L : Nat) (i v : Int) : Prop := match k with
  | 13 => r64 v
  | 14 => 0 ≤ v ∧ v ≤ 1
  | 15 => fOk n v
  | 16 => 0 ≤ i → i < L → v = p + 1 + i
  | _ => r32 v
def Ty (n : Nat) (σ : Hp) : Prop := nOk n ∧ (∀ (p k j c : Nat) (o : Int), Sh n p k 0 → (zFld k)[j]? = some (c, o) → tyC n p c o (σ p j)) ∧ ∀ (p k L : Nat) (i : Int), Sh n p k L → 12 ≤ k → tyA n p k L i (σ p i)
theorem zFld_lt {k j c : Nat} {o : Int} (h : (zFld k)[j]? = some (c, o)) : k < 12 := by
  match k with
  | 0 | 1 | 2 | 3 | 4 | 5 | 6 | 7 | 8 | 9 | 10 => omega
  | k + 11 => simp [zFld] at h
theorem Ty.setF {n : Nat} {σ : Hp} {P k j c : Nat} {o v : Int} (hT : Ty n σ) (hs : Sh n P k 0) (hf : (zFld k)[j]? = some (c, o)) (hv : tyC n P c o v) : Ty n (hset σ P j v) := by
  refine ⟨hT.1, fun p k2 j2 c2 o2 h1 h2 => ?_, fun p k2 L i h1 h2 => ?_⟩
  · by_cases e : p = P ∧ (j2 : Int) = j
    · obtain ⟨rfl, e2⟩ := e
      have e3 : j2 = j := by omega
      subst e3
      have e4 : k2 = k := by rw [← h1.2.1, hs.2.1]
      subst e4
      rw [hf] at h2
      cases h2
      simp only [hset, and_self, if_true]
      exact hv
    · simp only [hset, if_neg e]
      exact hT.2.1 p k2 j2 c2 o2 h1 h2
  · have e : p ≠ P := fun z => by
      subst z
      have := zFld_lt hf
      have : k2 = k := by rw [← h1.2.1, hs.2.1]
      omega
    rw [hset_ne e]
    exact hT.2.2 p k2 L i h1 h2
theorem Ty.setA {n : Nat} {σ : Hp} {P k L : Nat} {i v : Int} (hT : Ty n σ) (hs : Sh n P k L) (hk : 12 ≤ k) (hv : tyA n P k L i v) : Ty n (hset σ P i v) := by
  refine ⟨hT.1, fun p k2 j2 c2 o2 h1 h2 => ?_, fun p k2 L2 i2 h1 h2 => ?_⟩
  · have e : p ≠ P := fun z => by
      subst z
      have := zFld_lt h2
      have : k2 = k := by rw [← h1.2.1, hs.2.1]
      omega
    rw [hset_ne e]
    exact hT.2.1 p k2 j2 c2 o2 h1 h2
  · by_cases e : p = P ∧ i2 = i
    · obtain ⟨rfl, rfl⟩ := e
      have e4 : k2 = k := by rw [← h1.2.1, hs.2.1]
      have e5 : L2 = L := by rw [← h1.2.2, hs.2.2]
      subst e4; subst e5
      simp only [hset, and_self, if_true]
      exact hv
    · simp only [hset, if_neg e]
      exact hT.2.2 p k2 L2 i2 h1 h2
/-! ===== the tables' words ===== -/
def lw_good : List Cond := lw_tbl.filter goodWord
theorem good_in {w : Cond} (h : w ∈ lw_good) : GoodIn lw_good [w] := fun w' h' => by
  rw [List.mem_singleton.mp h']
  exact ⟨h, good_of_word (List.mem_filter.mp h).2⟩
def wsG (w : Cond) : List Cond := w :: lw_good
theorem wsG_good {w w' : Cond} (h : w' ∈ lw_good) : GoodIn (wsG w) (wsG w') := fun x hx => by
  rcases List.mem_cons.mp hx with rfl | hx
  · exact ⟨List.mem_cons_of_mem _ h, good_of_word (List.mem_filter.mp h).2⟩
  · exact ⟨List.mem_cons_of_mem _ hx, good_of_word (List.mem_filter.mp hx).2⟩
theorem cls_ok : ∀ (k : Nat) (q : vw_C), vwCl[k]? = some q → ((u_ws q.1 q.2.1 q.2.2).all fun w => decide (w ∈ lw_good)) = true := by
  intro k q h
  match k with
  | 0 => cases h; decide +kernel
  | 1 => cases h; decide +kernel
  | 2 => cases h; decide +kernel
  | 3 => cases h; decide +kernel
  | 4 => cases h; decide +kernel
  | 5 => cases h; decide +kernel
  | 6 => cases h; decide +kernel
  | 7 => cases h; decide +kernel
  | 8 => cases h; decide +kernel
  | 9 => cases h; decide +kernel
  | 10 => cases h; decide +kernel
  | k + 11 => simp [vwCl] at h
theorem cls_in {k : Nat} {q : vw_C} (h : vwCl[k]? = some q) : ∀ w ∈ u_ws q.1 q.2.1 q.2.2, w ∈ lw_good := fun w hw => by
  have h1 := List.all_eq_true.mp (cls_ok k q h) w hw
  exact of_decide_eq_true h1
def zTy (k j : Nat) : FieldType := match k with
  | 0 => tyX0 j
  | 1 => tyX1 j
  | 2 => tyX2 j
  | 3 => tyX3 j
  | 4 => tyX4 j
  | 5 => tyX5 j
  | 6 => tyX6 j
  | 7 => tyX7 j
  | 8 => tyX8 j
  | 9 => tyX9 j
  | 10 => tyX10 j
  | _ => tyX11 j
theorem cls_ty {k : Nat} {q : vw_C} (h : vwCl[k]? = some q) : (∀ j, j < q.2.2 → parseFieldDescriptor (q.2.1 j).2.2.1 = some (zTy k j)) ∧ (∀ a, a < q.2.2 → ∀ b, b < q.2.2 → a ≠ b → (q.2.1 a).2.1 ≠ (q.2.1 b).2.1) ∧ (zFld k).length = q.2.2 := by
  match k with
  | 0 => cases h; exact ⟨tyX0_ok, nmX0, rfl⟩
  | 1 => cases h; exact ⟨tyX1_ok, nmX1, rfl⟩
  | 2 => cases h; exact ⟨tyX2_ok, nmX2, rfl⟩
  | 3 => cases h; exact ⟨tyX3_ok, nmX3, rfl⟩
  | 4 => cases h; exact ⟨tyX4_ok, nmX4, rfl⟩
  | 5 => cases h; exact ⟨tyX5_ok, nmX5, rfl⟩
  | 6 => cases h; exact ⟨tyX6_ok, nmX6, rfl⟩
  | 7 => cases h; exact ⟨tyX7_ok, nmX7, rfl⟩
  | 8 => cases h; exact ⟨tyX8_ok, nmX8, rfl⟩
  | 9 => cases h; exact ⟨tyX9_ok, nmX9, rfl⟩
  | 10 => cases h; exact ⟨tyX10_ok, nmX10, rfl⟩
  | k + 11 => simp [vwCl] at h
end
section
/-! ===== what the tables say beyond the words that travel: in every state ===== -/
def zX (k : Nat) : String := match k with
  | 1 => "java/lang/IndexOutOfBoundsException"
  | 2 => "java/lang/IllegalArgumentException"
  | _ => "java/lang/IllegalStateException"
def zNest : List (String × Nat × MethodName × String) := [("Cubecaller", 11, yX7_init, "Cubecaller"), ("Cubecaller$Dimension", 17, yX5_init, "Cubecaller"), ("Cubecaller", 20, yX4_init, "Cubecaller"), ("Cubecaller", 27, yX1_init, "Cubecaller"), ("Cubecaller", 34, yX3_init, "Cubecaller"), ("Cubecaller", 41, yX8_init, "Cubecaller"), ("Cubecaller", 57, yX2_init, "Cubecaller"), ("Cubecaller$Space", 45, yX10_memberOf, "Cubecaller"), ("Cubecaller$Reckoner", 84, yX10_memberOf, "Cubecaller"), ("Cubecaller$Reckoner", 153, yX10_bounded, "Cubecaller"), ("Cubecaller$Reckoner", 105, yX10_withMember, "Cubecaller")]
def zStr : List (String × Nat × String) := [("Cubecaller", 322, "no such dimension"), ("Cubecaller", 110, "no such member"), ("Cubecaller", 333, "out of range"), ("Cubecaller", 337, "not as things stand"), ("Cubecaller", 131, "it cannot be moved"), ("Cubecaller", 184, "the member 0 cannot be hidden"), ("Cubecaller", 331, "no such measure"), ("Cubecaller", 265, "no such place"), ("Cubecaller", 272, "both dimensions are the same")]
def zNc : List (String × String) := [(zX 2, zX 1), (zX 3, zX 1), (zX 3, zX 2)]
def zSup : List String := ["java/lang/RuntimeException", "java/lang/Exception"]
def zBad : List Cond := (vx_atS RX10 339 (zX 1) zSup ++ (vx_atS RX10 339 (zX 2) zSup ++ vx_atS RX10 339 (zX 3) zSup)).filter (fun w => !goodWord w) ++ [.castable (zX 1) (zX 1), .castable (zX 2) (zX 2), .castable (zX 3) (zX 3)]
def isCPD (w : Cond) : Bool := match w with
  | .castable .. => true
  | .privateMethod _ => true
  | .declares _ => true
  | _ => false
theorem zBad_ok : zBad.all isCPD = true := by decide +kernel
theorem zBad_warm {s U : State} {w : Cond} (hw : isCPD w = true) (hW : s.WarmedH U.vm) (hZ : va_Nw w s) : va_Nw w U := by
  cases w with
  | castable a b => exact va_Nw.warmC hW hZ
  | privateMethod x => exact va_tabs rfl (rfl : (s.setVm U.vm).vm = U.vm) (by rw [Cond.privateMethod_setVm hW.alike]; exact hZ)
  | declares x => exact va_tabs rfl (rfl : (s.setVm U.vm).vm = U.vm) (by rw [Cond.declares_setVm hW.alike]; exact hZ)
  | _ => cases hw
theorem zBad_same {s U : State} {w : Cond} (hw : isCPD w = true) (hv : s.vm = U.vm) (hZ : va_Nw w s) : va_Nw w U := by
  cases w with
  | castable a b => exact va_Nw.same rfl hv hZ
  | privateMethod x => exact va_Nw.same rfl hv hZ
  | declares x => exact va_Nw.same rfl hv hZ
  | _ => cases hw
def ztys (cs : Cids) : List (ClassId × FieldType) := [(cs.1, .int), (cs.2.1, .long), (cs.2.2.1, .boolean), (cs.2.2.2.1, .object RX2), (cs.2.2.2.2, .array .int)]
/-- there are arrays of int[] -/
def zAO (U : State) : Prop := (Cond.arrayOver (.array .int)).before #[] U = true
theorem zAO.moved {u U : State} (hvm : u.vm.Alike U.vm) (h : zAO u) : zAO U := Jvm.Stand.arrayOver_alikeB hvm h
def MF (D : va_G) (cs : Cids) (A : Nat → Prop) (U : State) (H : Heap) : Prop :=
  va_K D vwCl (ztys cs) U ∧ (∀ q ∈ zNest, va_Nw (.methodLinkNest q.1 q.2.1 q.2.2.1 q.2.2.2) U) ∧ (∀ q ∈ zStr, ∃ sa, vk_R q.1 q.2.1 q.2.2 sa U) ∧ (∀ q ∈ zNc, va_Nc q.1 q.2 U) ∧ (∀ w ∈ zBad, va_Nw w U) ∧
  vx_Zq Bundle.tN "UNASSIGNED_STACK" Bundle.steD A U H ∧ vx_Zq Bundle.tN "SUPPRESSED_SENTINEL" Bundle.listD A U H ∧ va_AO RX2 U ∧ zAO U
theorem MF.warm {D : va_G} {cs : Cids} {A : Nat → Prop} {s U : State} {H : Heap} (hW : s.WarmedH U.vm) (h : MF D cs A s H) : MF D cs A U H :=
  ⟨va_K.moved hW.alike h.1, fun q hq => va_Nw.warmM hW (h.2.1 q hq), fun q hq => by obtain ⟨sa, h1⟩ := h.2.2.1 q hq; exact ⟨sa, vk_R.warm hW h1⟩, fun q hq => va_Nc.moved hW.alike (h.2.2.2.1 q hq), fun w hw => zBad_warm (List.all_eq_true.mp zBad_ok w hw) hW (h.2.2.2.2.1 w hw), h.2.2.2.2.2.1.moved hW.alike, h.2.2.2.2.2.2.1.moved hW.alike, va_AO.moved hW.alike h.2.2.2.2.2.2.2.1, zAO.moved hW.alike h.2.2.2.2.2.2.2.2⟩
theorem MF.same {D : va_G} {cs : Cids} {A : Nat → Prop} {s U : State} {H : Heap} (hv : U.vm = s.vm) (h : MF D cs A s H) : MF D cs A U H := by
  have ha : s.vm.Alike U.vm := by rw [hv]; exact Vm.Alike.refl _
  exact ⟨va_K.moved ha h.1, fun q hq => va_Nw.same rfl hv.symm (h.2.1 q hq), fun q hq => by obtain ⟨sa, h1⟩ := h.2.2.1 q hq; exact ⟨sa, vk_R.same hv h1⟩, fun q hq => va_Nc.moved ha (h.2.2.2.1 q hq), fun w hw => zBad_same (List.all_eq_true.mp zBad_ok w hw) hv.symm (h.2.2.2.2.1 w hw), h.2.2.2.2.2.1.moved ha, h.2.2.2.2.2.2.1.moved ha, va_AO.moved ha h.2.2.2.2.2.2.2.1, zAO.moved ha h.2.2.2.2.2.2.2.2⟩
theorem MF.kept {D : va_G} {cs : Cids} {A : Nat → Prop} {s : State} {H H1 : Heap} (hq : ∀ a : Nat, a < H.size → ¬ A a → H1[a]? = H[a]?) (h : MF D cs A s H) : MF D cs A s H1 :=
  ⟨h.1, h.2.1, h.2.2.1, h.2.2.2.1, h.2.2.2.2.1, h.2.2.2.2.2.1.kept hq, h.2.2.2.2.2.2.1.kept hq, h.2.2.2.2.2.2.2⟩
theorem MF.narrow {D : va_G} {cs : Cids} {A B : Nat → Prop} {s : State} {H : Heap} (hq : ∀ q, B q → A q) (h : MF D cs A s H) : MF D cs B s H :=
  ⟨h.1, h.2.1, h.2.2.1, h.2.2.2.1, h.2.2.2.2.1, h.2.2.2.2.2.1.narrow hq, h.2.2.2.2.2.2.1.narrow hq, h.2.2.2.2.2.2.2⟩
def zA (al : Nat → Nat) (n sz : Nat) : Nat → Prop := fun q => (∃ p, inn n p ∧ q = al p) ∨ sz ≤ q
theorem va_D_zA {al : Nat → Nat} {cs : Cids} {σ : Hp} {n sz : Nat} {A : Nat → Prop} (h : va_D A (wsv al cs σ n)) : va_D (zA al n sz) (wsv al cs σ n) := wsv_D.mpr ⟨(wsv_D.mp h).1, fun p hp => Or.inl ⟨p, hp, rfl⟩⟩
theorem va_D_al {al : Nat → Nat} {cs : Cids} {σ : Hp} {n : Nat} {A : Nat → Prop} (h : va_D A (wsv al cs σ n)) : ∀ p, inn n p → A (al p) := (wsv_D.mp h).2
theorem va_D_to {al : Nat → Nat} {cs : Cids} {σ σ' : Hp} {n : Nat} {A : Nat → Prop} (h : va_D A (wsv al cs σ n)) : va_D A (wsv al cs σ' n) := wsv_D.mpr (wsv_D.mp h)
theorem zA_mono {al : Nat → Nat} {n sz : Nat} {A : Nat → Prop} (h : ∀ p, inn n p → A (al p)) (hs : ∀ q : Nat, sz ≤ q → A q) : ∀ q, zA al n sz q → A q := by
  rintro q (⟨p, hp, rfl⟩ | hq)
  · exact h p hp
  · exact hs q hq
end
section
/-! ===== the methods, and what the classes' pools say, as numbers ===== -/
def zOwn (c : Nat) : String := ([RX0, RX1, RX2, RX3, RX4, RX5, RX6, RX7, RX8, RX9, RX10, RX11, RL, "java/lang/Integer", "java/util/Arrays"] : List String).getD c ""
abbrev Mt : Type := Nat × MethodName × ByteArray × Nat × Option FieldType × Nat × List (Nat × Nat × Nat × Nat)
def mtab0 : List Mt := [(10, ⟨"Cubecaller", "<init>", "()V"⟩, prog_1_method_1_code, 1, none, 1, []),
  (7, ⟨"Cubecaller$Space", "<init>", "()V"⟩, prog_9_method_1_code, 1, none, 1, []),
  (0, ⟨"Cubecaller$Dimension", "<init>", "()V"⟩, prog_2_method_1_code, 2, none, 1, []),
  (5, ⟨"Cubecaller$Moves", "<init>", "()V"⟩, prog_7_method_1_code, 1, none, 1, []),
  (9, ⟨"Cubecaller$TimeOrder", "<init>", "()V"⟩, prog_11_method_1_code, 1, none, 1, []),
  (14, ⟨"java/util/Arrays", "fill", "([II)V"⟩, prog_24_method_103_code, 4, none, 2, []),
  (4, ⟨"Cubecaller$Measures", "<init>", "()V"⟩, prog_6_method_1_code, 1, none, 1, []),
  (1, ⟨"Cubecaller$FactRows", "<init>", "()V"⟩, prog_3_method_1_code, 1, none, 1, []),
  (3, ⟨"Cubecaller$KeptResults", "<init>", "()V"⟩, prog_5_method_1_code, 1, none, 1, []),
  (8, ⟨"Cubecaller$Spread", "<init>", "()V"⟩, prog_10_method_1_code, 1, none, 1, []),
  (6, ⟨"Cubecaller$Reckoner", "<init>", "(LCubecaller$Space;LCubecaller$Measures;LCubecaller$FactRows;)V"⟩, prog_8_method_1_code, 4, none, 4, []),
  (2, ⟨"Cubecaller$Formula", "<init>", "()V"⟩, prog_4_method_1_code, 1, none, 1, []),
  (10, ⟨"Cubecaller", "member", "(III)I"⟩, prog_1_method_2_code, 6, some .int, 4, []),
  (10, ⟨"Cubecaller", "existing", "(I)LCubecaller$Dimension;"⟩, prog_1_method_27_code, 2, some (.object "Cubecaller$Dimension"), 2, []),
  (7, ⟨"Cubecaller$Space", "dimension", "(I)LCubecaller$Dimension;"⟩, prog_9_method_2_code, 2, some (.object "Cubecaller$Dimension"), 2, []),
  (10, ⟨"Cubecaller", "needMember", "(LCubecaller$Dimension;I)V"⟩, prog_1_method_28_code, 2, none, 2, []),
  (0, ⟨"Cubecaller$Dimension", "has", "(I)Z"⟩, prog_2_method_2_code, 2, some .boolean, 2, []),
  (10, ⟨"Cubecaller", "needRange", "(III)V"⟩, prog_1_method_30_code, 3, none, 3, []),
  (0, ⟨"Cubecaller$Dimension", "isPlain", "(I)Z"⟩, prog_2_method_4_code, 2, some .boolean, 2, []),
  (10, ⟨"Cubecaller", "need", "(Z)V"⟩, prog_1_method_31_code, 1, none, 1, []),
  (0, ⟨"Cubecaller$Dimension", "addPlain", "(II)I"⟩, prog_2_method_12_code, 4, some .int, 3, []),
  (0, ⟨"Cubecaller$Dimension", "addKind", "(I)I"⟩, prog_2_method_15_code, 2, some .int, 2, []),
  (9, ⟨"Cubecaller$TimeOrder", "insert", "(IILCubecaller$Dimension;)V"⟩, prog_11_method_3_code, 6, none, 4, []),
  (9, ⟨"Cubecaller$TimeOrder", "placeOf", "(I)I"⟩, prog_11_method_2_code, 2, some .int, 2, []),
  (0, ⟨"Cubecaller$Dimension", "depthOf", "(I)I"⟩, prog_2_method_6_code, 2, some .int, 2, []),
  (7, ⟨"Cubecaller$Space", "weigh", "()V"⟩, prog_9_method_4_code, 1, none, 1, []),
  (0, ⟨"Cubecaller$Dimension", "weigh", "(LCubecaller$TimeOrder;)V"⟩, prog_2_method_19_code, 3, none, 2, []),
  (5, ⟨"Cubecaller$Moves", "parentAt", "(IIILCubecaller$TimeOrder;)I"⟩, prog_7_method_3_code, 9, some .int, 5, []),
  (0, ⟨"Cubecaller$Dimension", "settle", "()V"⟩, prog_2_method_17_code, 2, none, 1, []),
  (0, ⟨"Cubecaller$Dimension", "isSeen", "(I)Z"⟩, prog_2_method_9_code, 2, some .boolean, 2, []),
  (0, ⟨"Cubecaller$Dimension", "isBridgeSeen", "(I)Z"⟩, prog_2_method_18_code, 3, some .boolean, 2, []),
  (0, ⟨"Cubecaller$Dimension", "standsFor", "(II)Z"⟩, prog_2_method_10_code, 3, some .boolean, 3, []),
  (0, ⟨"Cubecaller$Dimension", "weighRow", "(IILCubecaller$TimeOrder;)V"⟩, prog_2_method_20_code, 7, none, 4, []),
  (0, ⟨"Cubecaller$Dimension", "weightOver", "(IIII)I"⟩, prog_2_method_21_code, 6, some .int, 5, []),
  (0, ⟨"Cubecaller$Dimension", "weightByBridge", "(III)I"⟩, prog_2_method_22_code, 6, some .int, 4, []),
  (3, ⟨"Cubecaller$KeptResults", "dropAll", "()V"⟩, prog_5_method_9_code, 1, none, 1, []),
  (10, ⟨"Cubecaller", "measure", "(III)I"⟩, prog_1_method_11_code, 5, some .int, 4, []),
  (10, ⟨"Cubecaller", "needMeasure", "(I)V"⟩, prog_1_method_29_code, 2, none, 2, []),
  (4, ⟨"Cubecaller$Measures", "has", "(I)Z"⟩, prog_6_method_2_code, 2, some .boolean, 2, []),
  (4, ⟨"Cubecaller$Measures", "add", "(III)I"⟩, prog_6_method_4_code, 4, some .int, 4, []),
  (12, ⟨"CubecallerLaw", "cell", "([II)I"⟩, method_2_code, 2, some .int, 2, []),
  (12, ⟨"CubecallerLaw", "low", "(II)I"⟩, method_3_code, 2, some .int, 2, []),
  (12, ⟨"CubecallerLaw", "members", "(LCubecaller;III)I"⟩, method_4_code, 5, some .int, 4, [(0, 7, 8, 15), (0, 7, 13, 17), (0, 7, 18, 19)]),
  (12, ⟨"CubecallerLaw", "bridges", "(LCubecaller;II)I"⟩, method_5_code, 4, some .int, 3, [(0, 6, 7, 15), (0, 6, 11, 17), (0, 6, 15, 19)]),
  (10, ⟨"Cubecaller", "bridge", "(II)I"⟩, prog_1_method_3_code, 6, some .int, 3, []),
  (13, ⟨"java/lang/Integer", "bitCount", "(I)I"⟩, prog_18_method_49_code, 1, some .int, 1, []),
  (0, ⟨"Cubecaller$Dimension", "areAllPlain", "(I)Z"⟩, prog_2_method_11_code, 3, some .boolean, 2, []),
  (0, ⟨"Cubecaller$Dimension", "addBridge", "(I)I"⟩, prog_2_method_13_code, 3, some .int, 2, []),
  (12, ⟨"CubecallerLaw", "words", "(LCubecaller;III)I"⟩, method_7_code, 5, some .int, 4, [(0, 7, 8, 17), (0, 7, 13, 19)]),
  (10, ⟨"Cubecaller", "word", "(III)I"⟩, prog_1_method_7_code, 4, some .int, 4, []),
  (2, ⟨"Cubecaller$Formula", "hasRoomFor", "(I)Z"⟩, prog_4_method_2_code, 2, some .boolean, 2, []),
  (2, ⟨"Cubecaller$Formula", "put", "(III)V"⟩, prog_4_method_3_code, 4, none, 4, []),
  (12, ⟨"CubecallerLaw", "calculates", "(LCubecaller;II)I"⟩, method_8_code, 4, some .int, 3, [(0, 6, 7, 15), (0, 6, 11, 17), (0, 6, 15, 19)]),
  (10, ⟨"Cubecaller", "calculate", "(II)I"⟩, prog_1_method_8_code, 5, some .int, 3, []),
  (2, ⟨"Cubecaller$Formula", "looksBeyond", "(I)Z"⟩, prog_4_method_4_code, 3, some .boolean, 2, []),
  (0, ⟨"Cubecaller$Dimension", "addCalculated", "(LCubecaller$Formula;I)I"⟩, prog_2_method_14_code, 4, some .int, 3, []),
  (12, ⟨"CubecallerLaw", "measures", "(LCubecaller;III)I"⟩, method_9_code, 5, some .int, 4, [(0, 7, 8, 15), (0, 7, 13, 17), (0, 7, 18, 19)]),
  (12, ⟨"CubecallerLaw", "facts", "(LCubecaller;IIIII)I"⟩, method_10_code, 7, some .int, 6, [(0, 11, 12, 15), (0, 11, 17, 17), (0, 11, 22, 19)]),
  (10, ⟨"Cubecaller", "fact", "(IIIII)I"⟩, prog_1_method_13_code, 8, some .int, 6, []),
  (10, ⟨"Cubecaller", "existingCell", "(IIII)I"⟩, prog_1_method_32_code, 5, some .int, 5, [])]
def mtab1 : List Mt := [(7, ⟨"Cubecaller$Space", "isPlain", "(I)Z"⟩, prog_9_method_5_code, 2, some .boolean, 2, []),
  (10, ⟨"Cubecaller", "memberOf", "(II)I"⟩, prog_1_method_33_code, 2, some .int, 2, []),
  (4, ⟨"Cubecaller$Measures", "kindOf", "(I)I"⟩, prog_6_method_3_code, 2, some .int, 2, []),
  (1, ⟨"Cubecaller$FactRows", "find", "(II)I"⟩, prog_3_method_3_code, 4, some .int, 3, []),
  (1, ⟨"Cubecaller$FactRows", "add", "(III)V"⟩, prog_3_method_8_code, 4, none, 4, []),
  (10, ⟨"Cubecaller", "dropFor", "(II)V"⟩, prog_1_method_38_code, 8, none, 3, []),
  (3, ⟨"Cubecaller$KeptResults", "cellAt", "(I)I"⟩, prog_5_method_4_code, 2, some .int, 2, []),
  (3, ⟨"Cubecaller$KeptResults", "has", "(I)Z"⟩, prog_5_method_2_code, 2, some .boolean, 2, []),
  (3, ⟨"Cubecaller$KeptResults", "measureAt", "(I)I"⟩, prog_5_method_5_code, 2, some .int, 2, []),
  (4, ⟨"Cubecaller$Measures", "needs", "(II)Z"⟩, prog_6_method_5_code, 3, some .boolean, 3, []),
  (7, ⟨"Cubecaller$Space", "isCalculated", "(I)Z"⟩, prog_9_method_7_code, 2, some .boolean, 2, []),
  (7, ⟨"Cubecaller$Space", "leading", "(I)I"⟩, prog_9_method_8_code, 6, some .int, 2, []),
  (0, ⟨"Cubecaller$Dimension", "orderOf", "(I)I"⟩, prog_2_method_7_code, 2, some .int, 2, []),
  (7, ⟨"Cubecaller$Space", "weight", "(II)I"⟩, prog_9_method_10_code, 6, some .int, 3, []),
  (7, ⟨"Cubecaller$Space", "isSeen", "(I)Z"⟩, prog_9_method_6_code, 2, some .boolean, 2, []),
  (0, ⟨"Cubecaller$Dimension", "weight", "(III)I"⟩, prog_2_method_23_code, 5, some .int, 4, []),
  (3, ⟨"Cubecaller$KeptResults", "shift", "(II)V"⟩, prog_5_method_7_code, 3, none, 3, []),
  (10, ⟨"Cubecaller", "setNumber", "(II)Z"⟩, prog_1_method_36_code, 3, some .boolean, 3, []),
  (1, ⟨"Cubecaller$FactRows", "numberAt", "(I)I"⟩, prog_3_method_6_code, 2, some .int, 2, []),
  (1, ⟨"Cubecaller$FactRows", "has", "(I)Z"⟩, prog_3_method_2_code, 2, some .boolean, 2, []),
  (1, ⟨"Cubecaller$FactRows", "setNumber", "(II)V"⟩, prog_3_method_7_code, 3, none, 3, []),
  (1, ⟨"Cubecaller$FactRows", "cellAt", "(I)I"⟩, prog_3_method_4_code, 2, some .int, 2, []),
  (1, ⟨"Cubecaller$FactRows", "measureAt", "(I)I"⟩, prog_3_method_5_code, 2, some .int, 2, []),
  (12, ⟨"CubecallerLaw", "picks", "(LCubecaller;IIIII)I"⟩, method_12_code, 7, some .int, 6, [(0, 11, 12, 15), (0, 11, 17, 17), (0, 11, 22, 19)]),
  (10, ⟨"Cubecaller", "pick", "(IIIII)I"⟩, prog_1_method_20_code, 7, some .int, 6, []),
  (0, ⟨"Cubecaller$Dimension", "pickAll", "(II)V"⟩, prog_2_method_24_code, 4, none, 3, []),
  (0, ⟨"Cubecaller$Dimension", "isAsked", "(III)Z"⟩, prog_2_method_25_code, 4, some .boolean, 4, []),
  (0, ⟨"Cubecaller$Dimension", "isLeaf", "(I)Z"⟩, prog_2_method_26_code, 3, some .boolean, 2, []),
  (0, ⟨"Cubecaller$Dimension", "parentOf", "(I)I"⟩, prog_2_method_5_code, 2, some .int, 2, []),
  (6, ⟨"Cubecaller$Reckoner", "begins", "(I)V"⟩, prog_8_method_2_code, 2, none, 2, []),
  (6, ⟨"Cubecaller$Reckoner", "keepTop", "(II)V"⟩, prog_8_method_21_code, 11, none, 3, []),
  (0, ⟨"Cubecaller$Dimension", "pickedAt", "(I)I"⟩, prog_2_method_27_code, 2, some .int, 2, []),
  (7, ⟨"Cubecaller$Space", "chosenCell", "()I"⟩, prog_9_method_9_code, 1, some .int, 1, []),
  (10, ⟨"Cubecaller", "withMember", "(III)I"⟩, prog_1_method_34_code, 4, some .int, 3, []),
  (6, ⟨"Cubecaller$Reckoner", "valueOf", "(II)J"⟩, prog_8_method_4_code, 4, some .long, 3, []),
  (6, ⟨"Cubecaller$Reckoner", "plainValue", "(I)J"⟩, prog_8_method_12_code, 3, some .long, 2, []),
  (6, ⟨"Cubecaller$Reckoner", "meansNothing", "(I)Z"⟩, prog_8_method_13_code, 5, some .boolean, 2, []),
  (4, ⟨"Cubecaller$Measures", "leastDepth", "(II)I"⟩, prog_6_method_6_code, 4, some .int, 3, []),
  (6, ⟨"Cubecaller$Reckoner", "gather", "(II)V"⟩, prog_8_method_15_code, 5, none, 3, []),
  (6, ⟨"Cubecaller$Reckoner", "ofGathered", "(I)J"⟩, prog_8_method_14_code, 3, some .long, 2, []),
  (6, ⟨"Cubecaller$Reckoner", "ratio", "(JJ)J"⟩, prog_8_method_11_code, 4, some .long, 2, []),
  (10, ⟨"Cubecaller", "bounded", "(J)J"⟩, prog_1_method_35_code, 2, some .long, 1, []),
  (6, ⟨"Cubecaller$Reckoner", "different", "()J"⟩, prog_8_method_20_code, 5, some .long, 1, []),
  (6, ⟨"Cubecaller$Reckoner", "lastPlace", "()I"⟩, prog_8_method_18_code, 3, some .int, 1, []),
  (6, ⟨"Cubecaller$Reckoner", "sum", "(I)J"⟩, prog_8_method_19_code, 5, some .long, 2, []),
  (6, ⟨"Cubecaller$Reckoner", "formulaValue", "(III)J"⟩, prog_8_method_5_code, 10, some .long, 4, []),
  (0, ⟨"Cubecaller$Dimension", "formulaOf", "(I)LCubecaller$Formula;"⟩, prog_2_method_8_code, 2, some (.object "Cubecaller$Formula"), 2, []),
  (6, ⟨"Cubecaller$Reckoner", "toDate", "(II)J"⟩, prog_8_method_7_code, 8, some .long, 3, []),
  (6, ⟨"Cubecaller$Reckoner", "plus", "(JJI)J"⟩, prog_8_method_9_code, 5, some .long, 3, []),
  (6, ⟨"Cubecaller$Reckoner", "back", "(III)J"⟩, prog_8_method_6_code, 6, some .long, 4, []),
  (9, ⟨"Cubecaller$TimeOrder", "ahead", "(IILCubecaller$Dimension;)I"⟩, prog_11_method_4_code, 6, some .int, 4, []),
  (6, ⟨"Cubecaller$Reckoner", "joined", "(IJJ)J"⟩, prog_8_method_8_code, 5, some .long, 3, []),
  (6, ⟨"Cubecaller$Reckoner", "product", "(JJ)J"⟩, prog_8_method_10_code, 4, some .long, 2, []),
  (6, ⟨"Cubecaller$Reckoner", "rank", "(LCubecaller$Dimension;IIJ)V"⟩, prog_8_method_22_code, 7, none, 5, []),
  (12, ⟨"CubecallerLaw", "tell", "(LCubecaller;[I)[I"⟩, method_15_code, 7, some (.array .int), 2, []),
  (10, ⟨"Cubecaller", "memberAt", "(III)I"⟩, prog_1_method_6_code, 5, some .int, 4, []),
  (0, ⟨"Cubecaller$Dimension", "kindOf", "(I)I"⟩, prog_2_method_3_code, 2, some .int, 2, []),
  (10, ⟨"Cubecaller", "cellAnew", "(IIII)J"⟩, prog_1_method_16_code, 6, some .long, 5, []),
  (6, ⟨"Cubecaller$Reckoner", "asAsked", "(I)J"⟩, prog_8_method_3_code, 2, some .long, 2, []),
  (10, ⟨"Cubecaller", "facts", "()I"⟩, prog_1_method_26_code, 1, some .int, 1, [])]
def mtab2 : List Mt := [(10, ⟨"Cubecaller", "kept", "()I"⟩, prog_1_method_17_code, 1, some .int, 1, []),
  (10, ⟨"Cubecaller", "hits", "()I"⟩, prog_1_method_18_code, 1, some .int, 1, []),
  (12, ⟨"CubecallerLaw", "same", "([I[I)Z"⟩, method_16_code, 3, some .boolean, 2, []),
  (12, ⟨"CubecallerLaw", "asks", "(LCubecaller;[II)Z"⟩, method_17_code, 22, some .boolean, 3, []),
  (10, ⟨"Cubecaller", "cell", "(IIII)J"⟩, prog_1_method_15_code, 9, some .long, 5, []),
  (3, ⟨"Cubecaller$KeptResults", "find", "(II)I"⟩, prog_5_method_3_code, 4, some .int, 3, []),
  (3, ⟨"Cubecaller$KeptResults", "valueAt", "(I)J"⟩, prog_5_method_6_code, 2, some .long, 2, []),
  (3, ⟨"Cubecaller$KeptResults", "keep", "(IIJ)V"⟩, prog_5_method_8_code, 6, none, 4, []),
  (10, ⟨"Cubecaller", "at", "(II)I"⟩, prog_1_method_19_code, 5, some .int, 3, []),
  (10, ⟨"Cubecaller", "picked", "(II)I"⟩, prog_1_method_21_code, 4, some .int, 3, []),
  (10, ⟨"Cubecaller", "cross", "(III)I"⟩, prog_1_method_22_code, 10, some .int, 4, []),
  (12, ⟨"CubecallerLaw", "act", "(LCubecaller;[III)I"⟩, method_18_code, 8, some .int, 4, []),
  (12, ⟨"CubecallerLaw", "moves", "(LCubecaller;IIII)I"⟩, method_6_code, 6, some .int, 5, [(0, 9, 10, 15), (0, 9, 15, 19)]),
  (10, ⟨"Cubecaller", "move", "(IIII)I"⟩, prog_1_method_4_code, 7, some .int, 5, []),
  (7, ⟨"Cubecaller$Space", "movesTold", "()I"⟩, prog_9_method_3_code, 1, some .int, 1, []),
  (5, ⟨"Cubecaller$Moves", "tell", "(III)V"⟩, prog_7_method_2_code, 4, none, 4, []),
  (10, ⟨"Cubecaller", "asNow", "(Z)Z"⟩, prog_1_method_5_code, 3, some .boolean, 2, []),
  (10, ⟨"Cubecaller", "totals", "(Z)Z"⟩, prog_1_method_10_code, 3, some .boolean, 2, []),
  (10, ⟨"Cubecaller", "hide", "(IIZ)Z"⟩, prog_1_method_9_code, 6, some .boolean, 4, []),
  (0, ⟨"Cubecaller$Dimension", "setHidden", "(IZ)Z"⟩, prog_2_method_16_code, 4, some .boolean, 3, []),
  (12, ⟨"CubecallerLaw", "grow", "([II)I"⟩, method_19_code, 2, some .int, 2, []),
  (10, ⟨"Cubecaller", "from", "(III)I"⟩, prog_1_method_12_code, 5, some .int, 4, []),
  (4, ⟨"Cubecaller$Measures", "setLeastDepth", "(III)I"⟩, prog_6_method_7_code, 5, some .int, 4, []),
  (12, ⟨"CubecallerLaw", "writes", "(LCubecaller;IIIIII)I"⟩, method_11_code, 8, some .int, 7, [(0, 13, 14, 15), (0, 13, 19, 17), (0, 13, 24, 19)]),
  (10, ⟨"Cubecaller", "write", "(IIIIII)I"⟩, prog_1_method_23_code, 9, some .int, 7, []),
  (6, ⟨"Cubecaller$Reckoner", "allWeighOne", "()Z"⟩, prog_8_method_17_code, 2, some .boolean, 1, []),
  (8, ⟨"Cubecaller$Spread", "start", "(IJ)V"⟩, prog_10_method_2_code, 4, none, 3, []),
  (6, ⟨"Cubecaller$Reckoner", "rowAt", "(I)I"⟩, prog_8_method_16_code, 2, some .int, 2, []),
  (8, ⟨"Cubecaller$Spread", "own", "(IJ)V"⟩, prog_10_method_3_code, 4, none, 3, []),
  (8, ⟨"Cubecaller$Spread", "share", "(I)V"⟩, prog_10_method_5_code, 6, none, 2, []),
  (8, ⟨"Cubecaller$Spread", "leaveRest", "(J)V"⟩, prog_10_method_7_code, 4, none, 2, []),
  (8, ⟨"Cubecaller$Spread", "byWeights", "(J)V"⟩, prog_10_method_8_code, 7, none, 2, []),
  (8, ⟨"Cubecaller$Spread", "greatestRemainder", "()I"⟩, prog_10_method_9_code, 3, some .int, 1, []),
  (8, ⟨"Cubecaller$Spread", "equally", "()V"⟩, prog_10_method_6_code, 2, none, 1, []),
  (8, ⟨"Cubecaller$Spread", "inRange", "()Z"⟩, prog_10_method_10_code, 2, some .boolean, 1, []),
  (10, ⟨"Cubecaller", "writeShares", "()I"⟩, prog_1_method_37_code, 3, some .int, 1, []),
  (8, ⟨"Cubecaller$Spread", "shareAt", "(I)J"⟩, prog_10_method_4_code, 2, some .long, 2, []),
  (12, ⟨"CubecallerLaw", "begins", "(LCubecaller;)I"⟩, method_14_code, 2, some .int, 1, [(0, 5, 6, 19)]),
  (10, ⟨"Cubecaller", "begin", "()V"⟩, prog_1_method_24_code, 1, none, 1, []),
  (1, ⟨"Cubecaller$FactRows", "save", "()V"⟩, prog_3_method_10_code, 1, none, 1, []),
  (12, ⟨"CubecallerLaw", "ends", "(LCubecaller;Z)I"⟩, method_13_code, 3, some .int, 2, [(0, 5, 6, 19)]),
  (10, ⟨"Cubecaller", "end", "(Z)I"⟩, prog_1_method_25_code, 2, some .int, 2, []),
  (1, ⟨"Cubecaller$FactRows", "restore", "()V"⟩, prog_3_method_11_code, 1, none, 1, []),
  (12, ⟨"CubecallerLaw", "law", "([I)Z"⟩, code, 8, some .boolean, 1, [])]
/-- the law's own method that reads its script -/
def zScr : Nat := 40
def mtab : List Mt := mtab0 ++ (mtab1 ++ (mtab2))
def rFldL : List (Nat × Nat × Nat × Nat) := [(5, 21, 5, 0), (7, 35, 5, 0), (5, 9, 5, 1), (5, 15, 5, 2), (5, 18, 5, 3), (0, 9, 0, 0), (10, 80, 0, 0), (7, 67, 0, 1), (10, 253, 0, 1), (10, 262, 0, 2), (6, 237, 0, 2), (0, 114, 0, 2), (0, 18, 0, 3), (7, 31, 0, 3), (10, 140, 0, 3), (0, 22, 0, 4), (0, 26, 0, 5), (0, 29, 0, 6), (0, 32, 0, 7), (0, 35, 0, 8), (0, 38, 0, 9), (0, 44, 0, 10), (0, 48, 0, 11), (6, 253, 0, 11), (0, 51, 0, 12), (0, 54, 0, 13), (0, 57, 0, 14), (0, 62, 0, 15), (9, 9, 9, 0), (0, 96, 9, 0), (9, 15, 9, 1), (0, 99, 9, 1), (9, 19, 9, 2), (7, 12, 7, 0), (10, 127, 7, 0), (6, 122, 7, 0), (7, 18, 7, 1), (10, 340, 7, 1), (7, 21, 7, 2), (10, 343, 7, 2), (7, 27, 7, 3), (10, 92, 7, 3), (6, 129, 7, 3), (10, 149, 7, 4), (7, 75, 7, 4), (7, 70, 7, 5), (10, 190, 7, 5), (4, 27, 4, 0), (10, 197, 4, 0), (4, 9, 4, 1), (4, 15, 4, 2), (6, 196, 4, 2), (4, 18, 4, 3), (6, 199, 4, 3), (4, 21, 4, 4), (4, 24, 4, 5), (1, 30, 1, 0), (10, 214, 1, 0), (6, 216, 1, 0), (1, 42, 1, 1), (1, 38, 1, 2), (10, 313, 1, 2), (1, 9, 1, 3), (1, 15, 1, 4), (1, 18, 1, 5), (1, 21, 1, 6), (1, 24, 1, 7), (1, 27, 1, 8), (3, 22, 3, 0), (10, 252, 3, 0), (10, 235, 3, 1), (3, 9, 3, 2), (3, 15, 3, 3), (3, 18, 3, 4), (8, 27, 8, 0), (8, 31, 8, 1), (8, 9, 8, 2), (8, 15, 8, 3), (8, 18, 8, 4), (6, 37, 6, 0), (6, 41, 6, 1), (6, 45, 6, 2), (6, 49, 6, 3), (6, 53, 6, 4), (6, 9, 6, 5), (6, 15, 6, 6), (6, 19, 6, 7), (6, 22, 6, 8), (6, 202, 6, 9), (10, 287, 6, 9), (6, 25, 6, 10), (6, 28, 6, 11), (6, 31, 6, 12), (6, 34, 6, 13), (2, 21, 2, 0), (6, 94, 2, 0), (10, 173, 2, 0), (2, 25, 2, 1), (10, 174, 2, 1), (2, 9, 2, 2), (6, 99, 2, 2), (2, 15, 2, 3), (6, 102, 2, 3), (2, 18, 2, 4), (6, 112, 2, 4), (10, 12, 10, 0), (10, 21, 10, 1), (10, 28, 10, 2), (10, 35, 10, 3), (10, 42, 10, 4), (10, 51, 10, 5), (10, 58, 10, 6)]
def rMthL : List (Nat × Nat × Nat × Nat) := [(12, 153, 2, 0), (10, 3, 16, 0), (10, 11, 5, 1), (7, 3, 16, 0), (7, 11, 2, 2), (0, 3, 16, 0), (0, 17, 5, 3), (5, 3, 16, 0), (7, 26, 2, 4), (9, 3, 16, 0), (9, 22, 1, 5), (10, 20, 5, 6), (4, 3, 16, 0), (10, 27, 5, 7), (1, 3, 16, 0), (10, 34, 5, 8), (3, 3, 16, 0), (10, 41, 5, 9), (8, 3, 16, 0), (10, 48, 2, 10), (6, 3, 16, 0), (10, 57, 5, 11), (2, 3, 16, 0), (12, 9, 0, 12), (10, 62, 0, 13), (10, 324, 0, 14), (10, 66, 1, 15), (10, 327, 0, 16), (10, 70, 1, 17), (10, 74, 0, 18), (0, 65, 0, 16), (10, 84, 1, 19), (10, 88, 0, 20), (0, 72, 0, 21), (10, 96, 0, 22), (9, 28, 0, 23), (9, 32, 0, 24), (10, 102, 0, 25), (7, 41, 0, 26), (0, 69, 0, 18), (0, 92, 0, 27), (5, 25, 0, 23), (0, 76, 0, 28), (0, 79, 0, 24), (0, 82, 0, 29), (0, 85, 0, 30), (0, 88, 0, 31), (0, 102, 0, 32), (0, 106, 0, 33), (0, 110, 0, 34), (10, 105, 0, 35), (12, 35, 0, 36), (10, 193, 0, 37), (10, 330, 0, 38), (10, 198, 0, 39), (4, 31, 0, 38), (12, 154, 1, 40), (12, 59, 1, 41), (12, 100, 1, 42), (12, 104, 1, 43), (12, 21, 0, 44), (10, 115, 1, 45), (10, 121, 0, 46), (10, 124, 0, 47), (12, 123, 1, 48), (12, 29, 0, 49), (10, 167, 0, 50), (10, 170, 0, 51), (12, 126, 1, 52), (12, 32, 0, 53), (10, 177, 0, 54), (10, 180, 0, 55), (12, 129, 1, 56), (12, 151, 1, 57), (12, 38, 0, 58), (10, 205, 0, 59), (10, 209, 0, 60), (7, 45, 4, 61), (7, 49, 0, 18), (10, 210, 0, 62), (10, 211, 0, 63), (10, 215, 0, 64), (10, 217, 0, 65), (10, 373, 0, 66), (3, 26, 0, 67), (10, 374, 0, 68), (10, 375, 0, 69), (10, 281, 0, 70), (7, 56, 0, 71), (7, 60, 0, 14), (7, 64, 0, 72), (10, 378, 0, 73), (7, 74, 0, 74), (7, 53, 0, 29), (7, 78, 0, 75), (10, 381, 0, 76), (10, 221, 0, 77), (10, 225, 0, 78), (1, 34, 0, 79), (10, 362, 0, 80), (10, 364, 0, 81), (10, 367, 0, 82), (12, 88, 1, 83), (12, 46, 0, 84), (10, 256, 0, 85), (0, 117, 0, 86), (0, 121, 0, 87), (0, 124, 0, 88), (10, 242, 0, 89), (10, 259, 0, 90), (6, 80, 0, 14), (6, 240, 0, 91), (6, 243, 0, 92), (6, 105, 4, 93), (10, 346, 1, 61), (6, 56, 0, 74), (6, 62, 0, 94), (6, 68, 0, 71), (6, 72, 0, 95), (6, 168, 0, 96), (6, 84, 4, 61), (6, 126, 0, 18), (6, 187, 0, 24), (6, 190, 0, 97), (6, 171, 0, 69), (6, 177, 0, 98), (6, 219, 0, 82), (6, 222, 0, 81), (6, 225, 0, 73), (6, 228, 0, 23), (6, 181, 0, 99), (6, 193, 0, 62), (6, 150, 1, 100), (6, 153, 4, 101), (10, 353, 13, 0), (10, 359, 12, 0), (6, 205, 0, 102), (6, 234, 0, 78), (6, 209, 0, 103), (6, 231, 10, 0), (6, 213, 0, 104), (6, 184, 0, 38), (6, 76, 0, 105), (6, 88, 0, 106), (6, 109, 0, 107), (6, 139, 0, 88), (6, 142, 1, 108), (6, 115, 0, 109), (6, 133, 0, 110), (6, 118, 1, 111), (6, 146, 1, 112), (6, 157, 14, 0), (6, 246, 0, 113), (6, 250, 11, 0), (12, 156, 1, 114), (12, 56, 0, 115), (10, 153, 0, 116), (10, 137, 0, 88), (10, 156, 0, 24), (10, 159, 0, 23), (10, 162, 0, 29), (12, 64, 0, 117), (10, 245, 0, 118), (12, 72, 0, 119), (12, 76, 0, 120), (12, 79, 0, 121), (12, 164, 1, 122), (12, 168, 1, 123), (12, 82, 0, 124), (10, 231, 0, 74), (10, 234, 0, 125), (10, 238, 0, 126), (10, 248, 0, 127), (3, 32, 0, 76), (12, 85, 0, 128), (12, 92, 0, 129), (10, 267, 0, 91), (12, 97, 0, 130), (10, 275, 0, 92), (10, 278, 1, 93), (12, 160, 1, 131), (12, 108, 1, 132), (12, 25, 0, 133), (10, 133, 0, 134), (10, 144, 0, 135), (12, 112, 0, 136), (12, 116, 0, 137), (12, 119, 0, 138), (10, 186, 0, 139), (12, 132, 1, 140), (12, 136, 0, 141), (10, 202, 0, 142), (4, 35, 0, 97), (12, 139, 1, 143), (12, 42, 0, 144), (10, 284, 0, 98), (10, 290, 0, 145), (10, 294, 0, 146), (8, 21, 11, 0), (10, 298, 0, 147), (10, 301, 0, 148), (10, 304, 0, 149), (8, 35, 0, 150), (8, 39, 0, 151), (8, 45, 0, 152), (8, 42, 0, 153), (10, 307, 0, 154), (10, 310, 0, 155), (10, 370, 0, 156), (12, 143, 1, 157), (12, 53, 0, 158), (10, 316, 0, 159), (1, 45, 15, 0), (12, 147, 1, 160), (12, 49, 0, 161), (10, 319, 0, 162)]
def rCstL : List (Nat × Nat × Nat × Int) := [(3, 30, 1, -9223372036854775808), (6, 66, 1, -9223372036854775808), (6, 162, 1, 1000000000000), (6, 164, 1, -1000000000000), (6, 166, 1, 1000), (8, 49, 1, -1), (8, 51, 1, -1000000), (8, 53, 1, 1000000), (10, 165, 0, -1000000), (10, 166, 0, 1000000), (10, 232, 1, -9223372036854775808), (10, 349, 1, -1000000000000), (10, 351, 1, 1000000000000), (12, 7, 0, 2752871), (12, 8, 0, 2147483647), (12, 68, 1, -9223372036854775808), (12, 70, 1, 1000000007), (12, 95, 1, 9223372036854775807), (13, 265, 0, 1431655765), (13, 266, 0, 858993459), (13, 267, 0, 252645135)]
def rThrL : List (Nat × Nat × Nat) := [(10, 108, 1), (10, 270, 2), (10, 335, 3), (12, 15, 1), (12, 17, 2), (12, 19, 3)]
def rNewL : List (Nat × Nat × Nat) := [(10, 9, 7), (10, 18, 4), (10, 25, 1), (10, 32, 3), (10, 39, 8), (10, 46, 6), (10, 55, 2), (0, 15, 5), (0, 42, 2), (7, 9, 0), (7, 24, 9), (12, 10, 10)]
def mInst : List Nat := [0, 1, 2, 3, 4, 6, 7, 8, 9, 10, 11, 12, 13, 14, 16, 18, 20, 21, 22, 23, 24, 25, 26, 27, 28, 29, 30, 31, 32, 33, 34, 35, 36, 37, 38, 39, 44, 46, 47, 49, 50, 51, 53, 54, 55, 58, 59, 60, 62, 63, 64, 65, 66, 67, 68, 69, 70, 71, 72, 73, 74, 75, 76, 77, 78, 79, 80, 81, 82, 84, 85, 86, 87, 88, 89, 90, 91, 92, 94, 95, 96, 97, 98, 99, 102, 103, 104, 105, 106, 107, 109, 110, 113, 115, 116, 117, 118, 119, 120, 121, 124, 125, 126, 127, 128, 129, 130, 133, 134, 135, 136, 137, 138, 139, 141, 142, 144, 145, 146, 147, 148, 149, 150, 151, 152, 153, 154, 155, 156, 158, 159, 161, 162]
def mStat : List Nat := [5, 15, 17, 19, 40, 41, 42, 43, 45, 48, 52, 56, 57, 61, 83, 93, 100, 101, 108, 111, 112, 114, 122, 123, 131, 132, 140, 143, 157, 160]
def mSel : List Nat := [12, 14, 16, 18, 20, 22, 23, 24, 25, 26, 27, 28, 29, 35, 36, 38, 39, 44, 46, 47, 49, 50, 51, 53, 54, 55, 58, 60, 62, 63, 64, 66, 68, 69, 70, 71, 72, 73, 74, 75, 76, 78, 80, 81, 82, 84, 85, 88, 89, 90, 91, 92, 97, 98, 106, 110, 115, 116, 117, 118, 119, 120, 121, 124, 125, 126, 127, 128, 129, 130, 133, 134, 135, 136, 137, 138, 139, 141, 142, 144, 145, 146, 147, 148, 149, 154, 156, 158, 159, 161, 162]
def mPriv : List Nat := [13, 21, 30, 31, 32, 33, 34, 37, 59, 65, 67, 77, 79, 86, 87, 94, 95, 96, 99, 102, 103, 104, 105, 107, 109, 113, 150, 151, 152, 153, 155]
def rCstI : List Nat := [985, 823, 919, 920, 857, 1098, 1107, 1108, 641, 642, 976, 861, 862, 602, 606, 951, 952, 1001, 623, 624, 625]
end
section
/-! ===== the numbers' machine: what an instruction does to a world of Ints ===== -/
abbrev PV : Type := Nat × Nat × Int
def pvI (x : Int) : PV := (0, 0, x)
def pvL (x : Int) : PV := (1, 0, x)
/-- a Formula, or null: -1 -/
def pvF (x : Int) : PV := (2, 0, x)
/-- the law's script -/
def pvS : PV := (3, 0, 0)
/-- the cell P, of kind k and length L -/
def pvR (k L P : Nat) : PV := (k + 10, L, (P : Int))
abbrev Lc : Type := List (Option PV)
/-- whether all is made; how many cells, how many exceptions there were; what the cells hold -/
abbrev Wd : Type := Bool × Nat × Nat × Hp
/-- 0: it returned, else what it threw; the answer; the world -/
abbrev Out : Type := Nat × Option PV × Wd
def le (w w' : Wd) : Prop := nle w.2.1 w'.2.1 ∧ w.2.2.1 ≤ w'.2.2.1
theorem le.refl (w : Wd) : le w w := ⟨nle.refl _, Nat.le_refl _⟩
theorem le.trans {a b c : Wd} (h : le a b) (h2 : le b c) : le a c := ⟨h.1.trans h2.1, Nat.le_trans h.2 h2.2⟩
def catV (v : PV) : Nat := if v.1 = 1 then 2 else 1
def catS (st : List PV) : Nat := (st.map catV).sum
def clr (L : Lc) (i : Nat) : Lc := match i with
  | 0 => L
  | j + 1 => match L[j]? with
    | some (some (1, _, _)) => L.set j none
    | _ => L
def sto1 (L : Lc) (i : Nat) (v : PV) : Lc := (clr L i).set i (some v)
def sto2 (L : Lc) (i : Nat) (v : PV) : Lc := ((clr L i).set i (some v)).set (i + 1) none
def ent (n : Nat) (as : List PV) : Lc :=
  let l : Lc := as.flatMap fun v => if v.1 = 1 then [some v, none] else [some v]
  l ++ List.replicate (n - l.length) none
def nos (as : List PV) : Bool := as.all fun v => v.1 != 3
abbrev mC (M : Mt) : Nat := M.1
abbrev mY (M : Mt) : MethodName := M.2.1
abbrev mB (M : Mt) : ByteArray := M.2.2.1
abbrev mL (M : Mt) : Nat := M.2.2.2.1
abbrev mR (M : Mt) : Option FieldType := M.2.2.2.2.1
abbrev mA (M : Mt) : Nat := M.2.2.2.2.2.1
abbrev mH (M : Mt) : List (Nat × Nat × Nat × Nat) := M.2.2.2.2.2.2
def rFld (c i : Nat) : Option (Nat × Nat) := (rFldL.find? fun q => q.1 == c && q.2.1 == i).map fun q => q.2.2
def rMth (c i : Nat) : Option (Nat × Nat) := (rMthL.find? fun q => q.1 == c && q.2.1 == i).map fun q => q.2.2
def rCst (c i : Nat) : Option (Nat × Int) := (rCstL.find? fun q => q.1 == c && q.2.1 == i).map fun q => q.2.2
def rThr (c i : Nat) : Option Nat := (rThrL.find? fun q => q.1 == c && q.2.1 == i).map fun q => q.2.2
def rNew (c i : Nat) : Option Nat := (rNewL.find? fun q => q.1 == c && q.2.1 == i).map fun q => q.2.2
/-- where an exception x at pc is caught -/
def hdl (c pc x : Nat) : List (Nat × Nat × Nat × Nat) → Option Nat
  | [] => none
  | (a, b, h, t) :: r => if a ≤ pc ∧ pc < b then (match rThr c t with
    | some x' => if x' = x then some h else if x' < x then hdl c pc x r else none
    | none => none) else hdl c pc x r
def lcm (x y : Int) : Int := if x < y then -1 else if x = y then 0 else 1
def iushr (x y : Int) : Int := (((Int32.ofInt x).toUInt32 >>> ((Int32.ofInt y).toUInt32 &&& Int32.toUInt32 31)).toInt32).toInt
def cnd (o : Jvm.ClassFile.Cond) (x y : Int) : Prop := match o with
  | .eq => x = y
  | .ne => x ≠ y
  | .lt => x < y
  | .ge => y ≤ x
  | .gt => y < x
  | .le => x ≤ y
def rcv (v : PV) (k P : Nat) : Prop := v = pvR k 0 P ∨ (k = 2 ∧ v = pvF (P : Int))
/-- the value that a field gives -/
def fvG (md : Bool) (σ : Hp) (k j P : Nat) (v : PV) : Prop := match (zFld k)[j]? with
  | some (0, _) => v = pvI (σ P j)
  | some (1, _) => v = pvL (σ P j)
  | some (2, _) => v = pvI (σ P j)
  | some (3, _) => v = pvF (σ P j)
  | some (_, o) => ∃ k' L' P' : Nat, (zTgt k)[j]? = some (k', L') ∧ (P' : Int) = P + o ∧ v = pvR k' L' P' ∧ (md = true ∨ σ P j = P')
  | none => False
/-- the value that a field takes, as a number -/
def fvP (md : Bool) (k j P : Nat) (v : PV) (x : Int) : Prop := match (zFld k)[j]? with
  | some (0, _) => v = pvI x
  | some (1, _) => v = pvL x
  | some (2, _) => v = pvI x ∧ 0 ≤ x ∧ x ≤ 1
  | some (3, _) => (v = pvF x ∧ 0 ≤ x) ∨ ∃ P' : Nat, v = pvR 2 0 P' ∧ x = P'
  | some (_, o) => md = false ∧ ∃ k' L' P' : Nat, (zTgt k)[j]? = some (k', L') ∧ (P' : Int) = P + o ∧ v = pvR k' L' P' ∧ x = P'
  | none => False
/-- a new cell: its fields before they are set -/
def zNew (σ : Hp) (n : Nat) : Hp := fun q j => if q = n then (if sh n < 12 then (match (zFld (sh n))[j.toNat]? with
  | some (3, _) => -1
  | some (4, _) => -1
  | _ => 0) else if sh n = 15 then -1 else 0) else σ q j
/-- a new Formula, made whole -/
def zFormula (σ : Hp) (n : Nat) : Hp := fun q j => if q = n then (if j = 2 then n + 1 else if j = 3 then n + 2 else if j = 4 then n + 3 else 0) else if n < q ∧ q < n + 4 then 0 else σ q j
/-- new int[60] of the law's -/
def zTmp (σ : Hp) (P : Nat) : Hp := fun q j => if q = P then 0 else σ q j
/-- what the law reads of its script -/
def scrV (q : Nat × (Nat → Int32)) (k : Int) : Int := if k < (q.1 : Int) then (q.2 k.toNat).toInt else 2752871 * k + 3301
/-- new int[13][144] -/
def zRows (σ : Hp) (n : Nat) : Hp := fun q j => if q = n then n + 1 + j else if n < q ∧ q < n + 14 then 0 else σ q j
def zCpy (σ : Hp) (P Q : Nat) (sp dp n : Int) : Hp := fun q j => if q = Q ∧ dp ≤ j ∧ j < dp + n then σ P (sp + (j - dp)) else σ q j
def arrK (a : ArrayType) : Option Nat := match a with
  | .int => some 12
  | .long => some 13
  | .boolean => some 14
  | _ => none
def full (w : Wd) : Prop := w.2.1 = 130 ∧ ∀ p, p < 130 → ∀ (j : Nat) (o : Int), (zFld (sh p))[j]? = some (4, o) → w.2.2.2 p j = p + o
abbrev Xs : Type := Option (Nat × (Nat → Int32))
abbrev Er : Type := Nat → List PV → Wd → Out → Prop
abbrev Kr : Type := Nat → Lc → List PV → Wd → Prop
/-- calls of the library that are one step -/
def natP (kind : Nat) (K : List PV → Wd → Prop) (st : List PV) (w : Wd) : Prop := match kind with
  | 10 => ∃ x y r, st = pvI y :: pvI x :: r ∧ catS r ≤ 20 ∧ K (pvI (max x y) :: r) w
  | 11 => ∃ x y r, st = pvI y :: pvI x :: r ∧ catS r ≤ 20 ∧ K (pvI (min x y) :: r) w
  | 12 => ∃ x y r, st = pvL y :: pvL x :: r ∧ catS r ≤ 20 ∧ K (pvL (max x y) :: r) w
  | 13 => ∃ x y r, st = pvL y :: pvL x :: r ∧ catS r ≤ 20 ∧ K (pvL (min x y) :: r) w
  | 14 => ∃ x r, st = pvL x :: r ∧ catS r ≤ 20 ∧ r64 (-x) ∧ K (pvL (max x (-x)) :: r) w
  | 15 => ∃ (n dp sp : Int) (L1 P1 L0 P0 : Nat) (r : List PV), st = pvI n :: pvI dp :: pvR 12 L1 P1 :: pvI sp :: pvR 12 L0 P0 :: r ∧ catS r ≤ 20 ∧ 0 ≤ sp ∧ 0 ≤ dp ∧ 0 ≤ n ∧ sp + n ≤ L0 ∧ dp + n ≤ L1 ∧ K r (w.1, w.2.1, w.2.2.1, zCpy w.2.2.2 P0 P1 sp dp n)
  | 16 => ∃ (k L P : Nat) (r : List PV), st = pvR k L P :: r ∧ catS r ≤ 20 ∧ K r w
  | _ => False
/-- a call, by the pool's entry idx; kinds of call as in rMthL -/
def callP (E : Er) (M : Mt) (idx : Nat) (ks : List Nat) (K : Kr) (fin : Out → Prop) (pc : Nat) (L : Lc) (st : List PV) (w : Wd) : Prop :=
  ∃ kind kc, rMth (mC M) idx = some (kind, kc) ∧ kind ∈ ks ∧ ((10 ≤ kind ∧ natP kind (fun st' w' => K (pc + 3) L st' w') st w) ∨
    (kind < 6 ∧ ∃ (Mc : Mt) (as r : List PV) (o : Out), mtab[kc]? = some Mc ∧ st = as.reverse ++ r ∧ as.length = mA Mc ∧ nos as = true ∧ catS r ≤ 8 ∧ (kind ∈ [1, 4] ∨ ∃ (a : PV) (as' : List PV) (P : Nat), as = a :: as' ∧ rcv a (mC Mc) P) ∧ E kc as w o ∧ le w o.2.2 ∧
      ((o.1 = 0 ∧ K (pc + 3) L (o.2.1.toList ++ r) o.2.2) ∨ (o.1 ≠ 0 ∧ o.1 ≤ 3 ∧ kind < 2 ∧ ((hdl (mC M) pc o.1 (mH M) = none ∧ mH M = [] ∧ fin (o.1, none, o.2.2)) ∨ ∃ h i ln, hdl (mC M) pc o.1 (mH M) = some h ∧ (decode (mB M) h = .ok (.astore i, ln) ∧ ln = 2 ∨ ∃ q : Fin 4, decode (mB M) h = .ok (.astore_n q, ln) ∧ ln = 1 ∧ (q : Nat) = i) ∧ i < L.length ∧ K (h + ln) ((clr L i).set i none) [] o.2.2)))))
def newP (M : Mt) (idx : Nat) (K : Kr) (fin : Out → Prop) (pc : Nat) (L : Lc) (st : List PV) (w : Wd) : Prop :=
  (∃ x is ic ln, rThr (mC M) idx = some x ∧ mC M = 10 ∧ mH M = [] ∧ catS st ≤ 8 ∧ decode (mB M) (pc + 3) = .ok (.dup, 1) ∧ ((decode (mB M) (pc + 4) = .ok (.ldc is, 2) ∧ ln = 2) ∨ (decode (mB M) (pc + 4) = .ok (.ldc_w is, 3) ∧ ln = 3)) ∧ decode (mB M) (pc + 4 + ln) = .ok (.invokespecial ic, 3) ∧ decode (mB M) (pc + 7 + ln) = .ok (.athrow, 1) ∧
    ((x = 1 ∧ ic = 112) ∨ (x = 2 ∧ ic = 274) ∨ (x = 3 ∧ ic = 339)) ∧ (∃ t, ("Cubecaller", is, t) ∈ zStr) ∧ fin (x, none, w.1, w.2.1, w.2.2.1 + 1, w.2.2.2)) ∨
  (w.1 = true ∧ rNew (mC M) idx = some 2 ∧ mC M = 10 ∧ catS st ≤ 6 ∧ decode (mB M) (pc + 3) = .ok (.dup, 1) ∧ decode (mB M) (pc + 4) = .ok (.invokespecial 57, 3) ∧ w.2.1 % 1048576 + 4 < 1048576 ∧ K (pc + 7) L (pvF ((w.2.1 % 1048576 : Nat) : Int) :: st) (true, w.2.1 + 4, w.2.2.1, zFormula w.2.2.2 (w.2.1 % 1048576))) ∨
  (∃ k, w.1 = false ∧ w.2.1 < 130 ∧ rNew (mC M) idx = some k ∧ sh w.2.1 = k ∧ ln w.2.1 = 0 ∧ k < 12 ∧ K (pc + 3) L (pvR k 0 w.2.1 :: st) (false, w.2.1 + 1, w.2.2.1, zNew w.2.2.2 w.2.1))
/-- the law's own call that reads its script -/
def scrP (X : Xs) (M : Mt) (idx : Nat) (K : Kr) (pc : Nat) (L : Lc) (st : List PV) (w : Wd) : Prop :=
  ∃ (q : Nat × (Nat → Int32)) (k : Int) (r : List PV), X = some q ∧ rMth (mC M) idx = some (1, zScr) ∧ st = pvI k :: pvS :: r ∧ catS r ≤ 8 ∧ 0 ≤ k ∧ k ≤ 700 ∧ q.1 < 2147483648 ∧ K (pc + 3) L (pvI (scrV q k) :: r) w
def stepP (X : Xs) (E : Er) (M : Mt) (i : Instr) (len : Nat) (K : Kr) (fin : Out → Prop) (pc : Nat) (L : Lc) (st : List PV) (w : Wd) : Prop :=
  match i with
  | .iconst v => len = 1 ∧ r32 v ∧ K (pc + 1) L (pvI v :: st) w
  | .bipush v => len = 2 ∧ r32 v ∧ (Int8.ofInt v).toInt32 = Int32.ofInt v ∧ K (pc + 2) L (pvI v :: st) w
  | .sipush v => len = 3 ∧ r32 v ∧ (Int16.ofInt v).toInt32 = Int32.ofInt v ∧ K (pc + 3) L (pvI v :: st) w
  | .lconst v => len = 1 ∧ K (pc + 1) L (pvL ((v : Nat) : Int) :: st) w
  | .aconst_null => len = 1 ∧ K (pc + 1) L (pvF (-1) :: st) w
  | .ldc idx => ∃ v, len = 2 ∧ r32 v ∧ rCst (mC M) idx = some (0, v) ∧ K (pc + 2) L (pvI v :: st) w
  | .ldc_w idx => ∃ v, len = 3 ∧ r32 v ∧ rCst (mC M) idx = some (0, v) ∧ K (pc + 3) L (pvI v :: st) w
  | .ldc2_w idx => ∃ v, len = 3 ∧ r64 v ∧ rCst (mC M) idx = some (1, v) ∧ K (pc + 3) L (pvL v :: st) w
  | .iload_n k => ∃ x, len = 1 ∧ L[(k : Nat)]? = some (some (pvI x)) ∧ K (pc + 1) L (pvI x :: st) w
  | .iload k => ∃ x, len = 2 ∧ L[k]? = some (some (pvI x)) ∧ K (pc + 2) L (pvI x :: st) w
  | .lload_n k => ∃ x, len = 1 ∧ L[(k : Nat)]? = some (some (pvL x)) ∧ K (pc + 1) L (pvL x :: st) w
  | .lload k => ∃ x, len = 2 ∧ L[k]? = some (some (pvL x)) ∧ K (pc + 2) L (pvL x :: st) w
  | .aload_n k => ∃ v : PV, len = 1 ∧ L[(k : Nat)]? = some (some v) ∧ 2 ≤ v.1 ∧ K (pc + 1) L (v :: st) w
  | .aload k => ∃ v : PV, len = 2 ∧ L[k]? = some (some v) ∧ 2 ≤ v.1 ∧ K (pc + 2) L (v :: st) w
  | .istore_n k => ∃ x r, len = 1 ∧ st = pvI x :: r ∧ (k : Nat) < L.length ∧ K (pc + 1) (sto1 L k (pvI x)) r w
  | .istore k => ∃ x r, len = 2 ∧ st = pvI x :: r ∧ k < L.length ∧ K (pc + 2) (sto1 L k (pvI x)) r w
  | .lstore_n k => ∃ x r, len = 1 ∧ st = pvL x :: r ∧ (k : Nat) + 1 < L.length ∧ K (pc + 1) (sto2 L k (pvL x)) r w
  | .lstore k => ∃ x r, len = 2 ∧ st = pvL x :: r ∧ k + 1 < L.length ∧ K (pc + 2) (sto2 L k (pvL x)) r w
  | .astore_n k => ∃ (v : PV) (r : List PV), len = 1 ∧ st = v :: r ∧ 2 ≤ v.1 ∧ (k : Nat) < L.length ∧ K (pc + 1) (sto1 L k v) r w
  | .astore k => ∃ (v : PV) (r : List PV), len = 2 ∧ st = v :: r ∧ 2 ≤ v.1 ∧ k < L.length ∧ K (pc + 2) (sto1 L k v) r w
  | .iinc k d => ∃ x, len = 3 ∧ L[k]? = some (some (pvI x)) ∧ r32 (x + d) ∧ K (pc + 3) (sto1 L k (pvI (x + d))) st w
  | .getfield idx => ∃ k j P v0 v r, len = 3 ∧ rFld (mC M) idx = some (k, j) ∧ st = v0 :: r ∧ rcv v0 k P ∧ fvG w.1 w.2.2.2 k j P v ∧ K (pc + 3) L (v :: r) w
  | .putfield idx => ∃ k j P v0 v x r, len = 3 ∧ rFld (mC M) idx = some (k, j) ∧ st = v :: v0 :: r ∧ rcv v0 k P ∧ fvP w.1 k j P v x ∧ (((zFld k)[j]?.map Prod.fst) = some 4 → (mY M).name = "<init>" ∧ mC M = k) ∧ K (pc + 3) L r (w.1, w.2.1, w.2.2.1, hset w.2.2.2 P j x)
  | .iaload => ∃ i v r, len = 1 ∧ st = pvI i :: v :: r ∧ 0 ≤ i ∧ ((∃ L' P : Nat, v = pvR 12 L' P ∧ i < L' ∧ K (pc + 1) L (pvI (w.2.2.2 P i) :: r) w) ∨ (∃ q, X = some q ∧ v = pvS ∧ i < q.1 ∧ K (pc + 1) L (pvI (q.2 i.toNat).toInt :: r) w))
  | .laload => ∃ (i : Int) (L' P : Nat) (r : List PV), len = 1 ∧ st = pvI i :: pvR 13 L' P :: r ∧ 0 ≤ i ∧ i < L' ∧ K (pc + 1) L (pvL (w.2.2.2 P i) :: r) w
  | .baload => ∃ (i : Int) (L' P : Nat) (r : List PV), len = 1 ∧ st = pvI i :: pvR 14 L' P :: r ∧ 0 ≤ i ∧ i < L' ∧ K (pc + 1) L (pvI (w.2.2.2 P i) :: r) w
  | .aaload => ∃ (i : Int) (L' P : Nat) (r : List PV), len = 1 ∧ 0 ≤ i ∧ i < L' ∧ ((st = pvI i :: pvR 15 L' P :: r ∧ K (pc + 1) L (pvF (w.2.2.2 P i) :: r) w) ∨ (st = pvI i :: pvR 16 L' P :: r ∧ L' = 13 ∧ K (pc + 1) L (pvR 12 144 (P + 1 + i.toNat) :: r) w))
  | .iastore => ∃ (x i : Int) (L' P : Nat) (r : List PV), len = 1 ∧ st = pvI x :: pvI i :: pvR 12 L' P :: r ∧ 0 ≤ i ∧ i < L' ∧ K (pc + 1) L r (w.1, w.2.1, w.2.2.1, hset w.2.2.2 P i x)
  | .lastore => ∃ (x i : Int) (L' P : Nat) (r : List PV), len = 1 ∧ st = pvL x :: pvI i :: pvR 13 L' P :: r ∧ 0 ≤ i ∧ i < L' ∧ K (pc + 1) L r (w.1, w.2.1, w.2.2.1, hset w.2.2.2 P i x)
  | .bastore => ∃ (x i : Int) (L' P : Nat) (r : List PV), len = 1 ∧ st = pvI x :: pvI i :: pvR 14 L' P :: r ∧ 0 ≤ i ∧ i < L' ∧ 0 ≤ x ∧ x ≤ 1 ∧ K (pc + 1) L r (w.1, w.2.1, w.2.2.1, hset w.2.2.2 P i x)
  | .aastore => ∃ (x i : Int) (L' P : Nat) (r : List PV), len = 1 ∧ st = pvF x :: pvI i :: pvR 15 L' P :: r ∧ 0 ≤ i ∧ i < L' ∧ 0 ≤ x ∧ K (pc + 1) L r (w.1, w.2.1, w.2.2.1, hset w.2.2.2 P i x)
  | .arraylength => ∃ v r, len = 1 ∧ st = v :: r ∧ ((∃ L' P : Nat, v = pvR 12 L' P ∧ r32 L' ∧ K (pc + 1) L (pvI (L' : Int) :: r) w) ∨ (∃ q, X = some q ∧ v = pvS ∧ r32 (q.1 : Int) ∧ K (pc + 1) L (pvI (q.1 : Int) :: r) w))
  | .iadd => ∃ x y r, len = 1 ∧ st = pvI y :: pvI x :: r ∧ r32 (x + y) ∧ K (pc + 1) L (pvI (x + y) :: r) w
  | .isub => ∃ x y r, len = 1 ∧ st = pvI y :: pvI x :: r ∧ r32 (x - y) ∧ K (pc + 1) L (pvI (x - y) :: r) w
  | .imul => ∃ x y r, len = 1 ∧ st = pvI y :: pvI x :: r ∧ r32 (x * y) ∧ K (pc + 1) L (pvI (x * y) :: r) w
  | .idiv => ∃ x y r, len = 1 ∧ st = pvI y :: pvI x :: r ∧ 0 < y ∧ K (pc + 1) L (pvI (x.tdiv y) :: r) w
  | .irem => ∃ x y r, len = 1 ∧ st = pvI y :: pvI x :: r ∧ 0 < y ∧ K (pc + 1) L (pvI (x.tmod y) :: r) w
  | .iand => ∃ x y r, len = 1 ∧ st = pvI y :: pvI x :: r ∧ K (pc + 1) L (pvI (iand x y) :: r) w
  | .ior => ∃ x y r, len = 1 ∧ st = pvI y :: pvI x :: r ∧ K (pc + 1) L (pvI (ior x y) :: r) w
  | .ishl => ∃ x y r, len = 1 ∧ st = pvI y :: pvI x :: r ∧ K (pc + 1) L (pvI (ishl x y) :: r) w
  | .ishr => ∃ x y r, len = 1 ∧ st = pvI y :: pvI x :: r ∧ K (pc + 1) L (pvI (ishr x y) :: r) w
  | .iushr => ∃ x y r, len = 1 ∧ st = pvI y :: pvI x :: r ∧ K (pc + 1) L (pvI (iushr x y) :: r) w
  | .ladd => ∃ x y r, len = 1 ∧ st = pvL y :: pvL x :: r ∧ r64 (x + y) ∧ K (pc + 1) L (pvL (x + y) :: r) w
  | .lsub => ∃ x y r, len = 1 ∧ st = pvL y :: pvL x :: r ∧ r64 (x - y) ∧ K (pc + 1) L (pvL (x - y) :: r) w
  | .lmul => ∃ x y r, len = 1 ∧ st = pvL y :: pvL x :: r ∧ r64 (x * y) ∧ K (pc + 1) L (pvL (x * y) :: r) w
  | .ldiv => ∃ x y r, len = 1 ∧ st = pvL y :: pvL x :: r ∧ y ≠ 0 ∧ r64 (x.tdiv y) ∧ K (pc + 1) L (pvL (x.tdiv y) :: r) w
  | .lrem => ∃ x y r, len = 1 ∧ st = pvL y :: pvL x :: r ∧ 0 < y ∧ K (pc + 1) L (pvL (x.tmod y) :: r) w
  | .lneg => ∃ x r, len = 1 ∧ st = pvL x :: r ∧ r64 (-x) ∧ K (pc + 1) L (pvL (-x) :: r) w
  | .lcmp => ∃ x y r, len = 1 ∧ st = pvL y :: pvL x :: r ∧ K (pc + 1) L (pvI (lcm x y) :: r) w
  | .i2l => ∃ x r, len = 1 ∧ st = pvI x :: r ∧ K (pc + 1) L (pvL x :: r) w
  | .l2i => ∃ x r, len = 1 ∧ st = pvL x :: r ∧ r32 x ∧ K (pc + 1) L (pvI x :: r) w
  | .dup => ∃ v r, len = 1 ∧ st = v :: r ∧ v.1 ≠ 1 ∧ K (pc + 1) L (v :: v :: r) w
  | .dup2 => ∃ v u r, len = 1 ∧ st = v :: u :: r ∧ v.1 ≠ 1 ∧ u.1 ≠ 1 ∧ K (pc + 1) L (v :: u :: v :: u :: r) w
  | .pop => ∃ v r, len = 1 ∧ st = v :: r ∧ v.1 ≠ 1 ∧ K (pc + 1) L r w
  | .ifCond o off => ∃ x r t, len = 3 ∧ st = pvI x :: r ∧ (pc : Int) + off = (t : Nat) ∧ (cnd o x 0 → K t L r w) ∧ (¬ cnd o x 0 → K (pc + 3) L r w)
  | .if_icmp o off => ∃ x y r t, len = 3 ∧ st = pvI y :: pvI x :: r ∧ (pc : Int) + off = (t : Nat) ∧ (cnd o x y → K t L r w) ∧ (¬ cnd o x y → K (pc + 3) L r w)
  | .ifnonnull off => ∃ x r t, len = 3 ∧ st = pvF x :: r ∧ (pc : Int) + off = (t : Nat) ∧ (0 ≤ x → K t L r w) ∧ (¬ 0 ≤ x → K (pc + 3) L r w)
  | .goto off => ∃ t : Nat, len = 3 ∧ (pc : Int) + off = t ∧ K t L st w
  | .tableswitch dflt lo hi offs => ∃ x r off t, st = pvI x :: r ∧ (((x < lo ∨ hi < x) ∧ off = dflt) ∨ (¬ x < lo ∧ ¬ hi < x ∧ offs[(x - lo).toNat]? = some off)) ∧ (pc : Int) + off = (t : Nat) ∧ K t L r w
  | .invokevirtual idx => len = 3 ∧ callP E M idx [0, 3] K fin pc L st w
  | .invokestatic idx => len = 3 ∧ (callP E M idx [1, 4, 10, 11, 12, 13, 14, 15] K fin pc L st w ∨ scrP X M idx K pc L st w)
  | .invokespecial idx => len = 3 ∧ callP E M idx [2, 5, 16] K fin pc L st w
  | .new idx => len = 3 ∧ newP M idx K fin pc L st w
  | .newarray a => (∃ r k, len = 2 ∧ w.1 = false ∧ w.2.1 < 130 ∧ arrK a = some k ∧ sh w.2.1 = k ∧ st = pvI (ln w.2.1 : Int) :: r ∧ ln w.2.1 ≤ 20000 ∧ K (pc + 2) L (pvR k (ln w.2.1) w.2.1 :: r) (false, w.2.1 + 1, w.2.2.1, zNew w.2.2.2 w.2.1)) ∨ (∃ r, len = 2 ∧ w.1 = true ∧ a = .int ∧ st = pvI 60 :: r ∧ K (pc + 2) L (pvR 12 60 (1048576 + w.2.1 / 1048576) :: r) (true, w.2.1 + 1048576, w.2.2.1, zTmp w.2.2.2 (1048576 + w.2.1 / 1048576)))
  | .anewarray idx => ∃ r, len = 3 ∧ w.1 = false ∧ w.2.1 < 130 ∧ mC M = 0 ∧ rNew (mC M) idx = some 2 ∧ sh w.2.1 = 15 ∧ ln w.2.1 = 12 ∧ st = pvI 12 :: r ∧ K (pc + 3) L (pvR 15 12 w.2.1 :: r) (false, w.2.1 + 1, w.2.2.1, zNew w.2.2.2 w.2.1)
  | .multianewarray idx dims => ∃ r, len = 4 ∧ dims = 2 ∧ idx = 60 ∧ mC M = 0 ∧ w.1 = false ∧ w.2.1 + 14 ≤ 130 ∧ sh w.2.1 = 16 ∧ ln w.2.1 = 13 ∧ st = pvI 144 :: pvI 13 :: r ∧ (∀ i, i < 13 → sh (w.2.1 + 1 + i) = 12 ∧ ln (w.2.1 + 1 + i) = 144) ∧ K (pc + 4) L (pvR 16 13 w.2.1 :: r) (false, w.2.1 + 14, w.2.2.1, zRows w.2.2.2 w.2.1)
  | .ireturn => ∃ x, len = 1 ∧ st = [pvI x] ∧ ((mR M = some .int) ∨ (mR M = some .boolean ∧ 0 ≤ x ∧ x ≤ 1)) ∧ fin (0, some (pvI x), w)
  | .lreturn => ∃ x, len = 1 ∧ st = [pvL x] ∧ mR M = some .long ∧ fin (0, some (pvL x), w)
  | .areturn => ∃ v n, len = 1 ∧ st = [v] ∧ 2 ≤ v.1 ∧ v.1 ≠ 3 ∧ (mR M = some (.object n) ∨ mR M = some (.array .int)) ∧ fin (0, some v, w)
  | .return_ => len = 1 ∧ st = [] ∧ mR M = none ∧ fin (0, none, w)
  | _ => False
/-- fewer locals known -/
def lsub : Lc → Lc → Prop
  | [], [] => True
  | a :: as, b :: bs => (b = none ∨ b = a) ∧ lsub as bs
  | _, _ => False
def runB (X : Xs) (E : Er) (M : Mt) : Nat → Nat → Lc → List PV → Wd → Out → Prop
  | 0, _, _, _, _, _ => False
  | f + 1, pc, L, st, w, out => le w out.2.2 ∧ ((∃ i len, decode (mB M) pc = .ok (i, len) ∧ stepP X E M i len (fun pc' L' st' w' => runB X E M f pc' L' st' w' out) (fun o => out = o) pc L st w) ∨ (w.1 = false ∧ full w ∧ runB X E M f pc L st (true, 171, w.2.2) out) ∨ ∃ L0, lsub L L0 ∧ runB X E M f pc L0 st w out)
/-- calls nested at most d deep: method k at these arguments, from this world, to this end -/
def Ev : Nat → Er
  | 0 => fun _ _ _ _ => False
  | d + 1 => fun k as w out => ∃ M, mtab[k]? = some M ∧ as.length = mA M ∧ nos as = true ∧ (ent (mL M) as).length = mL M ∧ ∃ f, runB none (Ev d) M f 0 (ent (mL M) as) [] w out
def Go (X : Xs) (E : Er) (M : Mt) (pc : Nat) (L : Lc) (st : List PV) (w : Wd) (out : Out) : Prop := ∃ f, runB X E M f pc L st w out
end
section
/-! ===== what the cells and values are, at the machine ===== -/
def vl (al : Nat → Nat) (b : Nat) (v : PV) : Value := match v.1 with
  | 0 => .int (Int32.ofInt v.2.2)
  | 1 => .long (Int64.ofInt v.2.2)
  | 2 => va_rf (rfo al v.2.2)
  | 3 => .ref b
  | _ => .ref (al v.2.2.toNat)
def PVok (n : Nat) (v : PV) : Prop := match v.1 with
  | 0 => r32 v.2.2
  | 1 => r64 v.2.2
  | 2 => fOk n v.2.2
  | 3 => True
  | t => ∃ P : Nat, v.2.2 = (P : Int) ∧ 10 ≤ t ∧ Sh n P (t - 10) v.2.1
theorem PVok.R {n k L P : Nat} : PVok n (pvR k L P) ↔ Sh n P k L := by
  show (∃ P' : Nat, (P : Int) = (P' : Int) ∧ 10 ≤ k + 10 ∧ Sh n P' (k + 10 - 10) L) ↔ _
  constructor
  · rintro ⟨P', h1, -, h2⟩
    have : P' = P := by omega
    subst this
    exact h2
  · intro h
    exact ⟨P, rfl, by omega, h⟩
theorem fOk.mono {n n' : Nat} {x : Int} (h : fOk n x) (hn : nle n n') : fOk n' x := h.imp id (fun ⟨P, h1, h2⟩ => ⟨P, h1, h2.mono hn⟩)
theorem PVok.mono {n n' : Nat} {v : PV} (h : PVok n v) (hn : nle n n') : PVok n' v := by
  obtain ⟨t, L, x⟩ := v
  match t, h with
  | 0, h => exact h
  | 1, h => exact h
  | 2, h => exact fOk.mono h hn
  | 3, _ => exact trivial
  | t + 4, h => obtain ⟨P, h1, h2, h3⟩ := h; exact ⟨P, h1, h2, h3.mono hn⟩
theorem vl_R {al : Nat → Nat} {b k L P : Nat} : vl al b (pvR k L P) = .ref (al P) := rfl
theorem rfo_congr {al al' : Nat → Nat} {n : Nat} {x : Int} (h : ∀ p, inn n p → al' p = al p) (hx : fOk n x) : rfo al' x = rfo al x := by
  rcases hx with rfl | ⟨P, rfl, hP⟩
  · rfl
  · have : ¬ ((P : Int) < 0) := by omega
    simp [rfo, this, h P hP.1]
theorem vl_congr {al al' : Nat → Nat} {b n : Nat} {v : PV} (h : ∀ p, inn n p → al' p = al p) (hv : PVok n v) : vl al' b v = vl al b v := by
  obtain ⟨t, L, x⟩ := v
  match t, hv with
  | 0, _ => rfl
  | 1, _ => rfl
  | 2, hv => exact congrArg va_rf (rfo_congr h hv)
  | 3, _ => rfl
  | t + 4, hv =>
    obtain ⟨P, h1, h2, h3⟩ := hv
    show Value.ref (al' x.toNat) = Value.ref (al x.toNat)
    have h4 : x = (P : Int) := h1
    subst h4
    rw [Int.toNat_natCast, h P h3.1]
theorem vl_b {al : Nat → Nat} {b b' : Nat} {v : PV} (h : v.1 ≠ 3) : vl al b v = vl al b' v := by
  obtain ⟨t, L, x⟩ := v
  match t, h with
  | 0, _ => rfl
  | 1, _ => rfl
  | 2, _ => rfl
  | 3, h => exact absurd rfl h
  | t + 4, _ => rfl
theorem vl_ref {al : Nat → Nat} {b n : Nat} {v : PV} (h : 2 ≤ v.1) : vl al b v = .null ∨ ∃ a, vl al b v = .ref a := by
  obtain ⟨t, L, x⟩ := v
  match t, h with
  | 0, h => exact absurd (show 2 ≤ 0 from h) (by omega)
  | 1, h => exact absurd (show 2 ≤ 1 from h) (by omega)
  | 2, _ => exact va_rf_or _
  | 3, _ => exact Or.inr ⟨_, rfl⟩
  | t + 4, _ => exact Or.inr ⟨_, rfl⟩
theorem vl_cat {al : Nat → Nat} {b : Nat} {v : PV} : (vl al b v).category = catV v := by
  obtain ⟨t, L, x⟩ := v
  match t with
  | 0 => rfl
  | 1 => rfl
  | 2 => show (va_rf (rfo al x)).category = 1; rcases va_rf_or (rfo al x) with h | ⟨a, h⟩ <;> rw [h] <;> rfl
  | 3 => rfl
  | t + 4 => show 1 = if t + 4 = 1 then 2 else 1; rw [if_neg (by omega)]
theorem vl_catS {al : Nat → Nat} {b : Nat} (st : List PV) : ((st.map (vl al b)).map fun v => v.category).sum = catS st := by
  unfold catS
  rw [List.map_map]
  congr 1
  exact List.map_congr_left fun v _ => vl_cat
/-! what cells hold; md: all is made -/
def tyF (md : Bool) (n p c : Nat) (o v : Int) : Prop := match c with
  | 0 => r32 v
  | 1 => r64 v
  | 2 => 0 ≤ v ∧ v ≤ 1
  | 3 => fOk n v
  | _ => v = p + o ∨ (md = false ∧ v = -1)
def TyM (md : Bool) (n : Nat) (σ : Hp) : Prop := (md = true → nOk n) ∧ (md = false → n ≤ 130 ∧ ∀ p, p < n → sh p = 16 → p + 13 < n) ∧ (∀ (p k j c : Nat) (o : Int), Sh n p k 0 → (zFld k)[j]? = some (c, o) → tyF md n p c o (σ p j)) ∧ (∀ (p k L : Nat) (i : Int), Sh n p k L → 12 ≤ k → tyA n p k L i (σ p i)) ∧ (md = false → ∀ (p k j : Nat) (o : Int), Sh n p k 0 → (zFld k)[j]? = some (4, o) → σ p j = p + o → 0 ≤ p + o ∧ inn n (p + o).toNat)
theorem TyM.setF {md : Bool} {n : Nat} {σ : Hp} {P k j c : Nat} {o v : Int} (hT : TyM md n σ) (hs : Sh n P k 0) (hf : (zFld k)[j]? = some (c, o)) (hv : tyF md n P c o v) (hv2 : md = false → c = 4 → 0 ≤ (P : Int) + o ∧ inn n ((P : Int) + o).toNat) : TyM md n (hset σ P j v) := by
  refine ⟨hT.1, hT.2.1, fun p k2 j2 c2 o2 h1 h2 => ?_, fun p k2 L i h1 h2 => ?_, fun e p k2 j2 o2 h1 h2 h3 => ?_⟩
  · by_cases e : p = P ∧ (j2 : Int) = j
    · obtain ⟨rfl, e2⟩ := e
      have e3 : j2 = j := by omega
      subst e3
      have e4 : k2 = k := by rw [← h1.2.1, hs.2.1]
      subst e4
      rw [hf] at h2
      cases h2
      simp only [hset, and_self, if_true]
      exact hv
    · simp only [hset, if_neg e]
      exact hT.2.2.1 p k2 j2 c2 o2 h1 h2
  · have e : p ≠ P := fun z => by
      subst z
      have := zFld_lt hf
      have : k2 = k := by rw [← h1.2.1, hs.2.1]
      omega
    rw [hset_ne e]
    exact hT.2.2.2.1 p k2 L i h1 h2
  · by_cases e2 : p = P ∧ (j2 : Int) = j
    · obtain ⟨rfl, e2⟩ := e2
      have e3 : j2 = j := by omega
      subst e3
      have e4 : k2 = k := by rw [← h1.2.1, hs.2.1]
      subst e4
      rw [hf] at h2
      cases h2
      exact hv2 e rfl
    · simp only [hset, if_neg e2] at h3
      exact hT.2.2.2.2 e p k2 j2 o2 h1 h2 h3
theorem TyM.arr {md : Bool} {n : Nat} {σ σ' : Hp} {P k L : Nat} (hT : TyM md n σ) (hs : Sh n P k L) (hk : 12 ≤ k) (ho : ∀ q, q ≠ P → σ' q = σ q) (hv : ∀ i, tyA n P k L i (σ' P i)) : TyM md n σ' := by
  refine ⟨hT.1, hT.2.1, fun p k2 j2 c2 o2 h1 h2 => ?_, fun p k2 L2 i2 h1 h2 => ?_, fun e p k2 j2 o2 h1 h2 h3 => ?_⟩
  · have e : p ≠ P := fun z => by
      subst z
      have := zFld_lt h2
      have : k2 = k := by rw [← h1.2.1, hs.2.1]
      omega
    rw [ho p e]
    exact hT.2.2.1 p k2 j2 c2 o2 h1 h2
  · by_cases e : p = P
    · subst e
      have e4 : k2 = k := by rw [← h1.2.1, hs.2.1]
      have e5 : L2 = L := by rw [← h1.2.2, hs.2.2]
      subst e4; subst e5
      exact hv i2
    · rw [ho p e]
      exact hT.2.2.2.1 p k2 L2 i2 h1 h2
  · have e1 : p ≠ P := fun z => by
      subst z
      have := zFld_lt h2
      have : k2 = k := by rw [← h1.2.1, hs.2.1]
      omega
    rw [ho p e1] at h3
    exact hT.2.2.2.2 e p k2 j2 o2 h1 h2 h3
theorem TyM.setA {md : Bool} {n : Nat} {σ : Hp} {P k L : Nat} {i v : Int} (hT : TyM md n σ) (hs : Sh n P k L) (hk : 12 ≤ k) (hv : tyA n P k L i v) : TyM md n (hset σ P i v) := by
  refine hT.arr hs hk (fun q hq => hset_ne hq) (fun i2 => ?_)
  by_cases e : i2 = i
  · subst e
    simp only [hset, and_self, if_true]
    exact hv
  · have : ¬ (P = P ∧ i2 = i) := fun z => e z.2
    show tyA n P k L i2 (if P = P ∧ i2 = i then v else σ P i2)
    rw [if_neg this]
    exact hT.2.2.2.1 P k L i2 hs hk
/-- where a fixed field points -/
theorem tgt_of {p k j k' L' P' : Nat} {o : Int} (hp : p < 130) (h0 : sh p = k) (h1 : (zFld k)[j]? = some (4, o)) (h2 : (zTgt k)[j]? = some (k', L')) (hP : (P' : Int) = p + o) : sh P' = k' ∧ ln P' = L' ∧ P' < 130 := by
  have h := Sh.tgt (n := 171) ⟨0, rfl⟩ (⟨nOk.in ⟨0, rfl⟩ hp, h0, rfl⟩ : Sh 171 p k (ln p)) h1 h2 hP
  exact ⟨h.2.1, h.2.2, by have := h.1; unfold inn at this; omega⟩
theorem TyM.tgt {md : Bool} {n : Nat} {σ : Hp} {p k j k' L' P' : Nat} {o : Int} (hT : TyM md n σ) (h : Sh n p k 0) (h1 : (zFld k)[j]? = some (4, o)) (h2 : (zTgt k)[j]? = some (k', L')) (hP : (P' : Int) = p + o) (hm : md = true ∨ σ p j = P') : Sh n P' k' L' ∧ σ p j = P' := by
  have h9 := hT.2.2.1 p k j 4 o h h1
  cases md with
  | true =>
    have hs := h.tgt (hT.1 rfl) h1 h2 hP
    rcases h9 with h9 | ⟨h9, -⟩
    · exact ⟨hs, by rw [h9, hP]⟩
    · cases h9
  | false =>
    rcases hm with hm | hm
    · cases hm
    · have hn := (hT.2.1 rfl).1
      have ht := tgt_of (Nat.lt_of_lt_of_le (inn_lt h.1 (by omega)) hn) h.2.1 h1 h2 hP
      have := hT.2.2.2.2 rfl p k j o h h1 (by rw [hm, hP])
      have e : ((p : Int) + o).toNat = P' := by omega
      exact ⟨⟨by rw [← e]; exact this.2, ht.1, ht.2.1⟩, hm⟩
/-! the locals -/
def LH (al : Nat → Nat) (b : Nat) (la : Array Slot) (nL : Nat) (L : Lc) : Prop := L.length = nL ∧ la.size = nL ∧ lv_wf la ∧ ∀ (i : Nat) (v : PV), L[i]? = some (some v) → la[i]? = some (.val (vl al b v))
def asc (al : Nat → Nat) (b : Nat) (L : Lc) : List (Nat × Value) := (List.range L.length).filterMap fun i => match L[i]? with
  | some (some v) => some (i, vl al b v)
  | _ => none
theorem asc_mem {al : Nat → Nat} {b : Nat} {L : Lc} {q : Nat × Value} : q ∈ asc al b L ↔ ∃ v, L[q.1]? = some (some v) ∧ q.2 = vl al b v := by
  unfold asc
  rw [List.mem_filterMap]
  constructor
  · rintro ⟨i, -, h⟩
    split at h
    · rename_i v hv
      cases h
      exact ⟨v, hv, rfl⟩
    · cases h
  · rintro ⟨v, hv, h2⟩
    refine ⟨q.1, List.mem_range.mpr (List.getElem?_eq_some_iff.mp hv).1, ?_⟩
    rw [hv]
    simp only [← h2]
theorem LH.has {al : Nat → Nat} {b nL : Nat} {la : Array Slot} {L : Lc} (h : LH al b la nL L) : lv_has la nL (asc al b L) :=
  ⟨h.2.1, h.2.2.1, fun q hq => by obtain ⟨v, h1, h2⟩ := asc_mem.mp hq; rw [h2]; exact h.2.2.2 _ _ h1⟩
theorem clr_get {L : Lc} {i j : Nat} {v : PV} (h : (clr L i)[j]? = some (some v)) : L[j]? = some (some v) ∧ ¬ (j + 1 = i ∧ v.1 = 1) := by
  unfold clr at h
  split at h
  · exact ⟨h, fun z => by omega⟩
  · rename_i i' k
    split at h
    · rename_i a b' h9
      rw [List.getElem?_set] at h
      by_cases e : k = j
      · subst e
        rw [if_pos rfl] at h
        split at h <;> cases h
      · rw [if_neg e] at h
        exact ⟨h, fun z => e (by omega)⟩
    · rename_i h9
      refine ⟨h, fun z => ?_⟩
      have e : k = j := by omega
      subst e
      obtain ⟨t, L', x⟩ := v
      have : t = 1 := z.2
      subst this
      exact h9 _ _ h
theorem clr_len (L : Lc) (i : Nat) : (clr L i).length = L.length := by
  unfold clr
  split
  · rfl
  · split
    · simp
    · rfl
theorem sto1_get {L : Lc} {i j : Nat} {v u : PV} (hi : i < L.length) (h : (sto1 L i v)[j]? = some (some u)) : (j = i ∧ u = v) ∨ (j ≠ i ∧ L[j]? = some (some u) ∧ ¬ (j + 1 = i ∧ u.1 = 1)) := by
  unfold sto1 at h
  rw [List.getElem?_set] at h
  by_cases e : i = j
  · subst e
    rw [if_pos rfl, if_pos (by rw [clr_len]; exact hi)] at h
    cases h
    exact Or.inl ⟨rfl, rfl⟩
  · rw [if_neg e] at h
    exact Or.inr ⟨fun z => e z.symm, clr_get h⟩
theorem sto2_get {L : Lc} {i j : Nat} {v u : PV} (hi : i + 1 < L.length) (h : (sto2 L i v)[j]? = some (some u)) : (j = i ∧ u = v) ∨ (j ≠ i ∧ j ≠ i + 1 ∧ L[j]? = some (some u) ∧ ¬ (j + 1 = i ∧ u.1 = 1)) := by
  unfold sto2 at h
  rw [List.getElem?_set] at h
  by_cases e : i + 1 = j
  · subst e
    rw [if_pos rfl] at h
    split at h <;> cases h
  · rw [if_neg e] at h
    rcases sto1_get (by omega) h with h | ⟨h1, h2, h3⟩
    · exact Or.inl h
    · exact Or.inr ⟨h1, fun z => e z.symm, h2, h3⟩
theorem LH.put1 {al : Nat → Nat} {b nL i : Nat} {la : Array Slot} {L : Lc} {v : PV} (h0 : L.length = nL) (hi : i < nL) (h : lv_has la nL ((i, vl al b v) :: (asc al b L).filter (fun q => !(q.1 == i) && !(q.1 + 1 == i && q.2.category == 2)))) : LH al b la nL (sto1 L i v) := by
  refine ⟨by unfold sto1; rw [List.length_set, clr_len, h0], h.1, h.2.1, fun j u hj => ?_⟩
  rcases sto1_get (by omega) hj with ⟨rfl, rfl⟩ | ⟨h1, h2, h3⟩
  · exact h.2.2 _ List.mem_cons_self
  · refine h.2.2 (j, vl al b u) (List.mem_cons_of_mem _ (List.mem_filter.mpr ⟨asc_mem.mpr ⟨u, h2, rfl⟩, ?_⟩))
    have e1 : (j == i) = false := by simp [h1]
    have e2 : (j + 1 == i && (vl al b u).category == 2) = false := by
      rw [vl_cat]
      by_cases e : j + 1 = i
      · have : ¬ u.1 = 1 := fun z => h3 ⟨e, z⟩
        simp [catV, this]
      · simp [e]
    simp [e1, e2]
theorem LH.put2 {al : Nat → Nat} {b nL i : Nat} {la : Array Slot} {L : Lc} {v : PV} (h0 : L.length = nL) (hi : i + 1 < nL) (h : lv_has la nL ((i, vl al b v) :: (asc al b L).filter (fun q => !(q.1 == i) && (!(q.1 == i + 1) && !(q.1 + 1 == i && q.2.category == 2))))) : LH al b la nL (sto2 L i v) := by
  refine ⟨by unfold sto2; rw [List.length_set, List.length_set, clr_len, h0], h.1, h.2.1, fun j u hj => ?_⟩
  rcases sto2_get (by omega) hj with ⟨rfl, rfl⟩ | ⟨h1, h12, h2, h3⟩
  · exact h.2.2 _ List.mem_cons_self
  · refine h.2.2 (j, vl al b u) (List.mem_cons_of_mem _ (List.mem_filter.mpr ⟨asc_mem.mpr ⟨u, h2, rfl⟩, ?_⟩))
    have e1 : (j == i) = false := by simp [h1]
    have e3 : (j == i + 1) = false := by simp [h12]
    have e2 : (j + 1 == i && (vl al b u).category == 2) = false := by
      rw [vl_cat]
      by_cases e : j + 1 = i
      · have : ¬ u.1 = 1 := fun z => h3 ⟨e, z⟩
        simp [catV, this]
      · simp [e]
    simp [e1, e2, e3]
theorem LH.congr {al al' : Nat → Nat} {b nL n : Nat} {la : Array Slot} {L : Lc} (h : LH al b la nL L) (ha : ∀ p, inn n p → al' p = al p) (hL : ∀ (i : Nat) (v : PV), L[i]? = some (some v) → PVok n v) : LH al' b la nL L :=
  ⟨h.1, h.2.1, h.2.2.1, fun i v hv => by rw [vl_congr ha (hL i v hv)]; exact h.2.2.2 i v hv⟩
/-! how many slots the cells have -/
def zSz (p : Nat) : Nat := if sh p < 12 then (zFld (sh p)).length else ln p
def Sl : Nat → Nat
  | 0 => 0
  | n + 1 => Sl n + zSz n
theorem Sl_mono {n m : Nat} (h : n ≤ m) : Sl n ≤ Sl m := by
  induction h with
  | refl => exact Nat.le_refl _
  | step _ ih => exact Nat.le_trans ih (Nat.le_add_right _ _)
def SL (n : Nat) : Nat := Sl (n % 1048576) + 60 * (n / 1048576)
theorem SL_mono {n m : Nat} (h : nle n m) : SL n ≤ SL m := by
  unfold SL
  have := Sl_mono h.1
  have := h.2
  omega
/-- how many cells there are -/
def cw (n : Nat) : Nat := (if n % 1048576 ≤ 130 then n % 1048576 else if n % 1048576 ≤ 171 then 130 else n % 1048576 - 41) + n / 1048576
theorem cw_mono {n m : Nat} (h : nle n m) : cw n ≤ cw m := by
  unfold cw
  have := h.1
  have := h.2
  split <;> split <;> (try split) <;> (try split) <;> omega
def cn (w w0 : Wd) : Nat := (cw w.2.1 + w.2.2.1) - (cw w0.2.1 + w0.2.2.1)
def sn (w w0 : Wd) : Nat := (SL w.2.1 + 6 * w.2.2.1) - (SL w0.2.1 + 6 * w0.2.2.1)
/-! a place in a method's walk -/
abbrev Act : Type := Program × Launch × Env × Room × State × MethodId × Array Value × List Frame × Method × Code × va_G × Cids × (Nat → Prop) × (State → Prop)
/-- the method, its calls' depth, the world at its entry and where its cells lay, at its end, the script -/
abbrev Bg : Type := Mt × Nat × Wd × (Nat → Nat) × Wd × Xs × Nat
def Cx (Z : Act) (B : Bg) : Prop := match Z, B with
  | (p, l, _, R, s, m, args, _, meth, c, D, cs, A, _), (M, d, w0, _, o, X, b) =>
    (p.tables.exec = Jvm.exec ∧ c.code = mB M ∧ c.maxLocals = mL M ∧ s.vm.findClass (zOwn (mC M)) = some m.cls) ∧ (∀ w ∈ lw_good, w.before args s = true) ∧ (∀ q : Nat, s.heap.size ≤ q → A q) ∧ (meth.locks = false ∧ l.stackTraces = false ∧ meth.sig.returnType = mR M ∧ ((mY M).name = "<init>" → meth.name = "<init>") ∧ c.exceptionTable.toList = tableOf (mH M)) ∧ MF D cs A s s.heap ∧
    (d + 8 ≤ R.frames ∧ 60 * d + 150 ≤ R.locals ∧ cn o w0 ≤ R.cells ∧ sn o w0 ≤ R.slots) ∧ (∀ q, X = some q → va_X b q.1 q.2 s s.heap ∧ b < s.heap.size ∧ ¬ A b)
def Hy (Z : Act) (B : Bg) (al : Nat → Nat) (H : Heap) (locs : List Loc) (la : Array Slot) (L : Lc) (st : List PV) (w : Wd) : Prop := match Z, B with
  | (_, _, _, _, s, _, _, _, _, _, D, cs, A, _), (M, _, w0, al0, o, _, b) =>
    (le w0 w ∧ le w o) ∧ TyM w.1 w.2.1 w.2.2.2 ∧ (∀ v ∈ st, PVok w.2.1 v) ∧ (∀ (i : Nat) (v : PV), L[i]? = some (some v) → PVok w.2.1 v) ∧ (∀ p, inn w0.2.1 p → al p = al0 p) ∧ LH al b la (mL M) L ∧ va_P D vwCl (wsv al cs w.2.2.2 w.2.1) H ∧ va_D A (wsv al cs w.2.2.2 w.2.1) ∧ va_S A s.heap H locs
def GX (Z : Act) (B : Bg) (pc : Nat) (L : Lc) (st : List PV) (w : Wd) : Prop := match Z, B with
  | (p, l, e, R, s, m, args, below, meth, c, _, _, _, Q), (_, _, w0, _, _, _, b) =>
    ∀ (al : Nat → Nat) (H : Heap) (locs : List Loc) (la : Array Slot), Hy Z B al H locs la L st w → W p l e R s m args below meth c H locs (cn w w0) (sn w w0) Q (F0 m pc la (st.map (vl al b)))
theorem Hy.st {Z : Act} {B : Bg} {al : Nat → Nat} {H : Heap} {locs : List Loc} {la : Array Slot} {L : Lc} {st st' : List PV} {w : Wd} (h : Hy Z B al H locs la L st w) (h2 : ∀ v ∈ st', PVok w.2.1 v) : Hy Z B al H locs la L st' w := by
  obtain ⟨p, l, e, R, s, m, args, below, meth, c, D, cs, A, Q⟩ := Z
  obtain ⟨M, d, w0, al0, o, X, b⟩ := B
  exact ⟨h.1, h.2.1, h2, h.2.2.2⟩
theorem all_cons {P : PV → Prop} {v : PV} {st : List PV} (h : P v) (h2 : ∀ u ∈ st, P u) : ∀ u ∈ v :: st, P u := fun u hu => by
  rcases List.mem_cons.mp hu with rfl | hu
  · exact h
  · exact h2 u hu
theorem all_tl {P : PV → Prop} {v : PV} {st : List PV} (h : ∀ u ∈ v :: st, P u) : ∀ u ∈ st, P u := fun u hu => h u (List.mem_cons_of_mem _ hu)
theorem all_hd {P : PV → Prop} {v : PV} {st : List PV} (h : ∀ u ∈ v :: st, P u) : P v := h v List.mem_cons_self
end
section
/-! ===== the simple instructions hold at the machine ===== -/
theorem q_r32 {x y : Int} (h : r32 x) (hp : 0 < y) : r32 (x.tdiv y) := by
  have h1 := Int.natAbs_tdiv_le_natAbs x y
  unfold r32 at h ⊢
  rcases Int.lt_or_le x 0 with hx | hx
  · have h2 : 0 ≤ (-x).tdiv y := Int.tdiv_nonneg (by omega) (by omega)
    rw [Int.neg_tdiv] at h2
    omega
  · have : 0 ≤ x.tdiv y := Int.tdiv_nonneg hx (by omega)
    omega
theorem tmod_b {x y : Int} (hp : 0 < y) : x.tmod y < y ∧ - y < x.tmod y := ⟨Int.tmod_lt_of_pos x hp, by
  have := Int.tmod_lt_of_pos (-x) hp
  rw [Int.neg_tmod] at this
  omega⟩
theorem m_r32 {x y : Int} (_ : r32 x) (h : r32 y) (hp : 0 < y) : r32 (x.tmod y) := by
  have := tmod_b (x := x) hp
  unfold r32 at h ⊢
  omega
theorem m_r64 {x y : Int} (_ : r64 x) (h : r64 y) (hp : 0 < y) : r64 (x.tmod y) := by
  have := tmod_b (x := x) hp
  unfold r64 at h ⊢
  omega
theorem i_rem {x y : Int} (hx : r32 x) (hy : r32 y) : Int32.ofInt x - Int32.ofInt x / Int32.ofInt y * Int32.ofInt y = Int32.ofInt (x.tmod y) := by
  rw [i_div hx hy, idiv, of_w32, i_mul, of_w32, i_sub, of_w32, Int.tmod_def, Int.mul_comm y]
theorem l_rem {x y : Int} (hx : r64 x) (hy : r64 y) : Int64.ofInt x - Int64.ofInt x / Int64.ofInt y * Int64.ofInt y = Int64.ofInt (x.tmod y) := by
  rw [l_div hx hy, ldiv, of_w64, l_mul, of_w64, l_sub, of_w64, Int.tmod_def, Int.mul_comm y]
theorem of_iand (x y : Int) : Int32.ofInt x &&& Int32.ofInt y = Int32.ofInt (iand x y) := by unfold iand; rw [of_toInt32]
theorem of_ior (x y : Int) : Int32.ofInt x ||| Int32.ofInt y = Int32.ofInt (ior x y) := by unfold ior; rw [of_toInt32]
theorem of_ishl (x y : Int) : Int32.ofInt x <<< (Int32.ofInt y &&& 31) = Int32.ofInt (ishl x y) := by unfold ishl; rw [of_toInt32]
theorem of_ishr (x y : Int) : Int32.ofInt x >>> (Int32.ofInt y &&& 31) = Int32.ofInt (ishr x y) := by unfold ishr; rw [of_toInt32]
theorem r32_lcm (x y : Int) : r32 (lcm x y) := by unfold lcm r32; split <;> (try split) <;> omega
theorem lg_lcm {x y : Int} (hx : r64 x) (hy : r64 y) : lg_cmp (Int64.ofInt x) (Int64.ofInt y) = Int32.ofInt (lcm x y) := by
  unfold lg_cmp lcm
  by_cases h1 : x < y
  · have a : ¬ (Int64.ofInt y < Int64.ofInt x) := fun z => by have := (l_lt hy hx).mp z; omega
    have b : ¬ (Int64.ofInt x = Int64.ofInt y) := fun z => by have := (l_eq hx hy).mp z; omega
    rw [if_neg a, if_neg b, if_pos h1]; rfl
  · by_cases h2 : x = y
    · subst h2
      have a : ¬ (Int64.ofInt x < Int64.ofInt x) := fun z => by have := (l_lt hy hx).mp z; omega
      rw [if_neg a, if_pos rfl, if_neg h1, if_pos rfl]; rfl
    · have a : Int64.ofInt y < Int64.ofInt x := (l_lt hy hx).mpr (by omega)
      rw [if_pos a, if_neg h1, if_neg h2]; rfl
theorem i_l {x : Int} (h : r32 x) : (Int32.ofInt x).toInt64 = Int64.ofInt x := by
  apply Int64.toInt_inj.mp
  rw [toInt64_r (show r64 x by unfold r32 at h; unfold r64; omega), Int32.toInt_toInt64, toInt32_r h]
theorem l_i {x : Int} (h : r32 x) : (Int64.ofInt x).toInt32 = Int32.ofInt x := by
  apply Int32.toInt_inj.mp
  have h6 : r64 x := by unfold r32 at h; unfold r64; omega
  rw [toInt32_r h, Int64.toInt_toInt32, toInt64_r h6]
  unfold r32 at h
  simp [Int.bmod]
  omega
theorem lc_ok : ∀ q : Fin 2, Int64.ofNat (q : Nat) = Int64.ofInt ((q : Nat) : Int) := by decide
theorem find_mem {α : Type} {l : List (Nat × Nat × α)} {c i : Nat} {x : α} (h : ((l.find? fun q => q.1 == c && q.2.1 == i).map fun q => q.2.2) = some x) : (c, i, x) ∈ l := by
  cases h9 : l.find? fun q => q.1 == c && q.2.1 == i with
  | none => rw [h9] at h; cases h
  | some q =>
    rw [h9] at h
    cases h
    have h1 := List.find?_some h9
    have h2 := List.mem_of_find?_eq_some h9
    simp at h1
    obtain ⟨a, b', x'⟩ := q
    obtain ⟨h3, h4⟩ := h1
    dsimp only at h3 h4
    subst h3; subst h4
    exact h2
def cstOk (q : Nat × Nat × Nat × Int) : Bool := if q.2.2.1 = 0 then decide (Cond.constant (zOwn q.1) q.2.1 (Int32.ofInt q.2.2.2) ∈ lw_good) else decide (Cond.constantLong (zOwn q.1) q.2.1 (Int64.ofInt q.2.2.2) ∈ lw_good)
theorem cst_ok : rCstL.all cstOk = true := by decide +kernel
theorem cst_word {c i : Nat} {v : Int} (h : rCst c i = some (0, v)) : Cond.constant (zOwn c) i (Int32.ofInt v) ∈ lw_good := by
  have h1 := List.all_eq_true.mp cst_ok _ (find_mem h)
  unfold cstOk at h1
  simp only [if_true] at h1
  exact of_decide_eq_true h1
theorem cst_wordL {c i : Nat} {v : Int} (h : rCst c i = some (1, v)) : Cond.constantLong (zOwn c) i (Int64.ofInt v) ∈ lw_good := by
  have h1 := List.all_eq_true.mp cst_ok _ (find_mem h)
  unfold cstOk at h1
  rw [if_neg (show ¬ ((c, i, 1, v) : Nat × Nat × Nat × Int).2.2.1 = 0 from Nat.one_ne_zero)] at h1
  exact of_decide_eq_true h1
theorem s_iconst {Z : Act} {B : Bg} (hC : Cx Z B) {pc : Nat} {L : Lc} {w : Wd} {st : List PV} {v : Int} (hd : decode (mB B.1) pc = .ok (.iconst v, 1)) (hr : r32 v) (K : GX Z B (pc + 1) L (pvI v :: st) w) : GX Z B pc L (st) w := by
  obtain ⟨p, l, e, R, s, m, args, below, meth, c, D, cs, A, Q⟩ := Z
  obtain ⟨M, d, w0, al0, o, X, b⟩ := B
  obtain ⟨⟨hx, hb, hml, hown⟩, hts, hA, ⟨hlk, hst, hrt, hin, hex⟩, hMF, hR, hXs⟩ := hC
  intro al H locs la hy
  obtain ⟨y1, y2, y3, y4, y5, y6, y7, y8, y9⟩ := id hy
  exact lv_iconst hx hb hd rfl (K al H locs la (hy.st (all_cons hr y3)))
theorem s_bipush {Z : Act} {B : Bg} (hC : Cx Z B) {pc : Nat} {L : Lc} {w : Wd} {st : List PV} {v : Int} (hd : decode (mB B.1) pc = .ok (.bipush v, 2)) (hr : r32 v) (h8 : (Int8.ofInt v).toInt32 = Int32.ofInt v) (K : GX Z B (pc + 2) L (pvI v :: st) w) : GX Z B pc L (st) w := by
  obtain ⟨p, l, e, R, s, m, args, below, meth, c, D, cs, A, Q⟩ := Z
  obtain ⟨M, d, w0, al0, o, X, b⟩ := B
  obtain ⟨⟨hx, hb, hml, hown⟩, hts, hA, ⟨hlk, hst, hrt, hin, hex⟩, hMF, hR, hXs⟩ := hC
  intro al H locs la hy
  obtain ⟨y1, y2, y3, y4, y5, y6, y7, y8, y9⟩ := id hy
  exact lv_bipush hx hb hd h8 (K al H locs la (hy.st (all_cons hr y3)))
theorem s_sipush {Z : Act} {B : Bg} (hC : Cx Z B) {pc : Nat} {L : Lc} {w : Wd} {st : List PV} {v : Int} (hd : decode (mB B.1) pc = .ok (.sipush v, 3)) (hr : r32 v) (h8 : (Int16.ofInt v).toInt32 = Int32.ofInt v) (K : GX Z B (pc + 3) L (pvI v :: st) w) : GX Z B pc L (st) w := by
  obtain ⟨p, l, e, R, s, m, args, below, meth, c, D, cs, A, Q⟩ := Z
  obtain ⟨M, d, w0, al0, o, X, b⟩ := B
  obtain ⟨⟨hx, hb, hml, hown⟩, hts, hA, ⟨hlk, hst, hrt, hin, hex⟩, hMF, hR, hXs⟩ := hC
  intro al H locs la hy
  obtain ⟨y1, y2, y3, y4, y5, y6, y7, y8, y9⟩ := id hy
  exact lv_sipush hx hb hd h8 (K al H locs la (hy.st (all_cons hr y3)))
theorem s_lconst {Z : Act} {B : Bg} (hC : Cx Z B) {pc : Nat} {L : Lc} {w : Wd} {st : List PV} {v : Fin 2} (hd : decode (mB B.1) pc = .ok (.lconst v, 1)) (K : GX Z B (pc + 1) L (pvL ((v : Nat) : Int) :: st) w) : GX Z B pc L (st) w := by
  obtain ⟨p, l, e, R, s, m, args, below, meth, c, D, cs, A, Q⟩ := Z
  obtain ⟨M, d, w0, al0, o, X, b⟩ := B
  obtain ⟨⟨hx, hb, hml, hown⟩, hts, hA, ⟨hlk, hst, hrt, hin, hex⟩, hMF, hR, hXs⟩ := hC
  intro al H locs la hy
  obtain ⟨y1, y2, y3, y4, y5, y6, y7, y8, y9⟩ := id hy
  have hr : r64 ((v : Nat) : Int) := by have := v.isLt; unfold r64; omega
  exact lv_lconst (v := Int64.ofInt ((v : Nat) : Int)) hx hb hd (lc_ok v) (K al H locs la (hy.st (all_cons hr y3)))
theorem s_anull {Z : Act} {B : Bg} (hC : Cx Z B) {pc : Nat} {L : Lc} {w : Wd} {st : List PV} (hd : decode (mB B.1) pc = .ok (.aconst_null, 1)) (K : GX Z B (pc + 1) L (pvF (-1) :: st) w) : GX Z B pc L (st) w := by
  obtain ⟨p, l, e, R, s, m, args, below, meth, c, D, cs, A, Q⟩ := Z
  obtain ⟨M, d, w0, al0, o, X, b⟩ := B
  obtain ⟨⟨hx, hb, hml, hown⟩, hts, hA, ⟨hlk, hst, hrt, hin, hex⟩, hMF, hR, hXs⟩ := hC
  intro al H locs la hy
  obtain ⟨y1, y2, y3, y4, y5, y6, y7, y8, y9⟩ := id hy
  exact lv_null hx hb hd (K al H locs la (hy.st (all_cons (Or.inl rfl) y3)))
theorem s_ldc {Z : Act} {B : Bg} (hC : Cx Z B) {pc : Nat} {L : Lc} {w : Wd} {st : List PV} {idx : Nat} {v : Int} (hd : decode (mB B.1) pc = .ok (.ldc idx, 2)) (hr : r32 v) (hc : rCst (mC B.1) idx = some (0, v)) (K : GX Z B (pc + 2) L (pvI v :: st) w) : GX Z B pc L (st) w := by
  obtain ⟨p, l, e, R, s, m, args, below, meth, c, D, cs, A, Q⟩ := Z
  obtain ⟨M, d, w0, al0, o, X, b⟩ := B
  obtain ⟨⟨hx, hb, hml, hown⟩, hts, hA, ⟨hlk, hst, hrt, hin, hex⟩, hMF, hR, hXs⟩ := hC
  intro al H locs la hy
  obtain ⟨y1, y2, y3, y4, y5, y6, y7, y8, y9⟩ := id hy
  exact lv_ldc hx hb hown (hts _ (cst_word hc)) hd (K al H locs la (hy.st (all_cons hr y3)))
theorem s_ldcw {Z : Act} {B : Bg} (hC : Cx Z B) {pc : Nat} {L : Lc} {w : Wd} {st : List PV} {idx : Nat} {v : Int} (hd : decode (mB B.1) pc = .ok (.ldc_w idx, 3)) (hr : r32 v) (hc : rCst (mC B.1) idx = some (0, v)) (K : GX Z B (pc + 3) L (pvI v :: st) w) : GX Z B pc L (st) w := by
  obtain ⟨p, l, e, R, s, m, args, below, meth, c, D, cs, A, Q⟩ := Z
  obtain ⟨M, d, w0, al0, o, X, b⟩ := B
  obtain ⟨⟨hx, hb, hml, hown⟩, hts, hA, ⟨hlk, hst, hrt, hin, hex⟩, hMF, hR, hXs⟩ := hC
  intro al H locs la hy
  obtain ⟨y1, y2, y3, y4, y5, y6, y7, y8, y9⟩ := id hy
  exact lv_ldcw hx hb hown (hts _ (cst_word hc)) hd (K al H locs la (hy.st (all_cons hr y3)))
theorem s_ldc2 {Z : Act} {B : Bg} (hC : Cx Z B) {pc : Nat} {L : Lc} {w : Wd} {st : List PV} {idx : Nat} {v : Int} (hd : decode (mB B.1) pc = .ok (.ldc2_w idx, 3)) (hr : r64 v) (hc : rCst (mC B.1) idx = some (1, v)) (K : GX Z B (pc + 3) L (pvL v :: st) w) : GX Z B pc L (st) w := by
  obtain ⟨p, l, e, R, s, m, args, below, meth, c, D, cs, A, Q⟩ := Z
  obtain ⟨M, d, w0, al0, o, X, b⟩ := B
  obtain ⟨⟨hx, hb, hml, hown⟩, hts, hA, ⟨hlk, hst, hrt, hin, hex⟩, hMF, hR, hXs⟩ := hC
  intro al H locs la hy
  obtain ⟨y1, y2, y3, y4, y5, y6, y7, y8, y9⟩ := id hy
  exact lv_ldc2 hx hb hown (hts _ (cst_wordL hc)) hd (K al H locs la (hy.st (all_cons hr y3)))
theorem s_iload_n {Z : Act} {B : Bg} (hC : Cx Z B) {pc : Nat} {L : Lc} {w : Wd} {st : List PV} {k : Fin 4} {x : Int} (hd : decode (mB B.1) pc = .ok (.iload_n k, 1)) (h : L[(k : Nat)]? = some (some (pvI x))) (K : GX Z B (pc + 1) L (pvI x :: st) w) : GX Z B pc L (st) w := by
  obtain ⟨p, l, e, R, s, m, args, below, meth, c, D, cs, A, Q⟩ := Z
  obtain ⟨M, d, w0, al0, o, X, b⟩ := B
  obtain ⟨⟨hx, hb, hml, hown⟩, hts, hA, ⟨hlk, hst, hrt, hin, hex⟩, hMF, hR, hXs⟩ := hC
  intro al H locs la hy
  obtain ⟨y1, y2, y3, y4, y5, y6, y7, y8, y9⟩ := id hy
  exact lv_iload_n hx hb hd rfl (y6.2.2.2 _ _ h) (K al H locs la (hy.st (all_cons (y4 _ _ h) y3)))
theorem s_iload {Z : Act} {B : Bg} (hC : Cx Z B) {pc : Nat} {L : Lc} {w : Wd} {st : List PV} {k : Nat} {x : Int} (hd : decode (mB B.1) pc = .ok (.iload k, 2)) (h : L[k]? = some (some (pvI x))) (K : GX Z B (pc + 2) L (pvI x :: st) w) : GX Z B pc L (st) w := by
  obtain ⟨p, l, e, R, s, m, args, below, meth, c, D, cs, A, Q⟩ := Z
  obtain ⟨M, d, w0, al0, o, X, b⟩ := B
  obtain ⟨⟨hx, hb, hml, hown⟩, hts, hA, ⟨hlk, hst, hrt, hin, hex⟩, hMF, hR, hXs⟩ := hC
  intro al H locs la hy
  obtain ⟨y1, y2, y3, y4, y5, y6, y7, y8, y9⟩ := id hy
  exact lv_iload hx hb hd (y6.2.2.2 _ _ h) (K al H locs la (hy.st (all_cons (y4 _ _ h) y3)))
theorem s_lload_n {Z : Act} {B : Bg} (hC : Cx Z B) {pc : Nat} {L : Lc} {w : Wd} {st : List PV} {k : Fin 4} {x : Int} (hd : decode (mB B.1) pc = .ok (.lload_n k, 1)) (h : L[(k : Nat)]? = some (some (pvL x))) (K : GX Z B (pc + 1) L (pvL x :: st) w) : GX Z B pc L (st) w := by
  obtain ⟨p, l, e, R, s, m, args, below, meth, c, D, cs, A, Q⟩ := Z
  obtain ⟨M, d, w0, al0, o, X, b⟩ := B
  obtain ⟨⟨hx, hb, hml, hown⟩, hts, hA, ⟨hlk, hst, hrt, hin, hex⟩, hMF, hR, hXs⟩ := hC
  intro al H locs la hy
  obtain ⟨y1, y2, y3, y4, y5, y6, y7, y8, y9⟩ := id hy
  exact lv_lload_n hx hb hd rfl (y6.2.2.2 _ _ h) (K al H locs la (hy.st (all_cons (y4 _ _ h) y3)))
theorem s_lload {Z : Act} {B : Bg} (hC : Cx Z B) {pc : Nat} {L : Lc} {w : Wd} {st : List PV} {k : Nat} {x : Int} (hd : decode (mB B.1) pc = .ok (.lload k, 2)) (h : L[k]? = some (some (pvL x))) (K : GX Z B (pc + 2) L (pvL x :: st) w) : GX Z B pc L (st) w := by
  obtain ⟨p, l, e, R, s, m, args, below, meth, c, D, cs, A, Q⟩ := Z
  obtain ⟨M, d, w0, al0, o, X, b⟩ := B
  obtain ⟨⟨hx, hb, hml, hown⟩, hts, hA, ⟨hlk, hst, hrt, hin, hex⟩, hMF, hR, hXs⟩ := hC
  intro al H locs la hy
  obtain ⟨y1, y2, y3, y4, y5, y6, y7, y8, y9⟩ := id hy
  exact lv_lload hx hb hd (y6.2.2.2 _ _ h) (K al H locs la (hy.st (all_cons (y4 _ _ h) y3)))
theorem s_aload_n {Z : Act} {B : Bg} (hC : Cx Z B) {pc : Nat} {L : Lc} {w : Wd} {st : List PV} {k : Fin 4} {v : PV} (hd : decode (mB B.1) pc = .ok (.aload_n k, 1)) (h : L[(k : Nat)]? = some (some v)) (hv : 2 ≤ v.1) (K : GX Z B (pc + 1) L (v :: st) w) : GX Z B pc L (st) w := by
  obtain ⟨p, l, e, R, s, m, args, below, meth, c, D, cs, A, Q⟩ := Z
  obtain ⟨M, d, w0, al0, o, X, b⟩ := B
  obtain ⟨⟨hx, hb, hml, hown⟩, hts, hA, ⟨hlk, hst, hrt, hin, hex⟩, hMF, hR, hXs⟩ := hC
  intro al H locs la hy
  obtain ⟨y1, y2, y3, y4, y5, y6, y7, y8, y9⟩ := id hy
  have hl := y6.2.2.2 _ _ h
  have KK := K al H locs la (hy.st (all_cons (y4 _ _ h) y3))
  rcases vl_ref (al := al) (b := b) (n := w.2.1) hv with h0 | ⟨a, h0⟩
  · have KK : W p l e R s m args below meth c H locs (cn w w0) (sn w w0) Q (F0 m (pc + 1) la (vl al b v :: st.map (vl al b))) := KK
    rw [h0] at KK hl
    exact lv_aload_nN hx hb hd rfl hl KK
  · have KK : W p l e R s m args below meth c H locs (cn w w0) (sn w w0) Q (F0 m (pc + 1) la (vl al b v :: st.map (vl al b))) := KK
    rw [h0] at KK hl
    exact lv_aload_n hx hb hd rfl hl KK
theorem s_aload {Z : Act} {B : Bg} (hC : Cx Z B) {pc : Nat} {L : Lc} {w : Wd} {st : List PV} {k : Nat} {v : PV} (hd : decode (mB B.1) pc = .ok (.aload k, 2)) (h : L[k]? = some (some v)) (hv : 2 ≤ v.1) (K : GX Z B (pc + 2) L (v :: st) w) : GX Z B pc L (st) w := by
  obtain ⟨p, l, e, R, s, m, args, below, meth, c, D, cs, A, Q⟩ := Z
  obtain ⟨M, d, w0, al0, o, X, b⟩ := B
  obtain ⟨⟨hx, hb, hml, hown⟩, hts, hA, ⟨hlk, hst, hrt, hin, hex⟩, hMF, hR, hXs⟩ := hC
  intro al H locs la hy
  obtain ⟨y1, y2, y3, y4, y5, y6, y7, y8, y9⟩ := id hy
  have hl := y6.2.2.2 _ _ h
  have KK := K al H locs la (hy.st (all_cons (y4 _ _ h) y3))
  rcases vl_ref (al := al) (b := b) (n := w.2.1) hv with h0 | ⟨a, h0⟩
  · have KK : W p l e R s m args below meth c H locs (cn w w0) (sn w w0) Q (F0 m (pc + 2) la (vl al b v :: st.map (vl al b))) := KK
    rw [h0] at KK hl
    exact lv_aloadN hx hb hd hl KK
  · have KK : W p l e R s m args below meth c H locs (cn w w0) (sn w w0) Q (F0 m (pc + 2) la (vl al b v :: st.map (vl al b))) := KK
    rw [h0] at KK hl
    exact lv_aload hx hb hd hl KK
theorem s_istore_n {Z : Act} {B : Bg} (hC : Cx Z B) {pc : Nat} {L : Lc} {w : Wd} {st : List PV} {k : Fin 4} {x : Int} (hd : decode (mB B.1) pc = .ok (.istore_n k, 1)) (hk : (k : Nat) < L.length) (K : GX Z B (pc + 1) (sto1 L (k : Nat) (pvI x)) (st) w) : GX Z B pc L (pvI x :: st) w := by
  obtain ⟨p, l, e, R, s, m, args, below, meth, c, D, cs, A, Q⟩ := Z
  obtain ⟨M, d, w0, al0, o, X, b⟩ := B
  obtain ⟨⟨hx, hb, hml, hown⟩, hts, hA, ⟨hlk, hst, hrt, hin, hex⟩, hMF, hR, hXs⟩ := hC
  intro al H locs la hy
  obtain ⟨y1, y2, y3, y4, y5, y6, y7, y8, y9⟩ := id hy
  have hk2 : (k : Nat) < mL M := by rw [← y6.1]; exact hk
  refine lv_istore_n hx hb hd rfl y6.has hk2 rfl (fun la2 hl2 => ?_)
  refine K al H locs la2 ⟨y1, y2, all_tl y3, fun i v hv => ?_, y5, LH.put1 (v := pvI x) y6.1 hk2 hl2, y7, y8, y9⟩
  rcases sto1_get hk hv with ⟨-, rfl⟩ | ⟨-, h2, -⟩
  · exact all_hd y3
  · exact y4 _ _ h2
theorem s_istore {Z : Act} {B : Bg} (hC : Cx Z B) {pc : Nat} {L : Lc} {w : Wd} {st : List PV} {k : Nat} {x : Int} (hd : decode (mB B.1) pc = .ok (.istore k, 2)) (hk : k < L.length) (K : GX Z B (pc + 2) (sto1 L k (pvI x)) (st) w) : GX Z B pc L (pvI x :: st) w := by
  obtain ⟨p, l, e, R, s, m, args, below, meth, c, D, cs, A, Q⟩ := Z
  obtain ⟨M, d, w0, al0, o, X, b⟩ := B
  obtain ⟨⟨hx, hb, hml, hown⟩, hts, hA, ⟨hlk, hst, hrt, hin, hex⟩, hMF, hR, hXs⟩ := hC
  intro al H locs la hy
  obtain ⟨y1, y2, y3, y4, y5, y6, y7, y8, y9⟩ := id hy
  have hk2 : k < mL M := by rw [← y6.1]; exact hk
  refine lv_istore hx hb hd y6.has hk2 rfl (fun la2 hl2 => ?_)
  refine K al H locs la2 ⟨y1, y2, all_tl y3, fun i v hv => ?_, y5, LH.put1 (v := pvI x) y6.1 hk2 hl2, y7, y8, y9⟩
  rcases sto1_get hk hv with ⟨-, rfl⟩ | ⟨-, h2, -⟩
  · exact all_hd y3
  · exact y4 _ _ h2
theorem s_lstore_n {Z : Act} {B : Bg} (hC : Cx Z B) {pc : Nat} {L : Lc} {w : Wd} {st : List PV} {k : Fin 4} {x : Int} (hd : decode (mB B.1) pc = .ok (.lstore_n k, 1)) (hk : (k : Nat) + 1 < L.length) (K : GX Z B (pc + 1) (sto2 L (k : Nat) (pvL x)) (st) w) : GX Z B pc L (pvL x :: st) w := by
  obtain ⟨p, l, e, R, s, m, args, below, meth, c, D, cs, A, Q⟩ := Z
  obtain ⟨M, d, w0, al0, o, X, b⟩ := B
  obtain ⟨⟨hx, hb, hml, hown⟩, hts, hA, ⟨hlk, hst, hrt, hin, hex⟩, hMF, hR, hXs⟩ := hC
  intro al H locs la hy
  obtain ⟨y1, y2, y3, y4, y5, y6, y7, y8, y9⟩ := id hy
  have hk2 : (k : Nat) + 1 < mL M := by rw [← y6.1]; exact hk
  refine lv_lstore_n hx hb hd rfl y6.has hk2 rfl (fun la2 hl2 => ?_)
  refine K al H locs la2 ⟨y1, y2, all_tl y3, fun i v hv => ?_, y5, LH.put2 (v := pvL x) y6.1 hk2 hl2, y7, y8, y9⟩
  rcases sto2_get hk hv with ⟨-, rfl⟩ | ⟨-, -, h2, -⟩
  · exact all_hd y3
  · exact y4 _ _ h2
theorem s_lstore {Z : Act} {B : Bg} (hC : Cx Z B) {pc : Nat} {L : Lc} {w : Wd} {st : List PV} {k : Nat} {x : Int} (hd : decode (mB B.1) pc = .ok (.lstore k, 2)) (hk : k + 1 < L.length) (K : GX Z B (pc + 2) (sto2 L k (pvL x)) (st) w) : GX Z B pc L (pvL x :: st) w := by
  obtain ⟨p, l, e, R, s, m, args, below, meth, c, D, cs, A, Q⟩ := Z
  obtain ⟨M, d, w0, al0, o, X, b⟩ := B
  obtain ⟨⟨hx, hb, hml, hown⟩, hts, hA, ⟨hlk, hst, hrt, hin, hex⟩, hMF, hR, hXs⟩ := hC
  intro al H locs la hy
  obtain ⟨y1, y2, y3, y4, y5, y6, y7, y8, y9⟩ := id hy
  have hk2 : k + 1 < mL M := by rw [← y6.1]; exact hk
  refine lv_lstore hx hb hd y6.has hk2 rfl (fun la2 hl2 => ?_)
  refine K al H locs la2 ⟨y1, y2, all_tl y3, fun i v hv => ?_, y5, LH.put2 (v := pvL x) y6.1 hk2 hl2, y7, y8, y9⟩
  rcases sto2_get hk hv with ⟨-, rfl⟩ | ⟨-, -, h2, -⟩
  · exact all_hd y3
  · exact y4 _ _ h2
theorem s_astore_n {Z : Act} {B : Bg} (hC : Cx Z B) {pc : Nat} {L : Lc} {w : Wd} {st : List PV} {k : Fin 4} {v : PV} (hd : decode (mB B.1) pc = .ok (.astore_n k, 1)) (hk : (k : Nat) < L.length) (hv : 2 ≤ v.1) (K : GX Z B (pc + 1) (sto1 L (k : Nat) v) (st) w) : GX Z B pc L (v :: st) w := by
  obtain ⟨p, l, e, R, s, m, args, below, meth, c, D, cs, A, Q⟩ := Z
  obtain ⟨M, d, w0, al0, o, X, b⟩ := B
  obtain ⟨⟨hx, hb, hml, hown⟩, hts, hA, ⟨hlk, hst, hrt, hin, hex⟩, hMF, hR, hXs⟩ := hC
  intro al H locs la hy
  obtain ⟨y1, y2, y3, y4, y5, y6, y7, y8, y9⟩ := id hy
  have hk2 : (k : Nat) < mL M := by rw [← y6.1]; exact hk
  rcases vl_ref (al := al) (b := b) (n := w.2.1) hv with h0 | ⟨a, h0⟩
  · show W p l e R s m args below meth c H locs (cn w w0) (sn w w0) Q (F0 m pc la (vl al b v :: st.map (vl al b)))
    rw [h0]
    refine lv_astore_nN hx hb hd rfl y6.has hk2 rfl (fun la2 hl2 => ?_)
    refine K al H locs la2 ⟨y1, y2, all_tl y3, fun i v hv => ?_, y5, LH.put1 (v := v) y6.1 hk2 (by rw [h0]; exact hl2), y7, y8, y9⟩
    rcases sto1_get hk hv with ⟨-, rfl⟩ | ⟨-, h2, -⟩
    · exact all_hd y3
    · exact y4 _ _ h2
  · show W p l e R s m args below meth c H locs (cn w w0) (sn w w0) Q (F0 m pc la (vl al b v :: st.map (vl al b)))
    rw [h0]
    refine lv_astore_n hx hb hd rfl y6.has hk2 rfl (fun la2 hl2 => ?_)
    refine K al H locs la2 ⟨y1, y2, all_tl y3, fun i v hv => ?_, y5, LH.put1 (v := v) y6.1 hk2 (by rw [h0]; exact hl2), y7, y8, y9⟩
    rcases sto1_get hk hv with ⟨-, rfl⟩ | ⟨-, h2, -⟩
    · exact all_hd y3
    · exact y4 _ _ h2
theorem s_astore {Z : Act} {B : Bg} (hC : Cx Z B) {pc : Nat} {L : Lc} {w : Wd} {st : List PV} {k : Nat} {v : PV} (hd : decode (mB B.1) pc = .ok (.astore k, 2)) (hk : k < L.length) (hv : 2 ≤ v.1) (K : GX Z B (pc + 2) (sto1 L k v) (st) w) : GX Z B pc L (v :: st) w := by
  obtain ⟨p, l, e, R, s, m, args, below, meth, c, D, cs, A, Q⟩ := Z
  obtain ⟨M, d, w0, al0, o, X, b⟩ := B
  obtain ⟨⟨hx, hb, hml, hown⟩, hts, hA, ⟨hlk, hst, hrt, hin, hex⟩, hMF, hR, hXs⟩ := hC
  intro al H locs la hy
  obtain ⟨y1, y2, y3, y4, y5, y6, y7, y8, y9⟩ := id hy
  have hk2 : k < mL M := by rw [← y6.1]; exact hk
  rcases vl_ref (al := al) (b := b) (n := w.2.1) hv with h0 | ⟨a, h0⟩
  · show W p l e R s m args below meth c H locs (cn w w0) (sn w w0) Q (F0 m pc la (vl al b v :: st.map (vl al b)))
    rw [h0]
    refine lv_astoreN hx hb hd y6.has hk2 rfl (fun la2 hl2 => ?_)
    refine K al H locs la2 ⟨y1, y2, all_tl y3, fun i v hv => ?_, y5, LH.put1 (v := v) y6.1 hk2 (by rw [h0]; exact hl2), y7, y8, y9⟩
    rcases sto1_get hk hv with ⟨-, rfl⟩ | ⟨-, h2, -⟩
    · exact all_hd y3
    · exact y4 _ _ h2
  · show W p l e R s m args below meth c H locs (cn w w0) (sn w w0) Q (F0 m pc la (vl al b v :: st.map (vl al b)))
    rw [h0]
    refine lv_astore hx hb hd y6.has hk2 rfl (fun la2 hl2 => ?_)
    refine K al H locs la2 ⟨y1, y2, all_tl y3, fun i v hv => ?_, y5, LH.put1 (v := v) y6.1 hk2 (by rw [h0]; exact hl2), y7, y8, y9⟩
    rcases sto1_get hk hv with ⟨-, rfl⟩ | ⟨-, h2, -⟩
    · exact all_hd y3
    · exact y4 _ _ h2
theorem s_iinc {Z : Act} {B : Bg} (hC : Cx Z B) {pc : Nat} {L : Lc} {w : Wd} {st : List PV} {k : Nat} {dd x : Int} (hd : decode (mB B.1) pc = .ok (.iinc k dd, 3)) (h : L[k]? = some (some (pvI x))) (hr : r32 (x + dd)) (K : GX Z B (pc + 3) (sto1 L k (pvI (x + dd))) (st) w) : GX Z B pc L (st) w := by
  obtain ⟨p, l, e, R, s, m, args, below, meth, c, D, cs, A, Q⟩ := Z
  obtain ⟨M, d, w0, al0, o, X, b⟩ := B
  obtain ⟨⟨hx, hb, hml, hown⟩, hts, hA, ⟨hlk, hst, hrt, hin, hex⟩, hMF, hR, hXs⟩ := hC
  intro al H locs la hy
  obtain ⟨y1, y2, y3, y4, y5, y6, y7, y8, y9⟩ := id hy
  have hk : k < L.length := (List.getElem?_eq_some_iff.mp h).1
  have hk2 : k < mL M := by rw [← y6.1]; exact hk
  obtain ⟨j, hj⟩ := List.getElem?_of_mem (asc_mem (al := al) (b := b) (L := L) (q := (k, .int (Int32.ofInt x))) |>.mpr ⟨pvI x, h, rfl⟩)
  refine lv_iinc (v := Int32.ofInt (x + dd)) hx hb hd y6.has hj (by rw [i_add, w32_id hr]) hk2 rfl (fun la2 hl2 => ?_)
  refine K al H locs la2 ⟨y1, y2, y3, fun i v hv => ?_, y5, LH.put1 (v := pvI (x + dd)) y6.1 hk2 hl2, y7, y8, y9⟩
  rcases sto1_get hk hv with ⟨-, rfl⟩ | ⟨-, h2, -⟩
  · exact hr
  · exact y4 _ _ h2
theorem s_iadd {Z : Act} {B : Bg} (hC : Cx Z B) {pc : Nat} {L : Lc} {w : Wd} {st : List PV} {x y : Int} (hd : decode (mB B.1) pc = .ok (.iadd, 1)) (hr : r32 (x + y)) (K : GX Z B (pc + 1) L (pvI (x + y) :: st) w) : GX Z B pc L (pvI y :: pvI x :: st) w := by
  obtain ⟨p, l, e, R, s, m, args, below, meth, c, D, cs, A, Q⟩ := Z
  obtain ⟨M, d, w0, al0, o, X, b⟩ := B
  obtain ⟨⟨hx, hb, hml, hown⟩, hts, hA, ⟨hlk, hst, hrt, hin, hex⟩, hMF, hR, hXs⟩ := hC
  intro al H locs la hy
  obtain ⟨y1, y2, y3, y4, y5, y6, y7, y8, y9⟩ := id hy
  have hrx : r32 x := all_hd (all_tl y3)
  have hry : r32 y := all_hd y3
  have KK : W p l e R s m args below meth c H locs (cn w w0) (sn w w0) Q (F0 m (pc + 1) la (vl al b (pvI (x + y)) :: st.map (vl al b))) := K al H locs la (hy.st (all_cons (hr) (all_tl (all_tl y3))))
  show W p l e R s m args below meth c H locs (cn w w0) (sn w w0) Q (F0 m pc la (.int (Int32.ofInt y) :: .int (Int32.ofInt x) :: st.map (vl al b)))
  refine lv_iadd hx hb hd ?_
  rw [i_add, w32_id hr]
  exact KK
theorem s_isub {Z : Act} {B : Bg} (hC : Cx Z B) {pc : Nat} {L : Lc} {w : Wd} {st : List PV} {x y : Int} (hd : decode (mB B.1) pc = .ok (.isub, 1)) (hr : r32 (x - y)) (K : GX Z B (pc + 1) L (pvI (x - y) :: st) w) : GX Z B pc L (pvI y :: pvI x :: st) w := by
  obtain ⟨p, l, e, R, s, m, args, below, meth, c, D, cs, A, Q⟩ := Z
  obtain ⟨M, d, w0, al0, o, X, b⟩ := B
  obtain ⟨⟨hx, hb, hml, hown⟩, hts, hA, ⟨hlk, hst, hrt, hin, hex⟩, hMF, hR, hXs⟩ := hC
  intro al H locs la hy
  obtain ⟨y1, y2, y3, y4, y5, y6, y7, y8, y9⟩ := id hy
  have hrx : r32 x := all_hd (all_tl y3)
  have hry : r32 y := all_hd y3
  have KK : W p l e R s m args below meth c H locs (cn w w0) (sn w w0) Q (F0 m (pc + 1) la (vl al b (pvI (x - y)) :: st.map (vl al b))) := K al H locs la (hy.st (all_cons (hr) (all_tl (all_tl y3))))
  show W p l e R s m args below meth c H locs (cn w w0) (sn w w0) Q (F0 m pc la (.int (Int32.ofInt y) :: .int (Int32.ofInt x) :: st.map (vl al b)))
  refine lv_isub hx hb hd ?_
  rw [i_sub, w32_id hr]
  exact KK
theorem s_imul {Z : Act} {B : Bg} (hC : Cx Z B) {pc : Nat} {L : Lc} {w : Wd} {st : List PV} {x y : Int} (hd : decode (mB B.1) pc = .ok (.imul, 1)) (hr : r32 (x * y)) (K : GX Z B (pc + 1) L (pvI (x * y) :: st) w) : GX Z B pc L (pvI y :: pvI x :: st) w := by
  obtain ⟨p, l, e, R, s, m, args, below, meth, c, D, cs, A, Q⟩ := Z
  obtain ⟨M, d, w0, al0, o, X, b⟩ := B
  obtain ⟨⟨hx, hb, hml, hown⟩, hts, hA, ⟨hlk, hst, hrt, hin, hex⟩, hMF, hR, hXs⟩ := hC
  intro al H locs la hy
  obtain ⟨y1, y2, y3, y4, y5, y6, y7, y8, y9⟩ := id hy
  have hrx : r32 x := all_hd (all_tl y3)
  have hry : r32 y := all_hd y3
  have KK : W p l e R s m args below meth c H locs (cn w w0) (sn w w0) Q (F0 m (pc + 1) la (vl al b (pvI (x * y)) :: st.map (vl al b))) := K al H locs la (hy.st (all_cons (hr) (all_tl (all_tl y3))))
  show W p l e R s m args below meth c H locs (cn w w0) (sn w w0) Q (F0 m pc la (.int (Int32.ofInt y) :: .int (Int32.ofInt x) :: st.map (vl al b)))
  refine lv_imul hx hb hd ?_
  rw [i_mul, w32_id hr]
  exact KK
theorem s_ladd {Z : Act} {B : Bg} (hC : Cx Z B) {pc : Nat} {L : Lc} {w : Wd} {st : List PV} {x y : Int} (hd : decode (mB B.1) pc = .ok (.ladd, 1)) (hr : r64 (x + y)) (K : GX Z B (pc + 1) L (pvL (x + y) :: st) w) : GX Z B pc L (pvL y :: pvL x :: st) w := by
  obtain ⟨p, l, e, R, s, m, args, below, meth, c, D, cs, A, Q⟩ := Z
  obtain ⟨M, d, w0, al0, o, X, b⟩ := B
  obtain ⟨⟨hx, hb, hml, hown⟩, hts, hA, ⟨hlk, hst, hrt, hin, hex⟩, hMF, hR, hXs⟩ := hC
  intro al H locs la hy
  obtain ⟨y1, y2, y3, y4, y5, y6, y7, y8, y9⟩ := id hy
  have hrx : r64 x := all_hd (all_tl y3)
  have hry : r64 y := all_hd y3
  have KK : W p l e R s m args below meth c H locs (cn w w0) (sn w w0) Q (F0 m (pc + 1) la (vl al b (pvL (x + y)) :: st.map (vl al b))) := K al H locs la (hy.st (all_cons (hr) (all_tl (all_tl y3))))
  show W p l e R s m args below meth c H locs (cn w w0) (sn w w0) Q (F0 m pc la (.long (Int64.ofInt y) :: .long (Int64.ofInt x) :: st.map (vl al b)))
  refine lv_ladd hx hb hd ?_
  rw [l_add, w64_id hr]
  exact KK
theorem s_lsub {Z : Act} {B : Bg} (hC : Cx Z B) {pc : Nat} {L : Lc} {w : Wd} {st : List PV} {x y : Int} (hd : decode (mB B.1) pc = .ok (.lsub, 1)) (hr : r64 (x - y)) (K : GX Z B (pc + 1) L (pvL (x - y) :: st) w) : GX Z B pc L (pvL y :: pvL x :: st) w := by
  obtain ⟨p, l, e, R, s, m, args, below, meth, c, D, cs, A, Q⟩ := Z
  obtain ⟨M, d, w0, al0, o, X, b⟩ := B
  obtain ⟨⟨hx, hb, hml, hown⟩, hts, hA, ⟨hlk, hst, hrt, hin, hex⟩, hMF, hR, hXs⟩ := hC
  intro al H locs la hy
  obtain ⟨y1, y2, y3, y4, y5, y6, y7, y8, y9⟩ := id hy
  have hrx : r64 x := all_hd (all_tl y3)
  have hry : r64 y := all_hd y3
  have KK : W p l e R s m args below meth c H locs (cn w w0) (sn w w0) Q (F0 m (pc + 1) la (vl al b (pvL (x - y)) :: st.map (vl al b))) := K al H locs la (hy.st (all_cons (hr) (all_tl (all_tl y3))))
  show W p l e R s m args below meth c H locs (cn w w0) (sn w w0) Q (F0 m pc la (.long (Int64.ofInt y) :: .long (Int64.ofInt x) :: st.map (vl al b)))
  refine lv_lsub hx hb hd ?_
  rw [l_sub, w64_id hr]
  exact KK
theorem s_lmul {Z : Act} {B : Bg} (hC : Cx Z B) {pc : Nat} {L : Lc} {w : Wd} {st : List PV} {x y : Int} (hd : decode (mB B.1) pc = .ok (.lmul, 1)) (hr : r64 (x * y)) (K : GX Z B (pc + 1) L (pvL (x * y) :: st) w) : GX Z B pc L (pvL y :: pvL x :: st) w := by
  obtain ⟨p, l, e, R, s, m, args, below, meth, c, D, cs, A, Q⟩ := Z
  obtain ⟨M, d, w0, al0, o, X, b⟩ := B
  obtain ⟨⟨hx, hb, hml, hown⟩, hts, hA, ⟨hlk, hst, hrt, hin, hex⟩, hMF, hR, hXs⟩ := hC
  intro al H locs la hy
  obtain ⟨y1, y2, y3, y4, y5, y6, y7, y8, y9⟩ := id hy
  have hrx : r64 x := all_hd (all_tl y3)
  have hry : r64 y := all_hd y3
  have KK : W p l e R s m args below meth c H locs (cn w w0) (sn w w0) Q (F0 m (pc + 1) la (vl al b (pvL (x * y)) :: st.map (vl al b))) := K al H locs la (hy.st (all_cons (hr) (all_tl (all_tl y3))))
  show W p l e R s m args below meth c H locs (cn w w0) (sn w w0) Q (F0 m pc la (.long (Int64.ofInt y) :: .long (Int64.ofInt x) :: st.map (vl al b)))
  refine lv_lmul hx hb hd ?_
  rw [l_mul, w64_id hr]
  exact KK
theorem s_idiv {Z : Act} {B : Bg} (hC : Cx Z B) {pc : Nat} {L : Lc} {w : Wd} {st : List PV} {x y : Int} (hd : decode (mB B.1) pc = .ok (.idiv, 1)) (hp : 0 < y) (K : GX Z B (pc + 1) L (pvI (x.tdiv y) :: st) w) : GX Z B pc L (pvI y :: pvI x :: st) w := by
  obtain ⟨p, l, e, R, s, m, args, below, meth, c, D, cs, A, Q⟩ := Z
  obtain ⟨M, d, w0, al0, o, X, b⟩ := B
  obtain ⟨⟨hx, hb, hml, hown⟩, hts, hA, ⟨hlk, hst, hrt, hin, hex⟩, hMF, hR, hXs⟩ := hC
  intro al H locs la hy
  obtain ⟨y1, y2, y3, y4, y5, y6, y7, y8, y9⟩ := id hy
  have hrx : r32 x := all_hd (all_tl y3)
  have hry : r32 y := all_hd y3
  have KK : W p l e R s m args below meth c H locs (cn w w0) (sn w w0) Q (F0 m (pc + 1) la (vl al b (pvI (x.tdiv y)) :: st.map (vl al b))) := K al H locs la (hy.st (all_cons (q_r32 hrx hp) (all_tl (all_tl y3))))
  show W p l e R s m args below meth c H locs (cn w w0) (sn w w0) Q (F0 m pc la (.int (Int32.ofInt y) :: .int (Int32.ofInt x) :: st.map (vl al b)))
  refine lv_idiv hx hb hd (i_ne0 hry (by omega)) ?_
  rw [i_div hrx hry, idiv, w32_id (q_r32 hrx hp)]
  exact KK
theorem s_irem {Z : Act} {B : Bg} (hC : Cx Z B) {pc : Nat} {L : Lc} {w : Wd} {st : List PV} {x y : Int} (hd : decode (mB B.1) pc = .ok (.irem, 1)) (hp : 0 < y) (K : GX Z B (pc + 1) L (pvI (x.tmod y) :: st) w) : GX Z B pc L (pvI y :: pvI x :: st) w := by
  obtain ⟨p, l, e, R, s, m, args, below, meth, c, D, cs, A, Q⟩ := Z
  obtain ⟨M, d, w0, al0, o, X, b⟩ := B
  obtain ⟨⟨hx, hb, hml, hown⟩, hts, hA, ⟨hlk, hst, hrt, hin, hex⟩, hMF, hR, hXs⟩ := hC
  intro al H locs la hy
  obtain ⟨y1, y2, y3, y4, y5, y6, y7, y8, y9⟩ := id hy
  have hrx : r32 x := all_hd (all_tl y3)
  have hry : r32 y := all_hd y3
  have KK : W p l e R s m args below meth c H locs (cn w w0) (sn w w0) Q (F0 m (pc + 1) la (vl al b (pvI (x.tmod y)) :: st.map (vl al b))) := K al H locs la (hy.st (all_cons (m_r32 hrx hry hp) (all_tl (all_tl y3))))
  show W p l e R s m args below meth c H locs (cn w w0) (sn w w0) Q (F0 m pc la (.int (Int32.ofInt y) :: .int (Int32.ofInt x) :: st.map (vl al b)))
  refine lv_irem hx hb hd (i_ne0 hry (by omega)) ?_
  rw [i_rem hrx hry]
  exact KK
theorem s_ldiv {Z : Act} {B : Bg} (hC : Cx Z B) {pc : Nat} {L : Lc} {w : Wd} {st : List PV} {x y : Int} (hd : decode (mB B.1) pc = .ok (.ldiv, 1)) (hp : y ≠ 0) (hr : r64 (x.tdiv y)) (K : GX Z B (pc + 1) L (pvL (x.tdiv y) :: st) w) : GX Z B pc L (pvL y :: pvL x :: st) w := by
  obtain ⟨p, l, e, R, s, m, args, below, meth, c, D, cs, A, Q⟩ := Z
  obtain ⟨M, d, w0, al0, o, X, b⟩ := B
  obtain ⟨⟨hx, hb, hml, hown⟩, hts, hA, ⟨hlk, hst, hrt, hin, hex⟩, hMF, hR, hXs⟩ := hC
  intro al H locs la hy
  obtain ⟨y1, y2, y3, y4, y5, y6, y7, y8, y9⟩ := id hy
  have hrx : r64 x := all_hd (all_tl y3)
  have hry : r64 y := all_hd y3
  have KK : W p l e R s m args below meth c H locs (cn w w0) (sn w w0) Q (F0 m (pc + 1) la (vl al b (pvL (x.tdiv y)) :: st.map (vl al b))) := K al H locs la (hy.st (all_cons (hr) (all_tl (all_tl y3))))
  show W p l e R s m args below meth c H locs (cn w w0) (sn w w0) Q (F0 m pc la (.long (Int64.ofInt y) :: .long (Int64.ofInt x) :: st.map (vl al b)))
  refine lv_ldiv hx hb hd (l_ne0 hry hp) ?_
  rw [l_div hrx hry, ldiv, w64_id hr]
  exact KK
theorem s_lrem {Z : Act} {B : Bg} (hC : Cx Z B) {pc : Nat} {L : Lc} {w : Wd} {st : List PV} {x y : Int} (hd : decode (mB B.1) pc = .ok (.lrem, 1)) (hp : 0 < y) (K : GX Z B (pc + 1) L (pvL (x.tmod y) :: st) w) : GX Z B pc L (pvL y :: pvL x :: st) w := by
  obtain ⟨p, l, e, R, s, m, args, below, meth, c, D, cs, A, Q⟩ := Z
  obtain ⟨M, d, w0, al0, o, X, b⟩ := B
  obtain ⟨⟨hx, hb, hml, hown⟩, hts, hA, ⟨hlk, hst, hrt, hin, hex⟩, hMF, hR, hXs⟩ := hC
  intro al H locs la hy
  obtain ⟨y1, y2, y3, y4, y5, y6, y7, y8, y9⟩ := id hy
  have hrx : r64 x := all_hd (all_tl y3)
  have hry : r64 y := all_hd y3
  have KK : W p l e R s m args below meth c H locs (cn w w0) (sn w w0) Q (F0 m (pc + 1) la (vl al b (pvL (x.tmod y)) :: st.map (vl al b))) := K al H locs la (hy.st (all_cons (m_r64 hrx hry hp) (all_tl (all_tl y3))))
  show W p l e R s m args below meth c H locs (cn w w0) (sn w w0) Q (F0 m pc la (.long (Int64.ofInt y) :: .long (Int64.ofInt x) :: st.map (vl al b)))
  refine lv_lrem hx hb hd (l_ne0 hry (by omega)) ?_
  rw [l_rem hrx hry]
  exact KK
theorem s_iand {Z : Act} {B : Bg} (hC : Cx Z B) {pc : Nat} {L : Lc} {w : Wd} {st : List PV} {x y : Int} (hd : decode (mB B.1) pc = .ok (.iand, 1)) (K : GX Z B (pc + 1) L (pvI (iand x y) :: st) w) : GX Z B pc L (pvI y :: pvI x :: st) w := by
  obtain ⟨p, l, e, R, s, m, args, below, meth, c, D, cs, A, Q⟩ := Z
  obtain ⟨M, d, w0, al0, o, X, b⟩ := B
  obtain ⟨⟨hx, hb, hml, hown⟩, hts, hA, ⟨hlk, hst, hrt, hin, hex⟩, hMF, hR, hXs⟩ := hC
  intro al H locs la hy
  obtain ⟨y1, y2, y3, y4, y5, y6, y7, y8, y9⟩ := id hy
  have hrx : r32 x := all_hd (all_tl y3)
  have hry : r32 y := all_hd y3
  have KK : W p l e R s m args below meth c H locs (cn w w0) (sn w w0) Q (F0 m (pc + 1) la (vl al b (pvI (iand x y)) :: st.map (vl al b))) := K al H locs la (hy.st (all_cons (r32_toInt _) (all_tl (all_tl y3))))
  show W p l e R s m args below meth c H locs (cn w w0) (sn w w0) Q (F0 m pc la (.int (Int32.ofInt y) :: .int (Int32.ofInt x) :: st.map (vl al b)))
  refine lv_iand hx hb hd ?_
  rw [of_iand]
  exact KK
theorem s_ior {Z : Act} {B : Bg} (hC : Cx Z B) {pc : Nat} {L : Lc} {w : Wd} {st : List PV} {x y : Int} (hd : decode (mB B.1) pc = .ok (.ior, 1)) (K : GX Z B (pc + 1) L (pvI (ior x y) :: st) w) : GX Z B pc L (pvI y :: pvI x :: st) w := by
  obtain ⟨p, l, e, R, s, m, args, below, meth, c, D, cs, A, Q⟩ := Z
  obtain ⟨M, d, w0, al0, o, X, b⟩ := B
  obtain ⟨⟨hx, hb, hml, hown⟩, hts, hA, ⟨hlk, hst, hrt, hin, hex⟩, hMF, hR, hXs⟩ := hC
  intro al H locs la hy
  obtain ⟨y1, y2, y3, y4, y5, y6, y7, y8, y9⟩ := id hy
  have hrx : r32 x := all_hd (all_tl y3)
  have hry : r32 y := all_hd y3
  have KK : W p l e R s m args below meth c H locs (cn w w0) (sn w w0) Q (F0 m (pc + 1) la (vl al b (pvI (ior x y)) :: st.map (vl al b))) := K al H locs la (hy.st (all_cons (r32_toInt _) (all_tl (all_tl y3))))
  show W p l e R s m args below meth c H locs (cn w w0) (sn w w0) Q (F0 m pc la (.int (Int32.ofInt y) :: .int (Int32.ofInt x) :: st.map (vl al b)))
  refine lv_ior hx hb hd ?_
  rw [of_ior]
  exact KK
theorem s_ishl {Z : Act} {B : Bg} (hC : Cx Z B) {pc : Nat} {L : Lc} {w : Wd} {st : List PV} {x y : Int} (hd : decode (mB B.1) pc = .ok (.ishl, 1)) (K : GX Z B (pc + 1) L (pvI (ishl x y) :: st) w) : GX Z B pc L (pvI y :: pvI x :: st) w := by
  obtain ⟨p, l, e, R, s, m, args, below, meth, c, D, cs, A, Q⟩ := Z
  obtain ⟨M, d, w0, al0, o, X, b⟩ := B
  obtain ⟨⟨hx, hb, hml, hown⟩, hts, hA, ⟨hlk, hst, hrt, hin, hex⟩, hMF, hR, hXs⟩ := hC
  intro al H locs la hy
  obtain ⟨y1, y2, y3, y4, y5, y6, y7, y8, y9⟩ := id hy
  have hrx : r32 x := all_hd (all_tl y3)
  have hry : r32 y := all_hd y3
  have KK : W p l e R s m args below meth c H locs (cn w w0) (sn w w0) Q (F0 m (pc + 1) la (vl al b (pvI (ishl x y)) :: st.map (vl al b))) := K al H locs la (hy.st (all_cons (r32_toInt _) (all_tl (all_tl y3))))
  show W p l e R s m args below meth c H locs (cn w w0) (sn w w0) Q (F0 m pc la (.int (Int32.ofInt y) :: .int (Int32.ofInt x) :: st.map (vl al b)))
  refine lv_ishl hx hb hd ?_
  rw [of_ishl]
  exact KK
theorem s_ishr {Z : Act} {B : Bg} (hC : Cx Z B) {pc : Nat} {L : Lc} {w : Wd} {st : List PV} {x y : Int} (hd : decode (mB B.1) pc = .ok (.ishr, 1)) (K : GX Z B (pc + 1) L (pvI (ishr x y) :: st) w) : GX Z B pc L (pvI y :: pvI x :: st) w := by
  obtain ⟨p, l, e, R, s, m, args, below, meth, c, D, cs, A, Q⟩ := Z
  obtain ⟨M, d, w0, al0, o, X, b⟩ := B
  obtain ⟨⟨hx, hb, hml, hown⟩, hts, hA, ⟨hlk, hst, hrt, hin, hex⟩, hMF, hR, hXs⟩ := hC
  intro al H locs la hy
  obtain ⟨y1, y2, y3, y4, y5, y6, y7, y8, y9⟩ := id hy
  have hrx : r32 x := all_hd (all_tl y3)
  have hry : r32 y := all_hd y3
  have KK : W p l e R s m args below meth c H locs (cn w w0) (sn w w0) Q (F0 m (pc + 1) la (vl al b (pvI (ishr x y)) :: st.map (vl al b))) := K al H locs la (hy.st (all_cons (r32_toInt _) (all_tl (all_tl y3))))
  show W p l e R s m args below meth c H locs (cn w w0) (sn w w0) Q (F0 m pc la (.int (Int32.ofInt y) :: .int (Int32.ofInt x) :: st.map (vl al b)))
  refine lv_ishr hx hb hd ?_
  rw [of_ishr]
  exact KK
theorem s_iushr {Z : Act} {B : Bg} (hC : Cx Z B) {pc : Nat} {L : Lc} {w : Wd} {st : List PV} {x y : Int} (hd : decode (mB B.1) pc = .ok (.iushr, 1)) (K : GX Z B (pc + 1) L (pvI (iushr x y) :: st) w) : GX Z B pc L (pvI y :: pvI x :: st) w := by
  obtain ⟨p, l, e, R, s, m, args, below, meth, c, D, cs, A, Q⟩ := Z
  obtain ⟨M, d, w0, al0, o, X, b⟩ := B
  obtain ⟨⟨hx, hb, hml, hown⟩, hts, hA, ⟨hlk, hst, hrt, hin, hex⟩, hMF, hR, hXs⟩ := hC
  intro al H locs la hy
  obtain ⟨y1, y2, y3, y4, y5, y6, y7, y8, y9⟩ := id hy
  exact lv_iushr (v := Int32.ofInt (iushr x y)) hx hb hd (by show _ = Int32.ofInt (iushr x y); unfold iushr; rw [of_toInt32]; rfl) (K al H locs la (hy.st (all_cons (r32_toInt _) (all_tl (all_tl y3)))))
theorem s_lneg {Z : Act} {B : Bg} (hC : Cx Z B) {pc : Nat} {L : Lc} {w : Wd} {st : List PV} {x : Int} (hd : decode (mB B.1) pc = .ok (.lneg, 1)) (hr : r64 (-x)) (K : GX Z B (pc + 1) L (pvL (-x) :: st) w) : GX Z B pc L (pvL x :: st) w := by
  obtain ⟨p, l, e, R, s, m, args, below, meth, c, D, cs, A, Q⟩ := Z
  obtain ⟨M, d, w0, al0, o, X, b⟩ := B
  obtain ⟨⟨hx, hb, hml, hown⟩, hts, hA, ⟨hlk, hst, hrt, hin, hex⟩, hMF, hR, hXs⟩ := hC
  intro al H locs la hy
  obtain ⟨y1, y2, y3, y4, y5, y6, y7, y8, y9⟩ := id hy
  have KK : W p l e R s m args below meth c H locs (cn w w0) (sn w w0) Q (F0 m (pc + 1) la (vl al b (pvL (-x)) :: st.map (vl al b))) := K al H locs la (hy.st (all_cons hr (all_tl y3)))
  show W p l e R s m args below meth c H locs (cn w w0) (sn w w0) Q (F0 m pc la (.long (Int64.ofInt x) :: st.map (vl al b)))
  refine lv_lneg hx hb hd ?_
  rw [l_neg, w64_id hr]
  exact KK
theorem s_lcmp {Z : Act} {B : Bg} (hC : Cx Z B) {pc : Nat} {L : Lc} {w : Wd} {st : List PV} {x y : Int} (hd : decode (mB B.1) pc = .ok (.lcmp, 1)) (K : GX Z B (pc + 1) L (pvI (lcm x y) :: st) w) : GX Z B pc L (pvL y :: pvL x :: st) w := by
  obtain ⟨p, l, e, R, s, m, args, below, meth, c, D, cs, A, Q⟩ := Z
  obtain ⟨M, d, w0, al0, o, X, b⟩ := B
  obtain ⟨⟨hx, hb, hml, hown⟩, hts, hA, ⟨hlk, hst, hrt, hin, hex⟩, hMF, hR, hXs⟩ := hC
  intro al H locs la hy
  obtain ⟨y1, y2, y3, y4, y5, y6, y7, y8, y9⟩ := id hy
  have hrx : r64 x := all_hd (all_tl y3)
  have hry : r64 y := all_hd y3
  have KK : W p l e R s m args below meth c H locs (cn w w0) (sn w w0) Q (F0 m (pc + 1) la (vl al b (pvI (lcm x y)) :: st.map (vl al b))) := K al H locs la (hy.st (all_cons (r32_lcm x y) (all_tl (all_tl y3))))
  show W p l e R s m args below meth c H locs (cn w w0) (sn w w0) Q (F0 m pc la (.long (Int64.ofInt y) :: .long (Int64.ofInt x) :: st.map (vl al b)))
  refine W.lcmp hx hb hd ?_
  rw [lg_lcm hrx hry]
  exact KK
theorem s_i2l {Z : Act} {B : Bg} (hC : Cx Z B) {pc : Nat} {L : Lc} {w : Wd} {st : List PV} {x : Int} (hd : decode (mB B.1) pc = .ok (.i2l, 1)) (K : GX Z B (pc + 1) L (pvL x :: st) w) : GX Z B pc L (pvI x :: st) w := by
  obtain ⟨p, l, e, R, s, m, args, below, meth, c, D, cs, A, Q⟩ := Z
  obtain ⟨M, d, w0, al0, o, X, b⟩ := B
  obtain ⟨⟨hx, hb, hml, hown⟩, hts, hA, ⟨hlk, hst, hrt, hin, hex⟩, hMF, hR, hXs⟩ := hC
  intro al H locs la hy
  obtain ⟨y1, y2, y3, y4, y5, y6, y7, y8, y9⟩ := id hy
  have hrx : r32 x := all_hd y3
  exact lv_i2l (v := Int64.ofInt x) hx hb hd (i_l hrx) (K al H locs la (hy.st (all_cons (show r64 x by unfold r32 at hrx; unfold r64; omega) (all_tl y3))))
theorem s_l2i {Z : Act} {B : Bg} (hC : Cx Z B) {pc : Nat} {L : Lc} {w : Wd} {st : List PV} {x : Int} (hd : decode (mB B.1) pc = .ok (.l2i, 1)) (hr : r32 x) (K : GX Z B (pc + 1) L (pvI x :: st) w) : GX Z B pc L (pvL x :: st) w := by
  obtain ⟨p, l, e, R, s, m, args, below, meth, c, D, cs, A, Q⟩ := Z
  obtain ⟨M, d, w0, al0, o, X, b⟩ := B
  obtain ⟨⟨hx, hb, hml, hown⟩, hts, hA, ⟨hlk, hst, hrt, hin, hex⟩, hMF, hR, hXs⟩ := hC
  intro al H locs la hy
  obtain ⟨y1, y2, y3, y4, y5, y6, y7, y8, y9⟩ := id hy
  exact lv_l2i (v := Int32.ofInt x) hx hb hd (l_i hr) (K al H locs la (hy.st (all_cons hr (all_tl y3))))
theorem s_dup {Z : Act} {B : Bg} (hC : Cx Z B) {pc : Nat} {L : Lc} {w : Wd} {st : List PV} {v : PV} (hd : decode (mB B.1) pc = .ok (.dup, 1)) (hv : v.1 ≠ 1) (K : GX Z B (pc + 1) L (v :: v :: st) w) : GX Z B pc L (v :: st) w := by
  obtain ⟨p, l, e, R, s, m, args, below, meth, c, D, cs, A, Q⟩ := Z
  obtain ⟨M, d, w0, al0, o, X, b⟩ := B
  obtain ⟨⟨hx, hb, hml, hown⟩, hts, hA, ⟨hlk, hst, hrt, hin, hex⟩, hMF, hR, hXs⟩ := hC
  intro al H locs la hy
  obtain ⟨y1, y2, y3, y4, y5, y6, y7, y8, y9⟩ := id hy
  exact lv_dup hx hb hd (by rw [vl_cat, catV, if_neg hv]) (K al H locs la (hy.st (all_cons (all_hd y3) y3)))
theorem s_dup2 {Z : Act} {B : Bg} (hC : Cx Z B) {pc : Nat} {L : Lc} {w : Wd} {st : List PV} {v u : PV} (hd : decode (mB B.1) pc = .ok (.dup2, 1)) (hv : v.1 ≠ 1) (hu : u.1 ≠ 1) (K : GX Z B (pc + 1) L (v :: u :: v :: u :: st) w) : GX Z B pc L (v :: u :: st) w := by
  obtain ⟨p, l, e, R, s, m, args, below, meth, c, D, cs, A, Q⟩ := Z
  obtain ⟨M, d, w0, al0, o, X, b⟩ := B
  obtain ⟨⟨hx, hb, hml, hown⟩, hts, hA, ⟨hlk, hst, hrt, hin, hex⟩, hMF, hR, hXs⟩ := hC
  intro al H locs la hy
  obtain ⟨y1, y2, y3, y4, y5, y6, y7, y8, y9⟩ := id hy
  exact lv_dup2_11 hx hb hd (by rw [vl_cat, catV, if_neg hv]) (by rw [vl_cat, catV, if_neg hu]) (K al H locs la (hy.st (all_cons (all_hd y3) (all_cons (all_hd (all_tl y3)) y3))))
theorem s_pop {Z : Act} {B : Bg} (hC : Cx Z B) {pc : Nat} {L : Lc} {w : Wd} {st : List PV} {v : PV} (hd : decode (mB B.1) pc = .ok (.pop, 1)) (hv : v.1 ≠ 1) (K : GX Z B (pc + 1) L (st) w) : GX Z B pc L (v :: st) w := by
  obtain ⟨p, l, e, R, s, m, args, below, meth, c, D, cs, A, Q⟩ := Z
  obtain ⟨M, d, w0, al0, o, X, b⟩ := B
  obtain ⟨⟨hx, hb, hml, hown⟩, hts, hA, ⟨hlk, hst, hrt, hin, hex⟩, hMF, hR, hXs⟩ := hC
  intro al H locs la hy
  obtain ⟨y1, y2, y3, y4, y5, y6, y7, y8, y9⟩ := id hy
  exact lv_pop hx hb hd (by rw [vl_cat, catV, if_neg hv]) (K al H locs la (hy.st (all_tl y3)))
theorem s_if {Z : Act} {B : Bg} (hC : Cx Z B) {pc : Nat} {L : Lc} {w : Wd} {st : List PV} {o : Jvm.ClassFile.Cond} {off x : Int} {t : Nat} (hd : decode (mB B.1) pc = .ok (.ifCond o off, 3)) (ht : (pc : Int) + off = t) (K1 : cnd o x 0 → GX Z B t L (st) w) (K2 : ¬ cnd o x 0 → GX Z B (pc + 3) L (st) w) : GX Z B pc L (pvI x :: st) w := by
  obtain ⟨p, l, e, R, s, m, args, below, meth, c, D, cs, A, Q⟩ := Z
  obtain ⟨M, d, w0, al0, o, X, b⟩ := B
  obtain ⟨⟨hx, hb, hml, hown⟩, hts, hA, ⟨hlk, hst, hrt, hin, hex⟩, hMF, hR, hXs⟩ := hC
  intro al H locs la hy
  obtain ⟨y1, y2, y3, y4, y5, y6, y7, y8, y9⟩ := id hy
  rename_i o9
  have hrx : r32 x := all_hd y3
  have hz : r32 0 := r32_c rfl
  have h0 : (0 : Int32) = Int32.ofInt 0 := rfl
  have k1 := fun h => K1 h al H locs la (hy.st (all_tl y3))
  have k2 := fun h => K2 h al H locs la (hy.st (all_tl y3))
  cases o9 with
  | eq => exact lv_if_eq hx hb hd ht (fun h => k1 (by rw [h0] at h; exact (i_eq hrx hz).mp h)) (fun h => k2 (fun g => h (by rw [h0]; exact (i_eq hrx hz).mpr g)))
  | ne => exact lv_if_ne hx hb hd ht (fun h => k1 (by rw [h0] at h; exact fun z => h ((i_eq hrx hz).mpr z))) (fun h => k2 (fun g => g ((i_eq hrx hz).mp (by rw [h0] at h; exact h))))
  | lt => exact lv_if_lt hx hb hd ht (fun h => k1 (by rw [h0] at h; exact (i_lt hrx hz).mp h)) (fun h => k2 (fun g => h (by rw [h0]; exact (i_lt hrx hz).mpr g)))
  | ge => exact lv_if_ge hx hb hd ht (fun h => k1 (by rw [h0] at h; exact (i_le hz hrx).mp h)) (fun h => k2 (fun g => h (by rw [h0]; exact (i_le hz hrx).mpr g)))
  | gt => exact lv_if_gt hx hb hd ht (fun h => k1 (by rw [h0] at h; exact (i_lt hz hrx).mp h)) (fun h => k2 (fun g => h (by rw [h0]; exact (i_lt hz hrx).mpr g)))
  | le => exact lv_if_le hx hb hd ht (fun h => k1 (by rw [h0] at h; exact (i_le hrx hz).mp h)) (fun h => k2 (fun g => h (by rw [h0]; exact (i_le hrx hz).mpr g)))
theorem s_icmp {Z : Act} {B : Bg} (hC : Cx Z B) {pc : Nat} {L : Lc} {w : Wd} {st : List PV} {o : Jvm.ClassFile.Cond} {off x y : Int} {t : Nat} (hd : decode (mB B.1) pc = .ok (.if_icmp o off, 3)) (ht : (pc : Int) + off = t) (K1 : cnd o x y → GX Z B t L (st) w) (K2 : ¬ cnd o x y → GX Z B (pc + 3) L (st) w) : GX Z B pc L (pvI y :: pvI x :: st) w := by
  obtain ⟨p, l, e, R, s, m, args, below, meth, c, D, cs, A, Q⟩ := Z
  obtain ⟨M, d, w0, al0, o, X, b⟩ := B
  obtain ⟨⟨hx, hb, hml, hown⟩, hts, hA, ⟨hlk, hst, hrt, hin, hex⟩, hMF, hR, hXs⟩ := hC
  intro al H locs la hy
  obtain ⟨y1, y2, y3, y4, y5, y6, y7, y8, y9⟩ := id hy
  rename_i o9
  have hrx : r32 x := all_hd (all_tl y3)
  have hz : r32 y := all_hd y3
  have k1 := fun h => K1 h al H locs la (hy.st (all_tl (all_tl y3)))
  have k2 := fun h => K2 h al H locs la (hy.st (all_tl (all_tl y3)))
  cases o9 with
  | eq => exact lv_icmp_eq hx hb hd ht (fun h => k1 ((i_eq hrx hz).mp h)) (fun h => k2 (fun g => h ((i_eq hrx hz).mpr g)))
  | ne => exact lv_icmp_ne hx hb hd ht (fun h => k1 (fun z => h ((i_eq hrx hz).mpr z))) (fun h => k2 (fun g => g ((i_eq hrx hz).mp h)))
  | lt => exact lv_icmp_lt hx hb hd ht (fun h => k1 ((i_lt hrx hz).mp h)) (fun h => k2 (fun g => h ((i_lt hrx hz).mpr g)))
  | ge => exact lv_icmp_ge hx hb hd ht (fun h => k1 ((i_le hz hrx).mp h)) (fun h => k2 (fun g => h ((i_le hz hrx).mpr g)))
  | gt => exact lv_icmp_gt hx hb hd ht (fun h => k1 ((i_lt hz hrx).mp h)) (fun h => k2 (fun g => h ((i_lt hz hrx).mpr g)))
  | le => exact lv_icmp_le hx hb hd ht (fun h => k1 ((i_le hrx hz).mp h)) (fun h => k2 (fun g => h ((i_le hrx hz).mpr g)))
theorem s_goto {Z : Act} {B : Bg} (hC : Cx Z B) {pc : Nat} {L : Lc} {w : Wd} {st : List PV} {off : Int} {t : Nat} (hd : decode (mB B.1) pc = .ok (.goto off, 3)) (ht : (pc : Int) + off = t) (K : GX Z B t L (st) w) : GX Z B pc L (st) w := by
  obtain ⟨p, l, e, R, s, m, args, below, meth, c, D, cs, A, Q⟩ := Z
  obtain ⟨M, d, w0, al0, o, X, b⟩ := B
  obtain ⟨⟨hx, hb, hml, hown⟩, hts, hA, ⟨hlk, hst, hrt, hin, hex⟩, hMF, hR, hXs⟩ := hC
  intro al H locs la hy
  obtain ⟨y1, y2, y3, y4, y5, y6, y7, y8, y9⟩ := id hy
  exact lv_goto hx hb hd ht (K al H locs la hy)
theorem s_ifnn {Z : Act} {B : Bg} (hC : Cx Z B) {pc : Nat} {L : Lc} {w : Wd} {st : List PV} {off x : Int} {t : Nat} (hd : decode (mB B.1) pc = .ok (.ifnonnull off, 3)) (ht : (pc : Int) + off = t) (K1 : 0 ≤ x → GX Z B t L (st) w) (K2 : ¬ 0 ≤ x → GX Z B (pc + 3) L (st) w) : GX Z B pc L (pvF x :: st) w := by
  obtain ⟨p, l, e, R, s, m, args, below, meth, c, D, cs, A, Q⟩ := Z
  obtain ⟨M, d, w0, al0, o, X, b⟩ := B
  obtain ⟨⟨hx, hb, hml, hown⟩, hts, hA, ⟨hlk, hst, hrt, hin, hex⟩, hMF, hR, hXs⟩ := hC
  intro al H locs la hy
  obtain ⟨y1, y2, y3, y4, y5, y6, y7, y8, y9⟩ := id hy
  by_cases h : 0 ≤ x
  · have he : vl al b (pvF x) = .ref (al x.toNat) := by show va_rf (rfo al x) = _; unfold rfo; rw [if_neg (by omega)]; rfl
    show W p l e R s m args below meth c H locs (cn w w0) (sn w w0) Q (F0 m pc la (vl al b (pvF x) :: st.map (vl al b)))
    rw [he]
    exact lv_ifnonnull hx hb hd ht (K1 h al H locs la (hy.st (all_tl y3)))
  · have he : vl al b (pvF x) = .null := by show va_rf (rfo al x) = _; unfold rfo; rw [if_pos (by omega)]; rfl
    show W p l e R s m args below meth c H locs (cn w w0) (sn w w0) Q (F0 m pc la (vl al b (pvF x) :: st.map (vl al b)))
    rw [he]
    exact lv_ifnonnullN hx hb hd (K2 h al H locs la (hy.st (all_tl y3)))
theorem s_table {Z : Act} {B : Bg} (hC : Cx Z B) {pc : Nat} {L : Lc} {w : Wd} {st : List PV} {dflt lo hi off x : Int} {offs : Array Int} {len t : Nat} (hd : decode (mB B.1) pc = .ok (.tableswitch dflt lo hi offs, len)) (h : ((x < lo ∨ hi < x) ∧ off = dflt) ∨ (¬ x < lo ∧ ¬ hi < x ∧ offs[(x - lo).toNat]? = some off)) (ht : (pc : Int) + off = t) (K : GX Z B t L (st) w) : GX Z B pc L (pvI x :: st) w := by
  obtain ⟨p, l, e, R, s, m, args, below, meth, c, D, cs, A, Q⟩ := Z
  obtain ⟨M, d, w0, al0, o, X, b⟩ := B
  obtain ⟨⟨hx, hb, hml, hown⟩, hts, hA, ⟨hlk, hst, hrt, hin, hex⟩, hMF, hR, hXs⟩ := hC
  intro al H locs la hy
  obtain ⟨y1, y2, y3, y4, y5, y6, y7, y8, y9⟩ := id hy
  have hrx : r32 x := all_hd y3
  have k1 := K al H locs la (hy.st (all_tl y3))
  rcases h with ⟨h, rfl⟩ | ⟨h1, h2, h3⟩
  · exact lv_tableOut (x := Int32.ofInt x) hx hb hd (by rw [toInt32_r hrx]; exact h) ht k1
  · exact lv_tableIn (x := Int32.ofInt x) hx hb hd (by rw [toInt32_r hrx]; exact h1) (by rw [toInt32_r hrx]; exact h2) (by rw [toInt32_r hrx]; exact h3) ht k1
end
section
/-! ===== fields, arrays, ends, throws hold at the machine ===== -/
theorem r32_in {i : Int} {L : Nat} (hr : r32 i) (h0 : 0 ≤ i) (h1 : i < L) : vp_in (Int32.ofInt i) L := vp_in_iff.mpr (by rw [toInt32_r hr]; exact ⟨h0, h1⟩)
theorem r32_cl {i : Int} (hr : r32 i) (h0 : 0 ≤ i) : ((Int32.ofInt i).toNatClampNeg : Int) = i := by
  have h1 : (Int32.ofInt i).toNatClampNeg = (Int32.ofInt i).toInt.toNat := by simp [Int32.toNatClampNeg]
  rw [h1, toInt32_r hr]
  omega
theorem r32_clN {i : Int} (hr : r32 i) (h0 : 0 ≤ i) : (Int32.ofInt i).toNatClampNeg = i.toNat := by
  have := r32_cl hr h0
  omega
/-! the cells of a world -/
theorem cel_o {al : Nat → Nat} {cs : Cids} {σ : Hp} {n p k L : Nat} (h : Sh n p k L) (hk : k < 12) : (wsv al cs σ n)[ix n p]? = some (al p, .inr (k, flds k al (σ p))) := by
  rw [wsv_get h.1]
  unfold cel
  rw [if_pos (by rw [h.2.1]; exact hk), h.2.1]
theorem cel_i {al : Nat → Nat} {cs : Cids} {σ : Hp} {n p L : Nat} (h : Sh n p 12 L) : (wsv al cs σ n)[ix n p]? = some (al p, .inl (cs.1, L, .inl fun j => Int32.ofInt (σ p j))) := by
  rw [wsv_get h.1]
  simp [cel, h.2.1, h.2.2]
theorem cel_l {al : Nat → Nat} {cs : Cids} {σ : Hp} {n p L : Nat} (h : Sh n p 13 L) : (wsv al cs σ n)[ix n p]? = some (al p, .inl (cs.2.1, L, .inr (.inl fun j => Int64.ofInt (σ p j)))) := by
  rw [wsv_get h.1]
  simp [cel, h.2.1, h.2.2]
theorem cel_z {al : Nat → Nat} {cs : Cids} {σ : Hp} {n p L : Nat} (h : Sh n p 14 L) : (wsv al cs σ n)[ix n p]? = some (al p, .inl (cs.2.2.1, L, .inl fun j => Int32.ofInt (σ p j))) := by
  rw [wsv_get h.1]
  simp [cel, h.2.1, h.2.2]
theorem cel_f {al : Nat → Nat} {cs : Cids} {σ : Hp} {n p L : Nat} (h : Sh n p 15 L) : (wsv al cs σ n)[ix n p]? = some (al p, .inl (cs.2.2.2.1, L, .inr (.inr (.inr (.inr fun j => rfo al (σ p j)))))) := by
  rw [wsv_get h.1]
  simp [cel, h.2.1, h.2.2]
theorem cel_r {al : Nat → Nat} {cs : Cids} {σ : Hp} {n p L : Nat} (h : Sh n p 16 L) : (wsv al cs σ n)[ix n p]? = some (al p, .inl (cs.2.2.2.2, L, .inr (.inr (.inr (.inr fun j => rfo al (σ p j)))))) := by
  rw [wsv_get h.1]
  simp [cel, h.2.1, h.2.2]
theorem upd_of {σ : Hp} {P : Nat} {i x : Int} (hr : r32 i) (h0 : 0 ≤ i) : (upd (fun j => Int32.ofInt (σ P j)) (Int32.ofInt i).toNatClampNeg (Int32.ofInt x)) = fun j : Nat => Int32.ofInt (hset σ P i x P j) := by
  have hc := r32_cl hr h0
  funext j
  unfold upd hset
  by_cases e : j = (Int32.ofInt i).toNatClampNeg
  · rw [if_pos e, if_pos ⟨rfl, by omega⟩]
  · rw [if_neg e, if_neg (fun z => e (by have := z.2; omega))]
theorem updL_of {σ : Hp} {P : Nat} {i x : Int} (hr : r32 i) (h0 : 0 ≤ i) : (vp_updL (fun j => Int64.ofInt (σ P j)) (Int32.ofInt i).toNatClampNeg (Int64.ofInt x)) = fun j : Nat => Int64.ofInt (hset σ P i x P j) := by
  have hc := r32_cl hr h0
  funext j
  unfold vp_updL hset
  by_cases e : j = (Int32.ofInt i).toNatClampNeg
  · rw [if_pos e, if_pos ⟨rfl, by omega⟩]
  · rw [if_neg e, if_neg (fun z => e (by have := z.2; omega))]
theorem upF_of {al : Nat → Nat} {σ : Hp} {P : Nat} {i x : Int} (hr : r32 i) (h0 : 0 ≤ i) (hx : 0 ≤ x) : (va_up (fun j => rfo al (σ P j)) (Int32.ofInt i).toNatClampNeg (some (al x.toNat))) = fun j : Nat => rfo al (hset σ P i x P j) := by
  have hc := r32_cl hr h0
  funext j
  unfold va_up hset
  by_cases e : j = (Int32.ofInt i).toNatClampNeg
  · rw [if_pos e, if_pos ⟨rfl, by omega⟩]
    unfold rfo
    rw [if_neg (by omega)]
  · rw [if_neg e, if_neg (fun z => e (by have := z.2; omega))]
/-! fields -/
theorem tb_good {w : Cond} {i : Nat} (h : tables_1[i]? = some w) (g : goodWord w = true) : w ∈ lw_good := List.mem_filter.mpr ⟨List.mem_append_right _ (List.mem_of_getElem? h), g⟩
/-- ws in their order among the table's words -/
def subL : List Cond → List Cond → Bool
  | [], ws => ws.isEmpty
  | t :: ts, ws => match ws with
    | [] => true
    | w :: ws' => if w = t then subL ts ws' else subL ts ws
theorem subL_mem : ∀ {tbl ws : List Cond}, subL tbl ws = true → ∀ w ∈ ws, w ∈ tbl
  | [], ws, h, w, hw => by
    unfold subL at h
    rw [List.isEmpty_iff.mp h] at hw
    cases hw
  | t :: ts, ws, h, w, hw => by
    unfold subL at h
    split at h
    · cases hw
    · rename_i w' ws'
      split at h
      · rename_i e
        rcases List.mem_cons.mp hw with rfl | hw
        · rw [e]; exact List.mem_cons_self
        · exact List.mem_cons_of_mem _ (subL_mem h w hw)
      · exact List.mem_cons_of_mem _ (subL_mem h w hw)
theorem sub_good {ws : List Cond} (h : (subL tables_1 ws && ws.all goodWord) = true) : ∀ w ∈ ws, w ∈ lw_good := fun w hw => by
  simp only [Bool.and_eq_true] at h
  exact List.mem_filter.mpr ⟨List.mem_append_right _ (subL_mem h.1 w hw), List.all_eq_true.mp h.2 w hw⟩
def fldW (q : Nat × Nat × Nat × Nat) : Cond := match vwCl[q.2.2.1]? with
  | some (_, T, _) => Cond.fieldLink (zOwn q.1) q.2.1 (T q.2.2.2).1 (T q.2.2.2).2.1 (T q.2.2.2).2.2.1
  | none => .tt
theorem fld_in : (subL tables_1 (rFldL.map fldW) && (rFldL.map fldW).all goodWord) = true := by decide +kernel
theorem fld_lt : (rFldL.all fun q => match vwCl[q.2.2.1]? with | some (_, _, N) => decide (q.2.2.2 < N) | none => false) = true := by decide +kernel
theorem fld_word {c i k j : Nat} (h : rFld c i = some (k, j)) : ∃ (C : String) (T : u_T) (N : Nat), vwCl[k]? = some (C, T, N) ∧ j < N ∧ Cond.fieldLink (zOwn c) i (T j).1 (T j).2.1 (T j).2.2.1 ∈ lw_good := by
  have hm := find_mem h
  have h1 := List.all_eq_true.mp fld_lt _ hm
  have h2 := sub_good fld_in _ (List.mem_map.mpr ⟨_, hm, rfl⟩)
  unfold fldW at h2
  dsimp only at h1 h2
  split at h1
  · rename_i C T N hk
    rw [hk] at h2
    exact ⟨C, T, N, hk, of_decide_eq_true h1, h2⟩
  · cases h1
def tyOk (k : Nat) : Bool := match vwCl[k]? with
  | some (C, T, N) => decide (C = zOwn k) && (List.range N).all fun j => decide ((T j).1 = zOwn k) && match (zFld k)[j]?, zTy k j with
    | some (0, _), .int => !(T j).2.2.2
    | some (1, _), .long => !(T j).2.2.2
    | some (2, _), .boolean => !(T j).2.2.2
    | some (3, _), .object _ => !(T j).2.2.2
    | some (4, _), .object _ => (T j).2.2.2
    | some (4, _), .array _ => (T j).2.2.2
    | _, _ => false
  | none => true
theorem ty_ok : (List.range 11).all tyOk = true := by decide +kernel
theorem cl_len {k : Nat} {q : vw_C} (h : vwCl[k]? = some q) : k < 11 := (List.getElem?_eq_some_iff.mp h).1
/-- a field's type, by its kind -/
def tyK (c : Nat) (t : FieldType) : Prop := match c with
  | 0 => t = .int
  | 1 => t = .long
  | 2 => t = .boolean
  | _ => (∃ n, t = .object n) ∨ ∃ n, t = .array n
theorem fld_ty {k j c : Nat} {o : Int} {C : String} {T : u_T} {N : Nat} (hk : vwCl[k]? = some (C, T, N)) (hj : j < N) (hf : (zFld k)[j]? = some (c, o)) : C = zOwn k ∧ (T j).1 = zOwn k ∧ c ≤ 4 ∧ tyK c (zTy k j) ∧ (T j).2.2.2 = decide (c = 4) := by
  have h1 := List.all_eq_true.mp ty_ok k (List.mem_range.mpr (cl_len hk))
  unfold tyOk at h1
  rw [hk] at h1
  dsimp only at h1
  simp only [Bool.and_eq_true, decide_eq_true_eq] at h1
  have h2 := List.all_eq_true.mp h1.2 j (List.mem_range.mpr hj)
  rw [hf] at h2
  simp only [Bool.and_eq_true, decide_eq_true_eq] at h2
  refine ⟨h1.1, h2.1, ?_⟩
  have h3 := h2.2
  split at h3
  · rename_i e1 e2; cases e1; exact ⟨by omega, by rw [e2]; rfl, by simpa using h3⟩
  · rename_i e1 e2; cases e1; exact ⟨by omega, by rw [e2]; rfl, by simpa using h3⟩
  · rename_i e1 e2; cases e1; exact ⟨by omega, by rw [e2]; rfl, by simpa using h3⟩
  · rename_i e1 e2; cases e1; exact ⟨by omega, by rw [e2]; exact Or.inl ⟨_, rfl⟩, by simpa using h3⟩
  · rename_i e1 e2; cases e1; exact ⟨by omega, by rw [e2]; exact Or.inl ⟨_, rfl⟩, by simpa using h3⟩
  · rename_i e1 e2; cases e1; exact ⟨by omega, by rw [e2]; exact Or.inr ⟨_, rfl⟩, by simpa using h3⟩
  · cases h3
theorem rcv_ok {al : Nat → Nat} {b n k P : Nat} {v : PV} (h : rcv v k P) (hv : PVok n v) : Sh n P k 0 ∧ vl al b v = .ref (al P) := by
  rcases h with rfl | ⟨rfl, rfl⟩
  · exact ⟨PVok.R.mp hv, rfl⟩
  · rcases (hv : fOk n (P : Int)) with h | ⟨P', h1, h2⟩
    · exact absurd (show (P : Int) = -1 from h) (by omega)
    · have : P' = P := by have : (P : Int) = (P' : Int) := h1; omega
      subst this
      refine ⟨h2, ?_⟩
      show va_rf (rfo al (P' : Int)) = _
      unfold rfo
      rw [if_neg (by omega)]
      rfl
theorem fvl_R {al : Nat → Nat} {c P : Nat} (hc : 3 ≤ c) : fvl al c (P : Int) = .ref (al P) := by
  match c, hc with
  | c + 3, _ =>
    show va_rf (rfo al (P : Int)) = _
    unfold rfo
    rw [if_neg (by omega)]
    rfl
theorem get_ok {al : Nat → Nat} {b : Nat} {md : Bool} {n k j P c : Nat} {o : Int} {σ : Hp} {v : PV} (hT : TyM md n σ) (hs : Sh n P k 0) (hf : (zFld k)[j]? = some (c, o)) (hc : c ≤ 4) (hg : fvG md σ k j P v) : PVok n v ∧ vl al b v = fvl al c (σ P j) := by
  have h9 := hT.2.2.1 P k j c o hs hf
  unfold fvG at hg
  rw [hf] at hg
  match c, hc, hg with
  | 0, _, hg => cases hg; exact ⟨h9, rfl⟩
  | 1, _, hg => cases hg; exact ⟨h9, rfl⟩
  | 2, _, hg =>
    cases hg
    refine ⟨?_, rfl⟩
    have h9 : 0 ≤ σ P j ∧ σ P j ≤ 1 := h9
    show r32 (σ P j)
    unfold r32
    omega
  | 3, _, hg => cases hg; exact ⟨h9, rfl⟩
  | 4, _, hg =>
    obtain ⟨k', L', P', h1, h2, rfl, h4⟩ := hg
    obtain ⟨h5, h6⟩ := hT.tgt hs hf h1 h2 h4
    refine ⟨PVok.R.mpr h5, ?_⟩
    rw [h6, fvl_R (by omega)]
    rfl
theorem s_get {Z : Act} {B : Bg} (hC : Cx Z B) {pc : Nat} {L : Lc} {w : Wd} {st : List PV} {idx k j P : Nat} {v0 v : PV} (hd : decode (mB B.1) pc = .ok (.getfield idx, 3)) (hf : rFld (mC B.1) idx = some (k, j)) (hr : rcv v0 k P) (hg : fvG w.1 w.2.2.2 k j P v) (K : GX Z B (pc + 3) L (v :: st) w) : GX Z B pc L (v0 :: st) w := by
  obtain ⟨p, l, e, R, s, m, args, below, meth, c, D, cs, A, Q⟩ := Z
  obtain ⟨M, d, w0, al0, o, X, b⟩ := B
  obtain ⟨⟨hx, hb, hml, hown⟩, hts, hA, ⟨hlk, hst, hrt, hin, hex⟩, hMF, hR, hXs⟩ := hC
  intro al H locs la hy
  obtain ⟨y1, y2, y3, y4, y5, y6, y7, y8, y9⟩ := id hy
  obtain ⟨C, T, N, hk, hj, hw⟩ := fld_word hf
  obtain ⟨hsh, hv0⟩ := rcv_ok (al := al) (b := b) hr (all_hd y3)
  have hk12 : k < 12 := Nat.lt_succ_of_lt (cl_len hk)
  have hlen := (cls_ty hk).2.2
  have hj2 : j < (zFld k).length := by rw [hlen]; exact hj
  obtain ⟨⟨cc9, o9⟩, hz⟩ : ∃ x, (zFld k)[j]? = some x := ⟨_, List.getElem?_eq_getElem hj2⟩
  obtain ⟨t1, t2, t3, t4, t5⟩ := fld_ty hk hj hz
  obtain ⟨g1, g2⟩ := get_ok (al := al) (b := b) y2 hsh hz t3 hg
  have KK : W p l e R s m args below meth c H locs (cn w w0) (sn w w0) Q (F0 m (pc + 3) la (vl al b v :: st.map (vl al b))) := K al H locs la (hy.st (all_cons g1 (all_tl y3)))
  show W p l e R s m args below meth c H locs (cn w w0) (sn w w0) Q (F0 m pc la (vl al b v0 :: st.map (vl al b)))
  rw [hv0]
  rw [g2] at KK
  exact va_get hx hb hts (cls_in hk) hown hMF.1 y7 (ix w.2.1 P) (cel_o hsh hk12) hk j hj (hts _ hw) (fun _ h => h) (flds_get hz) hd KK
theorem fit_ok {al : Nat → Nat} {n c : Nat} {p : Nat} {o : Int} {md : Bool} {t : FieldType} {x : Int} (hc : tyK c t) (hx : tyF md n p c o x) : narrow t (fvl al c x) = fvl al c x ∧ fits t (fvl al c x) = true := by
  match c, hc, hx with
  | 0, hc, _ => cases hc; exact ⟨rfl, rfl⟩
  | 1, hc, _ => cases hc; exact ⟨rfl, rfl⟩
  | 2, hc, hx =>
    cases hc
    have hx : 0 ≤ x ∧ x ≤ 1 := hx
    rcases (show x = 0 ∨ x = 1 by omega) with rfl | rfl
    · exact ⟨rfl, rfl⟩
    · exact ⟨rfl, rfl⟩
  | c + 3, hc, _ =>
    have h : fvl al (c + 3) x = .null ∨ ∃ a, fvl al (c + 3) x = .ref a := va_rf_or _
    rcases hc with ⟨n, rfl⟩ | ⟨n, rfl⟩ <;> rcases h with h | ⟨a, h⟩ <;> rw [h] <;> exact ⟨rfl, rfl⟩
theorem put_ok {al : Nat → Nat} {b : Nat} {md : Bool} {n k j P c : Nat} {o x : Int} {v : PV} (hv : PVok n v) (hf : (zFld k)[j]? = some (c, o)) (hc : c ≤ 4) (hg : fvP md k j P v x) : vl al b v = fvl al c x ∧ tyF md n P c o x ∧ (md = false → c = 4 → 0 ≤ (P : Int) + o ∧ inn n ((P : Int) + o).toNat) := by
  unfold fvP at hg
  rw [hf] at hg
  match c, hc, hg with
  | 0, _, hg => cases hg; exact ⟨rfl, hv, fun _ h => by omega⟩
  | 1, _, hg => cases hg; exact ⟨rfl, hv, fun _ h => by omega⟩
  | 2, _, hg => obtain ⟨rfl, h⟩ := hg; exact ⟨rfl, h, fun _ h => by omega⟩
  | 3, _, hg =>
    rcases hg with ⟨rfl, h⟩ | ⟨P', rfl, rfl⟩
    · exact ⟨rfl, hv, fun _ h => by omega⟩
    · exact ⟨by rw [fvl_R (by omega)]; rfl, Or.inr ⟨P', rfl, PVok.R.mp hv⟩, fun _ h => by omega⟩
  | 4, _, hg =>
    obtain ⟨h0, k', L', P', h1, h2, rfl, rfl⟩ := hg
    have h3 := (PVok.R.mp hv).1
    have e : ((P : Int) + o).toNat = P' := by omega
    exact ⟨by rw [fvl_R (by omega)]; rfl, Or.inl h2, fun _ _ => ⟨by omega, by rw [e]; exact h3⟩⟩
theorem s_put {Z : Act} {B : Bg} (hC : Cx Z B) {pc : Nat} {L : Lc} {w : Wd} {st : List PV} {idx k j P : Nat} {x : Int} {v0 v : PV} (hd : decode (mB B.1) pc = .ok (.putfield idx, 3)) (hf : rFld (mC B.1) idx = some (k, j)) (hr : rcv v0 k P) (hg : fvP w.1 k j P v x) (h4 : ((zFld k)[j]?.map Prod.fst) = some 4 → (mY B.1).name = "<init>" ∧ mC B.1 = k) (K : GX Z B (pc + 3) L st (w.1, w.2.1, w.2.2.1, hset w.2.2.2 P j x)) : GX Z B pc L (v :: v0 :: st) w := by
  obtain ⟨p, l, e, R, s, m, args, below, meth, c, D, cs, A, Q⟩ := Z
  obtain ⟨M, d, w0, al0, o, X, b⟩ := B
  obtain ⟨⟨hx, hb, hml, hown⟩, hts, hA, ⟨hlk, hst, hrt, hin, hex⟩, hMF, hR, hXs⟩ := hC
  intro al H locs la hy
  obtain ⟨y1, y2, y3, y4, y5, y6, y7, y8, y9⟩ := id hy
  obtain ⟨C, T, N, hk, hj, hw⟩ := fld_word hf
  obtain ⟨hsh, hv0⟩ := rcv_ok (al := al) (b := b) hr (all_hd (all_tl y3))
  have hk12 : k < 12 := Nat.lt_succ_of_lt (cl_len hk)
  have hct := cls_ty hk
  have hj2 : j < (zFld k).length := by rw [hct.2.2]; exact hj
  obtain ⟨⟨cc9, o9⟩, hz⟩ : ∃ x, (zFld k)[j]? = some x := ⟨_, List.getElem?_eq_getElem hj2⟩
  obtain ⟨t1, t2, t3, t4, t5⟩ := fld_ty hk hj hz
  obtain ⟨g1, g2, g3⟩ := put_ok (al := al) (b := b) (all_hd y3) hz t3 hg
  obtain ⟨f1, f2⟩ := fit_ok (al := al) t4 g2
  show W p l e R s m args below meth c H locs (cn w w0) (sn w w0) Q (F0 m pc la (vl al b v :: vl al b v0 :: st.map (vl al b)))
  rw [hv0, g1]
  have he := cel_o (al := al) (cs := cs) (σ := w.2.2.2) hsh hk12
  have hset9 : (wsv al cs w.2.2.2 w.2.1).set (ix w.2.1 P) (al P, .inr (k, (flds k al (w.2.2.2 P)).set j (fvl al cc9 x))) = wsv al cs (hset w.2.2.2 P j x) w.2.1 := by
    refine wsv_set hsh.1 ?_ (fun q hq => hset_ne hq)
    unfold cel
    rw [if_pos (by rw [hsh.2.1]; exact hk12), hsh.2.1, flds_set hz]
  have fin : ∀ (H1 : Heap) (locs1 : List Loc), va_P D vwCl ((wsv al cs w.2.2.2 w.2.1).set (ix w.2.1 P) (al P, .inr (k, (flds k al (w.2.2.2 P)).set j (fvl al cc9 x)))) H1 → va_D A ((wsv al cs w.2.2.2 w.2.1).set (ix w.2.1 P) (al P, .inr (k, (flds k al (w.2.2.2 P)).set j (fvl al cc9 x)))) → va_S A s.heap H1 locs1 → W p l e R s m args below meth c H1 locs1 (cn w w0) (sn w w0) Q (F0 m (pc + 3) la (st.map (vl al b))) := by
    intro H1 locs1 q1 q2 q3
    rw [hset9] at q1 q2
    exact K al H1 locs1 la ⟨y1, y2.setF hsh hz g2 g3, all_tl (all_tl y3), y4, y5, y6, q1, q2, q3⟩
  by_cases h9 : cc9 = 4
  · subst h9
    obtain ⟨n1, n2⟩ := h4 (by rw [hz]; rfl)
    exact va_putF hx hb hts (cls_in hk) (zTy k) hct.1 hct.2.1 hown hMF.1 y7 y8 y9 (ix w.2.1 P) he hk j hj (hts _ hw) (fun _ h => h) (by rw [t5]; rfl) (hin n1) (by rw [t2, n2]) (hct.1 j hj) f1 f2 (by rw [flds_len]; exact hj2) hd fin
  · exact va_put hx hb hts (cls_in hk) (zTy k) hct.1 hct.2.1 hown hMF.1 y7 y8 y9 (ix w.2.1 P) he hk j hj (hts _ hw) (fun _ h => h) (by rw [t5]; exact decide_eq_false h9) (hct.1 j hj) f1 f2 (by rw [flds_len]; exact hj2) hd fin
end
section
/-! ===== arrays, the script, library calls of one step, ends ===== -/
theorem s_iald {Z : Act} {B : Bg} (hC : Cx Z B) {pc L' P : Nat} {L : Lc} {w : Wd} {st : List PV} {i : Int} (hd : decode (mB B.1) pc = .ok (.iaload, 1)) (h0 : 0 ≤ i) (h1 : i < L') (K : GX Z B (pc + 1) L (pvI (w.2.2.2 P i) :: st) w) : GX Z B pc L (pvI i :: pvR 12 L' P :: st) w := by
  obtain ⟨p, l, e, R, s, m, args, below, meth, c, D, cs, A, Q⟩ := Z
  obtain ⟨M, d, w0, al0, o, X, b⟩ := B
  obtain ⟨⟨hx, hb, hml, hown⟩, hts, hA, ⟨hlk, hst, hrt, hin, hex⟩, hMF, hR, hXs⟩ := hC
  intro al H locs la hy
  obtain ⟨y1, y2, y3, y4, y5, y6, y7, y8, y9⟩ := id hy
  have hr : r32 i := all_hd y3
  have hs := PVok.R.mp (all_hd (all_tl y3))
  have KK : W p l e R s m args below meth c H locs (cn w w0) (sn w w0) Q (F0 m (pc + 1) la (.int (Int32.ofInt (w.2.2.2 P i)) :: st.map (vl al b))) := K al H locs la (hy.st (all_cons (y2.2.2.2.1 P 12 L' i hs (Nat.le_refl _)) (all_tl (all_tl y3))))
  refine va_iald hx hb hMF.1 y7 (ix w.2.1 P) 0 (cel_i hs) rfl (i := Int32.ofInt i) (r32_in hr h0 h1) hd ?_
  rw [r32_cl hr h0]
  exact KK
theorem s_lald {Z : Act} {B : Bg} (hC : Cx Z B) {pc L' P : Nat} {L : Lc} {w : Wd} {st : List PV} {i : Int} (hd : decode (mB B.1) pc = .ok (.laload, 1)) (h0 : 0 ≤ i) (h1 : i < L') (K : GX Z B (pc + 1) L (pvL (w.2.2.2 P i) :: st) w) : GX Z B pc L (pvI i :: pvR 13 L' P :: st) w := by
  obtain ⟨p, l, e, R, s, m, args, below, meth, c, D, cs, A, Q⟩ := Z
  obtain ⟨M, d, w0, al0, o, X, b⟩ := B
  obtain ⟨⟨hx, hb, hml, hown⟩, hts, hA, ⟨hlk, hst, hrt, hin, hex⟩, hMF, hR, hXs⟩ := hC
  intro al H locs la hy
  obtain ⟨y1, y2, y3, y4, y5, y6, y7, y8, y9⟩ := id hy
  have hr : r32 i := all_hd y3
  have hs := PVok.R.mp (all_hd (all_tl y3))
  have KK : W p l e R s m args below meth c H locs (cn w w0) (sn w w0) Q (F0 m (pc + 1) la (.long (Int64.ofInt (w.2.2.2 P i)) :: st.map (vl al b))) := K al H locs la (hy.st (all_cons (y2.2.2.2.1 P 13 L' i hs (by omega)) (all_tl (all_tl y3))))
  refine va_lald hx hb hMF.1 y7 (ix w.2.1 P) 1 (cel_l hs) rfl (i := Int32.ofInt i) (r32_in hr h0 h1) hd ?_
  rw [r32_cl hr h0]
  exact KK
theorem s_zald {Z : Act} {B : Bg} (hC : Cx Z B) {pc L' P : Nat} {L : Lc} {w : Wd} {st : List PV} {i : Int} (hd : decode (mB B.1) pc = .ok (.baload, 1)) (h0 : 0 ≤ i) (h1 : i < L') (K : GX Z B (pc + 1) L (pvI (w.2.2.2 P i) :: st) w) : GX Z B pc L (pvI i :: pvR 14 L' P :: st) w := by
  obtain ⟨p, l, e, R, s, m, args, below, meth, c, D, cs, A, Q⟩ := Z
  obtain ⟨M, d, w0, al0, o, X, b⟩ := B
  obtain ⟨⟨hx, hb, hml, hown⟩, hts, hA, ⟨hlk, hst, hrt, hin, hex⟩, hMF, hR, hXs⟩ := hC
  intro al H locs la hy
  obtain ⟨y1, y2, y3, y4, y5, y6, y7, y8, y9⟩ := id hy
  have hr : r32 i := all_hd y3
  have hs := PVok.R.mp (all_hd (all_tl y3))
  have h9 : 0 ≤ w.2.2.2 P i ∧ w.2.2.2 P i ≤ 1 := y2.2.2.2.1 P 14 L' i hs (by omega)
  have KK : W p l e R s m args below meth c H locs (cn w w0) (sn w w0) Q (F0 m (pc + 1) la (.int (Int32.ofInt (w.2.2.2 P i)) :: st.map (vl al b))) := K al H locs la (hy.st (all_cons (show r32 (w.2.2.2 P i) by unfold r32; omega) (all_tl (all_tl y3))))
  refine va_zald hx hb hMF.1 y7 (ix w.2.1 P) 2 (cel_z hs) rfl (i := Int32.ofInt i) (r32_in hr h0 h1) hd ?_
  rw [r32_cl hr h0]
  exact KK
theorem s_fald {Z : Act} {B : Bg} (hC : Cx Z B) {pc L' P : Nat} {L : Lc} {w : Wd} {st : List PV} {i : Int} (hd : decode (mB B.1) pc = .ok (.aaload, 1)) (h0 : 0 ≤ i) (h1 : i < L') (K : GX Z B (pc + 1) L (pvF (w.2.2.2 P i) :: st) w) : GX Z B pc L (pvI i :: pvR 15 L' P :: st) w := by
  obtain ⟨p, l, e, R, s, m, args, below, meth, c, D, cs, A, Q⟩ := Z
  obtain ⟨M, d, w0, al0, o, X, b⟩ := B
  obtain ⟨⟨hx, hb, hml, hown⟩, hts, hA, ⟨hlk, hst, hrt, hin, hex⟩, hMF, hR, hXs⟩ := hC
  intro al H locs la hy
  obtain ⟨y1, y2, y3, y4, y5, y6, y7, y8, y9⟩ := id hy
  have hr : r32 i := all_hd y3
  have hs := PVok.R.mp (all_hd (all_tl y3))
  have KK : W p l e R s m args below meth c H locs (cn w w0) (sn w w0) Q (F0 m (pc + 1) la (va_rf (rfo al (w.2.2.2 P i)) :: st.map (vl al b))) := K al H locs la (hy.st (all_cons (y2.2.2.2.1 P 15 L' i hs (by omega)) (all_tl (all_tl y3))))
  refine va_aldq hx hb hMF.1 y7 (ix w.2.1 P) 3 (cel_f hs) rfl (i := Int32.ofInt i) (r32_in hr h0 h1) hd ?_
  rw [r32_cl hr h0]
  exact KK
theorem s_rald {Z : Act} {B : Bg} (hC : Cx Z B) {pc P : Nat} {L : Lc} {w : Wd} {st : List PV} {i : Int} (hd : decode (mB B.1) pc = .ok (.aaload, 1)) (h0 : 0 ≤ i) (h1 : i < (13 : Nat)) (K : GX Z B (pc + 1) L (pvR 12 144 (P + 1 + i.toNat) :: st) w) : GX Z B pc L (pvI i :: pvR 16 13 P :: st) w := by
  obtain ⟨p, l, e, R, s, m, args, below, meth, c, D, cs, A, Q⟩ := Z
  obtain ⟨M, d, w0, al0, o, X, b⟩ := B
  obtain ⟨⟨hx, hb, hml, hown⟩, hts, hA, ⟨hlk, hst, hrt, hin, hex⟩, hMF, hR, hXs⟩ := hC
  intro al H locs la hy
  obtain ⟨y1, y2, y3, y4, y5, y6, y7, y8, y9⟩ := id hy
  have hr : r32 i := all_hd y3
  have hs := PVok.R.mp (all_hd (all_tl y3))
  have hrow : Sh w.2.1 (P + 1 + i.toNat) 12 144 := by
    cases hm : w.1 with
    | true => exact Sh.row (y2.1 hm) hs (by omega)
    | false =>
      have h3 := y2.2.1 hm
      have hlt := inn_lt hs.1 (by omega)
      have h4 := h3.2 P hlt hs.2.1
      have h5 := Sh.row (n := 171) (i := i.toNat) ⟨0, rfl⟩ (⟨nOk.in ⟨0, rfl⟩ (by omega), hs.2⟩ : Sh 171 P 16 13) (by omega)
      exact ⟨inn_of (by omega) (by omega) (by omega), h5.2⟩
  have hv0 : tyA w.2.1 P 16 13 i (w.2.2.2 P i) := y2.2.2.2.1 P 16 13 i hs (by omega)
  have hv : w.2.2.2 P i = P + 1 + i := hv0 h0 h1
  have KK : W p l e R s m args below meth c H locs (cn w w0) (sn w w0) Q (F0 m (pc + 1) la (.ref (al (P + 1 + i.toNat)) :: st.map (vl al b))) := K al H locs la (hy.st (all_cons (PVok.R.mpr hrow) (all_tl (all_tl y3))))
  have hlt : (Int32.ofInt i).toNatClampNeg < 13 := by rw [r32_clN hr h0]; omega
  have hcell : H[al P]? = some (arrV cs.2.2.2.2 13 fun j => va_rf (rfo al (w.2.2.2 P j))) := y7 (ix w.2.1 P) _ (cel_r hs)
  have harr : s.isArrayOf (arrV cs.2.2.2.2 13 fun j => va_rf (rfo al (w.2.2.2 P j))) (.array .int) := (hMF.1.2 4 (cs.2.2.2.2, .array .int) rfl).1 13 _
  have hval : (arrV cs.2.2.2.2 13 fun j => va_rf (rfo al (w.2.2.2 P j))).slots[(Int32.ofInt i).toNatClampNeg]? = some (.ref (al (P + 1 + i.toNat))) := by
    rw [arrV_read _ _ hlt, r32_cl hr h0, hv]
    unfold rfo
    rw [if_neg (by omega), show ((P : Int) + 1 + i).toNat = P + 1 + i.toNat by omega]
    rfl
  have hsz : ¬ (Int32.ofInt i < 0 ∨ (arrV cs.2.2.2.2 13 fun j => va_rf (rfo al (w.2.2.2 P j))).slots.size ≤ (Int32.ofInt i).toNatClampNeg) := by rw [arrV_size]; exact r32_in hr h0 h1
  exact W.aald hx hb hcell harr rfl (fun q => by cases q) hsz hval rfl rfl hd KK
theorem s_sald {Z : Act} {B : Bg} (hC : Cx Z B) {pc : Nat} {L : Lc} {w : Wd} {st : List PV} {i : Int} {q : Nat × (Nat → Int32)} (hd : decode (mB B.1) pc = .ok (.iaload, 1)) (h0 : 0 ≤ i) (hX : B.2.2.2.2.2.1 = some q) (h1 : i < q.1) (K : GX Z B (pc + 1) L (pvI (q.2 i.toNat).toInt :: st) w) : GX Z B pc L (pvI i :: pvS :: st) w := by
  obtain ⟨p, l, e, R, s, m, args, below, meth, c, D, cs, A, Q⟩ := Z
  obtain ⟨M, d, w0, al0, o, X, b⟩ := B
  obtain ⟨⟨hx, hb, hml, hown⟩, hts, hA, ⟨hlk, hst, hrt, hin, hex⟩, hMF, hR, hXs⟩ := hC
  intro al H locs la hy
  obtain ⟨y1, y2, y3, y4, y5, y6, y7, y8, y9⟩ := id hy
  have hr : r32 i := all_hd y3
  obtain ⟨x1, x2, x3⟩ := hXs q hX
  have KK : W p l e R s m args below meth c H locs (cn w w0) (sn w w0) Q (F0 m (pc + 1) la (.int (Int32.ofInt (q.2 i.toNat).toInt) :: st.map (vl al b))) := K al H locs la (hy.st (all_cons (r32_toInt _) (all_tl (all_tl y3))))
  rw [of_toInt32] at KK
  refine va_sld hx hb x1 x2 x3 y9 (i := Int32.ofInt i) (r32_in hr h0 h1) hd ?_
  rw [r32_clN hr h0]
  exact KK
theorem s_slen {Z : Act} {B : Bg} (hC : Cx Z B) {pc : Nat} {L : Lc} {w : Wd} {st : List PV} {q : Nat × (Nat → Int32)} (hd : decode (mB B.1) pc = .ok (.arraylength, 1)) (hX : B.2.2.2.2.2.1 = some q) (hr : r32 (q.1 : Int)) (K : GX Z B (pc + 1) L (pvI (q.1 : Int) :: st) w) : GX Z B pc L (pvS :: st) w := by
  obtain ⟨p, l, e, R, s, m, args, below, meth, c, D, cs, A, Q⟩ := Z
  obtain ⟨M, d, w0, al0, o, X, b⟩ := B
  obtain ⟨⟨hx, hb, hml, hown⟩, hts, hA, ⟨hlk, hst, hrt, hin, hex⟩, hMF, hR, hXs⟩ := hC
  intro al H locs la hy
  obtain ⟨y1, y2, y3, y4, y5, y6, y7, y8, y9⟩ := id hy
  obtain ⟨x1, x2, x3⟩ := hXs q hX
  have KK : W p l e R s m args below meth c H locs (cn w w0) (sn w w0) Q (F0 m (pc + 1) la (.int (Int32.ofInt (q.1 : Int)) :: st.map (vl al b))) := K al H locs la (hy.st (all_cons hr (all_tl y3)))
  exact va_slen hx hb x1 x2 x3 y9 hd KK
theorem s_alen {Z : Act} {B : Bg} (hC : Cx Z B) {pc L' P : Nat} {L : Lc} {w : Wd} {st : List PV} (hd : decode (mB B.1) pc = .ok (.arraylength, 1)) (hr : r32 (L' : Int)) (K : GX Z B (pc + 1) L (pvI (L' : Int) :: st) w) : GX Z B pc L (pvR 12 L' P :: st) w := by
  obtain ⟨p, l, e, R, s, m, args, below, meth, c, D, cs, A, Q⟩ := Z
  obtain ⟨M, d, w0, al0, o, X, b⟩ := B
  obtain ⟨⟨hx, hb, hml, hown⟩, hts, hA, ⟨hlk, hst, hrt, hin, hex⟩, hMF, hR, hXs⟩ := hC
  intro al H locs la hy
  obtain ⟨y1, y2, y3, y4, y5, y6, y7, y8, y9⟩ := id hy
  have hs := PVok.R.mp (all_hd y3)
  exact va_alen (v := Int32.ofInt (L' : Int)) hx hb hMF.1 y7 (ix w.2.1 P) 0 (cel_i hs) rfl rfl hd (K al H locs la (hy.st (all_cons hr (all_tl y3))))
theorem s_iast {Z : Act} {B : Bg} (hC : Cx Z B) {pc L' P : Nat} {L : Lc} {w : Wd} {st : List PV} {i x : Int} (hd : decode (mB B.1) pc = .ok (.iastore, 1)) (h0 : 0 ≤ i) (h1 : i < L') (K : GX Z B (pc + 1) L st (w.1, w.2.1, w.2.2.1, hset w.2.2.2 P i x)) : GX Z B pc L (pvI x :: pvI i :: pvR 12 L' P :: st) w := by
  obtain ⟨p, l, e, R, s, m, args, below, meth, c, D, cs, A, Q⟩ := Z
  obtain ⟨M, d, w0, al0, o, X, b⟩ := B
  obtain ⟨⟨hx, hb, hml, hown⟩, hts, hA, ⟨hlk, hst, hrt, hin, hex⟩, hMF, hR, hXs⟩ := hC
  intro al H locs la hy
  obtain ⟨y1, y2, y3, y4, y5, y6, y7, y8, y9⟩ := id hy
  have hr : r32 i := all_hd (all_tl y3)
  have hs := PVok.R.mp (all_hd (all_tl (all_tl y3)))
  refine va_iast hx hb hMF.1 y7 y8 y9 (ix w.2.1 P) 0 (cel_i hs) rfl (i := Int32.ofInt i) (x := Int32.ofInt x) (r32_in hr h0 h1) hd (fun H1 locs1 q1 q2 q3 => ?_)
  rw [upd_of hr h0, wsv_set (σ' := hset w.2.2.2 P i x) hs.1 (by simp [cel, hs.2.1, hs.2.2]) (fun q hq => hset_ne hq)] at q1 q2
  exact K al H1 locs1 la ⟨y1, y2.setA hs (by omega) (all_hd y3), all_tl (all_tl (all_tl y3)), y4, y5, y6, q1, q2, q3⟩
theorem s_last {Z : Act} {B : Bg} (hC : Cx Z B) {pc L' P : Nat} {L : Lc} {w : Wd} {st : List PV} {i x : Int} (hd : decode (mB B.1) pc = .ok (.lastore, 1)) (h0 : 0 ≤ i) (h1 : i < L') (K : GX Z B (pc + 1) L st (w.1, w.2.1, w.2.2.1, hset w.2.2.2 P i x)) : GX Z B pc L (pvL x :: pvI i :: pvR 13 L' P :: st) w := by
  obtain ⟨p, l, e, R, s, m, args, below, meth, c, D, cs, A, Q⟩ := Z
  obtain ⟨M, d, w0, al0, o, X, b⟩ := B
  obtain ⟨⟨hx, hb, hml, hown⟩, hts, hA, ⟨hlk, hst, hrt, hin, hex⟩, hMF, hR, hXs⟩ := hC
  intro al H locs la hy
  obtain ⟨y1, y2, y3, y4, y5, y6, y7, y8, y9⟩ := id hy
  have hr : r32 i := all_hd (all_tl y3)
  have hs := PVok.R.mp (all_hd (all_tl (all_tl y3)))
  refine va_last hx hb hMF.1 y7 y8 y9 (ix w.2.1 P) 1 (cel_l hs) rfl (i := Int32.ofInt i) (x := Int64.ofInt x) (r32_in hr h0 h1) hd (fun H1 locs1 q1 q2 q3 => ?_)
  rw [updL_of hr h0, wsv_set (σ' := hset w.2.2.2 P i x) hs.1 (by simp [cel, hs.2.1, hs.2.2]) (fun q hq => hset_ne hq)] at q1 q2
  exact K al H1 locs1 la ⟨y1, y2.setA hs (by omega) (all_hd y3), all_tl (all_tl (all_tl y3)), y4, y5, y6, q1, q2, q3⟩
theorem s_zast {Z : Act} {B : Bg} (hC : Cx Z B) {pc L' P : Nat} {L : Lc} {w : Wd} {st : List PV} {i x : Int} (hd : decode (mB B.1) pc = .ok (.bastore, 1)) (h0 : 0 ≤ i) (h1 : i < L') (hx0 : 0 ≤ x) (hx1 : x ≤ 1) (K : GX Z B (pc + 1) L st (w.1, w.2.1, w.2.2.1, hset w.2.2.2 P i x)) : GX Z B pc L (pvI x :: pvI i :: pvR 14 L' P :: st) w := by
  obtain ⟨p, l, e, R, s, m, args, below, meth, c, D, cs, A, Q⟩ := Z
  obtain ⟨M, d, w0, al0, o, X, b⟩ := B
  obtain ⟨⟨hx, hb, hml, hown⟩, hts, hA, ⟨hlk, hst, hrt, hin, hex⟩, hMF, hR, hXs⟩ := hC
  intro al H locs la hy
  obtain ⟨y1, y2, y3, y4, y5, y6, y7, y8, y9⟩ := id hy
  have hr : r32 i := all_hd (all_tl y3)
  have hs := PVok.R.mp (all_hd (all_tl (all_tl y3)))
  have hn : vp_nar .boolean (Int32.ofInt x) = Int32.ofInt x := by
    rcases (show x = 0 ∨ x = 1 by omega) with rfl | rfl <;> rfl
  refine va_zast hx hb hMF.1 y7 y8 y9 (ix w.2.1 P) 2 (cel_z hs) rfl (i := Int32.ofInt i) (x := Int32.ofInt x) (r32_in hr h0 h1) hd (fun H1 locs1 q1 q2 q3 => ?_)
  rw [hn, upd_of hr h0, wsv_set (σ' := hset w.2.2.2 P i x) hs.1 (by simp [cel, hs.2.1, hs.2.2]) (fun q hq => hset_ne hq)] at q1 q2
  exact K al H1 locs1 la ⟨y1, y2.setA hs (by omega) (show 0 ≤ x ∧ x ≤ 1 from ⟨hx0, hx1⟩), all_tl (all_tl (all_tl y3)), y4, y5, y6, q1, q2, q3⟩
theorem s_fast {Z : Act} {B : Bg} (hC : Cx Z B) {pc L' P : Nat} {L : Lc} {w : Wd} {st : List PV} {i x : Int} (hd : decode (mB B.1) pc = .ok (.aastore, 1)) (h0 : 0 ≤ i) (h1 : i < L') (hx0 : 0 ≤ x) (K : GX Z B (pc + 1) L st (w.1, w.2.1, w.2.2.1, hset w.2.2.2 P i x)) : GX Z B pc L (pvF x :: pvI i :: pvR 15 L' P :: st) w := by
  obtain ⟨p, l, e, R, s, m, args, below, meth, c, D, cs, A, Q⟩ := Z
  obtain ⟨M, d, w0, al0, o, X, b⟩ := B
  obtain ⟨⟨hx, hb, hml, hown⟩, hts, hA, ⟨hlk, hst, hrt, hin, hex⟩, hMF, hR, hXs⟩ := hC
  intro al H locs la hy
  obtain ⟨y1, y2, y3, y4, y5, y6, y7, y8, y9⟩ := id hy
  have hr : r32 i := all_hd (all_tl y3)
  have hs := PVok.R.mp (all_hd (all_tl (all_tl y3)))
  have hf : fOk w.2.1 x := all_hd y3
  have hs2 : Sh w.2.1 x.toNat 2 0 := by
    rcases hf with rfl | ⟨P', rfl, h⟩
    · omega
    · rw [Int.toNat_natCast]; exact h
  have he : vl al b (pvF x) = .ref (al x.toNat) := by show va_rf (rfo al x) = _; unfold rfo; rw [if_neg (by omega)]; rfl
  show W p l e R s m args below meth c H locs (cn w w0) (sn w w0) Q (F0 m pc la (vl al b (pvF x) :: .int (Int32.ofInt i) :: .ref (al P) :: st.map (vl al b)))
  rw [he]
  refine va_astq hx hb hMF.1 y7 y8 y9 (ix w.2.1 P) 3 (ix w.2.1 x.toNat) 2 (cel_f hs) (r := (RX2, TX2, 5)) rfl (cel_o hs2 (by omega)) rfl (i := Int32.ofInt i) (r32_in hr h0 h1) hd (fun H1 locs1 q1 q2 q3 => ?_)
  rw [upF_of hr h0 hx0, wsv_set (σ' := hset w.2.2.2 P i x) hs.1 (by simp [cel, hs.2.1, hs.2.2]) (fun q hq => hset_ne hq)] at q1 q2
  exact K al H1 locs1 la ⟨y1, y2.setA hs (by omega) hf, all_tl (all_tl (all_tl y3)), y4, y5, y6, q1, q2, q3⟩
/-! library calls -/
theorem cn_le {w o w0 : Wd} (h : le w o) : cn w w0 ≤ cn o w0 := by unfold cn; have := cw_mono h.1; have := h.2; omega
theorem sn_le {w o w0 : Wd} (h : le w o) : sn w w0 ≤ sn o w0 := by unfold sn; have := SL_mono h.1; have := h.2; omega
theorem bump (al : Nat → Nat) (b : Nat) {st : List PV} {n k : Nat} (h : catS st ≤ n) : ((st.map (vl al b)).map fun v => v.category).sum + k ≤ n + k := by rw [vl_catS]; omega
theorem s_imax {Z : Act} {B : Bg} (hC : Cx Z B) {pc idx : Nat} {L : Lc} {w : Wd} {st : List PV} {x y : Int} (hd : decode (mB B.1) pc = .ok (.invokestatic idx, 3)) (hl : Cond.methodLink (zOwn (mC B.1)) idx Lib.Math.max.name ∈ lw_good) (hs : catS st ≤ 20) (K : GX Z B (pc + 3) L (pvI (max x y) :: st) w) : GX Z B pc L (pvI y :: pvI x :: st) w := by
  obtain ⟨p, l, e, R, s, m, args, below, meth, c, D, cs, A, Q⟩ := Z
  obtain ⟨M, d, w0, al0, o, X, b⟩ := B
  obtain ⟨⟨hx, hb, hml, hown⟩, hts, hA, ⟨hlk, hst, hrt, hin, hex⟩, hMF, ⟨hR1, hR2, hR3, hR4⟩, hXs⟩ := hC
  intro al H locs la hy
  obtain ⟨y1, y2, y3, y4, y5, y6, y7, y8, y9⟩ := id hy
  have hrx : r32 x := all_hd (all_tl y3)
  have hry : r32 y := all_hd y3
  have hrm : r32 (max x y) := by unfold r32 at hrx hry ⊢; omega
  have KK : W p l e R s m args below meth c H locs (cn w w0) (sn w w0) Q (F0 m (pc + 3) la (.int (Int32.ofInt (max x y)) :: st.map (vl al b))) := K al H locs la (hy.st (all_cons hrm (all_tl (all_tl y3))))
  refine va_mmax (x := Int32.ofInt x) (y := Int32.ofInt y) hx hb (hml.trans y6.2.1.symm) hown (hts _ hl) (hts _ (by decide +kernel)) (hts _ (by decide +kernel)) (hts _ (by decide +kernel)) (by omega) (Nat.le_trans (bump al b hs) (by omega)) (Nat.le_trans (cn_le y1.2) hR3) (Nat.le_trans (sn_le y1.2) hR4) hd ?_
  by_cases h : x < y
  · rw [if_pos ((i_lt hrx hry).mpr h)]
    rw [show max x y = y by omega] at KK
    exact KK
  · rw [if_neg (fun z => h ((i_lt hrx hry).mp z))]
    rw [show max x y = x by omega] at KK
    exact KK
end
section
/-! ===== more library calls; ends; throws ===== -/
theorem s_imin {Z : Act} {B : Bg} (hC : Cx Z B) {pc idx : Nat} {L : Lc} {w : Wd} {st : List PV} {x y : Int} (hd : decode (mB B.1) pc = .ok (.invokestatic idx, 3)) (hl : Cond.methodLink (zOwn (mC B.1)) idx Lib.Math.min.name ∈ lw_good) (hs : catS st ≤ 20) (K : GX Z B (pc + 3) L (pvI (min x y) :: st) w) : GX Z B pc L (pvI y :: pvI x :: st) w := by
  obtain ⟨p, l, e, R, s, m, args, below, meth, c, D, cs, A, Q⟩ := Z
  obtain ⟨M, d, w0, al0, o, X, b⟩ := B
  obtain ⟨⟨hx, hb, hml, hown⟩, hts, hA, ⟨hlk, hst, hrt, hin, hex⟩, hMF, ⟨hR1, hR2, hR3, hR4⟩, hXs⟩ := hC
  intro al H locs la hy
  obtain ⟨y1, y2, y3, y4, y5, y6, y7, y8, y9⟩ := id hy
  have hrx : r32 x := all_hd (all_tl y3)
  have hry : r32 y := all_hd y3
  have hrm : r32 (min x y) := by unfold r32 at hrx hry ⊢; omega
  have KK : W p l e R s m args below meth c H locs (cn w w0) (sn w w0) Q (F0 m (pc + 3) la (.int (Int32.ofInt (min x y)) :: st.map (vl al b))) := K al H locs la (hy.st (all_cons hrm (all_tl (all_tl y3))))
  refine va_mmin (x := Int32.ofInt x) (y := Int32.ofInt y) hx hb (hml.trans y6.2.1.symm) hown (hts _ hl) (hts _ (by decide +kernel)) (hts _ (by decide +kernel)) (hts _ (by decide +kernel)) (by omega) (Nat.le_trans (bump al b hs) (by omega)) (Nat.le_trans (cn_le y1.2) hR3) (Nat.le_trans (sn_le y1.2) hR4) hd ?_
  by_cases h : y < x
  · rw [if_pos ((i_lt hry hrx).mpr h)]
    rw [show min x y = y by omega] at KK
    exact KK
  · rw [if_neg (fun z => h ((i_lt hry hrx).mp z))]
    rw [show min x y = x by omega] at KK
    exact KK
theorem s_lmax {Z : Act} {B : Bg} (hC : Cx Z B) {pc idx : Nat} {L : Lc} {w : Wd} {st : List PV} {x y : Int} (hd : decode (mB B.1) pc = .ok (.invokestatic idx, 3)) (hl : Cond.methodLink (zOwn (mC B.1)) idx Lib.MathLoose.max_long.x ∈ lw_good) (hs : catS st ≤ 20) (K : GX Z B (pc + 3) L (pvL (max x y) :: st) w) : GX Z B pc L (pvL y :: pvL x :: st) w := by
  obtain ⟨p, l, e, R, s, m, args, below, meth, c, D, cs, A, Q⟩ := Z
  obtain ⟨M, d, w0, al0, o, X, b⟩ := B
  obtain ⟨⟨hx, hb, hml, hown⟩, hts, hA, ⟨hlk, hst, hrt, hin, hex⟩, hMF, ⟨hR1, hR2, hR3, hR4⟩, hXs⟩ := hC
  intro al H locs la hy
  obtain ⟨y1, y2, y3, y4, y5, y6, y7, y8, y9⟩ := id hy
  have hrx : r64 x := all_hd (all_tl y3)
  have hry : r64 y := all_hd y3
  have hrm : r64 (max x y) := by unfold r64 at hrx hry ⊢; omega
  have KK : W p l e R s m args below meth c H locs (cn w w0) (sn w w0) Q (F0 m (pc + 3) la (.long (Int64.ofInt (max x y)) :: st.map (vl al b))) := K al H locs la (hy.st (all_cons hrm (all_tl (all_tl y3))))
  refine va_mmax_long (x := Int64.ofInt x) (y := Int64.ofInt y) hx hb (hml.trans y6.2.1.symm) hown (hts _ hl) (hts _ (by decide +kernel)) (hts _ (by decide +kernel)) (hts _ (by decide +kernel)) (by omega) (Nat.le_trans (bump al b hs) (by omega)) (Nat.le_trans (cn_le y1.2) hR3) (Nat.le_trans (sn_le y1.2) hR4) hd ?_
  by_cases h : y < x
  · rw [if_pos ((l_lt hry hrx).mpr h)]
    rw [show max x y = x by omega] at KK
    exact KK
  · rw [if_neg (fun z => h ((l_lt hry hrx).mp z))]
    rw [show max x y = y by omega] at KK
    exact KK
theorem s_lmin {Z : Act} {B : Bg} (hC : Cx Z B) {pc idx : Nat} {L : Lc} {w : Wd} {st : List PV} {x y : Int} (hd : decode (mB B.1) pc = .ok (.invokestatic idx, 3)) (hl : Cond.methodLink (zOwn (mC B.1)) idx Lib.MathLoose.min_long.x ∈ lw_good) (hs : catS st ≤ 20) (K : GX Z B (pc + 3) L (pvL (min x y) :: st) w) : GX Z B pc L (pvL y :: pvL x :: st) w := by
  obtain ⟨p, l, e, R, s, m, args, below, meth, c, D, cs, A, Q⟩ := Z
  obtain ⟨M, d, w0, al0, o, X, b⟩ := B
  obtain ⟨⟨hx, hb, hml, hown⟩, hts, hA, ⟨hlk, hst, hrt, hin, hex⟩, hMF, ⟨hR1, hR2, hR3, hR4⟩, hXs⟩ := hC
  intro al H locs la hy
  obtain ⟨y1, y2, y3, y4, y5, y6, y7, y8, y9⟩ := id hy
  have hrx : r64 x := all_hd (all_tl y3)
  have hry : r64 y := all_hd y3
  have hrm : r64 (min x y) := by unfold r64 at hrx hry ⊢; omega
  have KK : W p l e R s m args below meth c H locs (cn w w0) (sn w w0) Q (F0 m (pc + 3) la (.long (Int64.ofInt (min x y)) :: st.map (vl al b))) := K al H locs la (hy.st (all_cons hrm (all_tl (all_tl y3))))
  refine va_mmin_long (x := Int64.ofInt x) (y := Int64.ofInt y) hx hb (hml.trans y6.2.1.symm) hown (hts _ hl) (hts _ (by decide +kernel)) (hts _ (by decide +kernel)) (hts _ (by decide +kernel)) (by omega) (Nat.le_trans (bump al b hs) (by omega)) (Nat.le_trans (cn_le y1.2) hR3) (Nat.le_trans (sn_le y1.2) hR4) hd ?_
  by_cases h : y < x
  · rw [if_pos ((l_lt hry hrx).mpr h)]
    rw [show min x y = y by omega] at KK
    exact KK
  · rw [if_neg (fun z => h ((l_lt hry hrx).mp z))]
    rw [show min x y = x by omega] at KK
    exact KK
theorem s_labs {Z : Act} {B : Bg} (hC : Cx Z B) {pc : Nat} {L : Lc} {w : Wd} {st : List PV} {idx : Nat} {x : Int} (hd : decode (mB B.1) pc = .ok (.invokestatic idx, 3)) (hl : Cond.methodLink (zOwn (mC B.1)) idx Lib.MathLoose.abs_long.x ∈ lw_good) (hs : catS st ≤ 20) (hr : r64 (-x)) (K : GX Z B (pc + 3) L (pvL (max x (-x)) :: st) w) : GX Z B pc L (pvL x :: st) w := by
  obtain ⟨p, l, e, R, s, m, args, below, meth, c, D, cs, A, Q⟩ := Z
  obtain ⟨M, d, w0, al0, o, X, b⟩ := B
  obtain ⟨⟨hx, hb, hml, hown⟩, hts, hA, ⟨hlk, hst, hrt, hin, hex⟩, hMF, ⟨hR1, hR2, hR3, hR4⟩, hXs⟩ := hC
  intro al H locs la hy
  obtain ⟨y1, y2, y3, y4, y5, y6, y7, y8, y9⟩ := id hy
  have hrx : r64 x := all_hd y3
  have hrm : r64 (max x (-x)) := by unfold r64 at hrx hr ⊢; omega
  have KK : W p l e R s m args below meth c H locs (cn w w0) (sn w w0) Q (F0 m (pc + 3) la (.long (Int64.ofInt (max x (-x))) :: st.map (vl al b))) := K al H locs la (hy.st (all_cons hrm (all_tl y3)))
  refine va_mabs_long (x := Int64.ofInt x) hx hb (hml.trans y6.2.1.symm) hown (hts _ hl) (hts _ (by decide +kernel)) (hts _ (by decide +kernel)) (hts _ (by decide +kernel)) (by omega) (Nat.le_trans (bump al b hs) (by omega)) (Nat.le_trans (cn_le y1.2) hR3) (Nat.le_trans (sn_le y1.2) hR4) hd ?_
  have h0 : (0 : Int64) = Int64.ofInt 0 := rfl
  rw [h0, l_neg, w64_id hr]
  by_cases h : 0 < x
  · rw [if_pos ((l_lt (r64_c rfl) hrx).mpr h)]
    rw [show max x (-x) = x by omega] at KK
    exact KK
  · rw [if_neg (fun z => h ((l_lt (r64_c rfl) hrx).mp z))]
    rw [show max x (-x) = -x by omega] at KK
    exact KK
theorem s_copy {Z : Act} {B : Bg} (hC : Cx Z B) {pc : Nat} {L : Lc} {w : Wd} {st : List PV} {idx L1 P1 L0 P0 : Nat} {n dp sp : Int} (hd : decode (mB B.1) pc = .ok (.invokestatic idx, 3)) (hl : Cond.methodLink (zOwn (mC B.1)) idx arraycopyName ∈ lw_good) (hs : catS st ≤ 20) (h1 : 0 ≤ sp) (h2 : 0 ≤ dp) (h3 : 0 ≤ n) (h4 : sp + n ≤ L0) (h5 : dp + n ≤ L1) (K : GX Z B (pc + 3) L (st) (w.1, w.2.1, w.2.2.1, zCpy w.2.2.2 P0 P1 sp dp n)) : GX Z B pc L (pvI n :: pvI dp :: pvR 12 L1 P1 :: pvI sp :: pvR 12 L0 P0 :: st) w := by
  obtain ⟨p, l, e, R, s, m, args, below, meth, c, D, cs, A, Q⟩ := Z
  obtain ⟨M, d, w0, al0, o, X, b⟩ := B
  obtain ⟨⟨hx, hb, hml, hown⟩, hts, hA, ⟨hlk, hst, hrt, hin, hex⟩, hMF, ⟨hR1, hR2, hR3, hR4⟩, hXs⟩ := hC
  intro al H locs la hy
  obtain ⟨y1, y2, y3, y4, y5, y6, y7, y8, y9⟩ := id hy
  have hrn : r32 n := all_hd y3
  have hrd : r32 dp := all_hd (all_tl y3)
  have hs1 := PVok.R.mp (all_hd (all_tl (all_tl y3)))
  have hrs : r32 sp := all_hd (all_tl (all_tl (all_tl y3)))
  have hs0 := PVok.R.mp (all_hd (all_tl (all_tl (all_tl (all_tl y3)))))
  have cn9 := r32_cl hrn h3
  have cd9 := r32_cl hrd h2
  have cs9 := r32_cl hrs h1
  have nn : ∀ {z : Int}, r32 z → 0 ≤ z → ¬ Int32.ofInt z < 0 := fun hz h0 h => by have := (i_lt hz (r32_c rfl : r32 0)).mp h; omega
  refine va_copyi (sp := Int32.ofInt sp) (dp := Int32.ofInt dp) (n := Int32.ofInt n) (a0 := al P0) (a := al P1) hx hb (hml.trans y6.2.1.symm) hown (hts _ hl) (hts _ (by decide +kernel)) (hts _ (by decide +kernel)) (hts _ (by decide +kernel)) hMF.1 y7 y8 y9 (ix w.2.1 P0) (ix w.2.1 P1) 0 0 (cel_i hs0) (cel_i hs1) rfl rfl rfl (nn hrs h1) (nn hrd h2) (nn hrn h3) (by omega) (by omega) (fun i _ => rfl) (by omega) (Nat.le_trans (bump al b hs) (Nat.le_trans (Nat.le_of_ble_eq_true rfl : 20 + (nativeFrameWords "java/lang/System" "arraycopy" 5 + 11) ≤ 150) (by omega))) hd (fun H1 locs1 q1 q2 q3 => ?_)
  have he : (va_cpy (fun j : Nat => Int32.ofInt (w.2.2.2 P0 j)) (fun j : Nat => Int32.ofInt (w.2.2.2 P1 j)) (Int32.ofInt sp).toNatClampNeg (Int32.ofInt dp).toNatClampNeg (Int32.ofInt n).toNatClampNeg) = fun j : Nat => Int32.ofInt (zCpy w.2.2.2 P0 P1 sp dp n P1 j) := by
    funext j
    unfold va_cpy zCpy
    by_cases hj : (Int32.ofInt dp).toNatClampNeg ≤ j ∧ j < (Int32.ofInt dp).toNatClampNeg + (Int32.ofInt n).toNatClampNeg
    · rw [if_pos hj, if_pos ⟨rfl, by omega, by omega⟩]
      have e9 : (((Int32.ofInt sp).toNatClampNeg + (j - (Int32.ofInt dp).toNatClampNeg) : Nat) : Int) = sp + (j - dp) := by omega
      show Int32.ofInt (w.2.2.2 P0 (((Int32.ofInt sp).toNatClampNeg + (j - (Int32.ofInt dp).toNatClampNeg) : Nat) : Int)) = _
      rw [e9]
    · rw [if_neg hj, if_neg (fun z => hj ⟨by omega, by omega⟩)]
  have ho : ∀ q, q ≠ P1 → zCpy w.2.2.2 P0 P1 sp dp n q = w.2.2.2 q := fun q hq => by funext j; unfold zCpy; rw [if_neg (fun z => hq z.1)]
  rw [he, wsv_set (σ' := zCpy w.2.2.2 P0 P1 sp dp n) hs1.1 (by simp [cel, hs1.2.1, hs1.2.2]) ho] at q1 q2
  refine K al H1 locs1 la ⟨y1, y2.arr hs1 (by omega) ho (fun i => ?_), all_tl (all_tl (all_tl (all_tl (all_tl y3)))), y4, y5, y6, q1, q2, q3⟩
  show r32 (zCpy _ _ _ _ _ _ P1 i)
  unfold zCpy
  split
  · exact y2.2.2.2.1 P0 12 L0 _ hs0 (by omega)
  · exact y2.2.2.2.1 P1 12 L1 _ hs1 (by omega)
theorem s_obj {Z : Act} {B : Bg} (hC : Cx Z B) {pc : Nat} {L : Lc} {w : Wd} {st : List PV} {idx k L0 P : Nat} (hd : decode (mB B.1) pc = .ok (.invokespecial idx, 3)) (hl : Cond.methodLink (zOwn (mC B.1)) idx Lib.objectInit ∈ lw_good) (hs : catS st ≤ 20) (K : GX Z B (pc + 3) L (st) w) : GX Z B pc L (pvR k L0 P :: st) w := by
  obtain ⟨p, l, e, R, s, m, args, below, meth, c, D, cs, A, Q⟩ := Z
  obtain ⟨M, d, w0, al0, o, X, b⟩ := B
  obtain ⟨⟨hx, hb, hml, hown⟩, hts, hA, ⟨hlk, hst, hrt, hin, hex⟩, hMF, ⟨hR1, hR2, hR3, hR4⟩, hXs⟩ := hC
  intro al H locs la hy
  obtain ⟨y1, y2, y3, y4, y5, y6, y7, y8, y9⟩ := id hy
  refine W.objInit (a := al P) (rest := st.map (vl al b)) hx hb hown (hts _ hl) (hts _ (by decide +kernel)) (hts _ (by decide +kernel)) rfl (y6.2.1.trans hml.symm) rfl hd (by omega) ?_ (K al H locs la (hy.st (all_tl y3)))
  have h9 : (F0 m pc la (List.map (vl al b) (pvR k L0 P :: st))).monitorRoom = 0 := rfl
  rw [h9, vl_catS]
  omega
/-! what a method's end owes -/
def CQ (D : va_G) (cs : Cids) (al0 : Nat → Nat) (A : Nat → Prop) (w0 : Wd) (out : Out) : Array Value → State → Outcome → State → Prop := fun _ st oc t => out.1 = 0 ∧ (∃ al : Nat → Nat, (∀ p, inn w0.2.1 p → al p = al0 p) ∧ oc = .returned (out.2.1.map (vl al 0)) ∧ va_P D vwCl (wsv al cs out.2.2.2.2.2 out.2.2.2.1) t.heap ∧ va_D A (wsv al cs out.2.2.2.2.2 out.2.2.2.1)) ∧ TyM out.2.2.1 out.2.2.2.1 out.2.2.2.2.2 ∧ (∀ v, out.2.1 = some v → PVok out.2.2.2.1 v ∧ v.1 ≠ 3) ∧ va_F A st t
def CX (D : va_G) (cs : Cids) (al0 : Nat → Nat) (A : Nat → Prop) (w0 : Wd) (out : Out) : String → State → State → Prop := fun E st t => (out.1 ≠ 0 ∧ out.1 ≤ 3) ∧ E = zX out.1 ∧ (∃ al : Nat → Nat, (∀ p, inn w0.2.1 p → al p = al0 p) ∧ va_P D vwCl (wsv al cs out.2.2.2.2.2 out.2.2.2.1) t.heap ∧ va_D A (wsv al cs out.2.2.2.2.2 out.2.2.2.1)) ∧ TyM out.2.2.1 out.2.2.2.1 out.2.2.2.2.2 ∧ va_F A st t
/-- the place's goal is the method's end -/
def QQ (Z : Act) (B : Bg) (out : Out) : Prop := match Z, B with
  | (_, _, _, _, s, _, args, below, _, _, D, cs, A, Q), (_, _, w0, al0, o, _, _) => o = out.2.2 ∧ Q = vx_MQ below (CQ D cs al0 A w0 out) (CX D cs al0 A w0 out) args s (cn o w0) (sn o w0) A
theorem s_iret {Z : Act} {B : Bg} (hC : Cx Z B) {pc : Nat} {L : Lc} {w : Wd} {x : Int} (h : (mR B.1 = some .int) ∨ (mR B.1 = some .boolean ∧ 0 ≤ x ∧ x ≤ 1)) (hd : decode (mB B.1) pc = .ok (.ireturn, 1)) (hQ : QQ Z B (0, some (pvI x), w)) : GX Z B pc L [pvI x] w := by
  obtain ⟨p, l, e, R, s, m, args, below, meth, c, D, cs, A, Q⟩ := Z
  obtain ⟨M, d, w0, al0, o, X, b⟩ := B
  obtain ⟨⟨hx, hb, hml, hown⟩, hts, hA, ⟨hlk, hst, hrt, hin, hex⟩, hMF, ⟨hR1, hR2, hR3, hR4⟩, hXs⟩ := hC
  intro al H locs la hy
  obtain ⟨y1, y2, y3, y4, y5, y6, y7, y8, y9⟩ := id hy
  obtain ⟨ho, rfl⟩ := hQ
  have ho2 : w = o := ho.symm
  subst ho2
  have hv : ∀ v, some (pvI x) = some v → PVok w.2.1 v ∧ v.1 ≠ 3 := fun v h => by cases h; exact ⟨all_hd y3, Nat.zero_ne_add_one 2⟩
  rcases h with h | ⟨h, h0, h1⟩
  · exact vx_ret (W.iret (v := Int32.ofInt x) hx hb (hrt.trans h) (fun t ht hw => ⟨rfl, ⟨al, y5, rfl, by rw [ht]; exact y7, y8⟩, y2, hv, y9.F ht⟩) y9.2.2 hd hlk)
  · refine vx_ret (W.zret (v := Int32.ofInt x) (ty := .boolean) hx hb (hrt.trans h) ?_ (fun t ht hw => ⟨rfl, ⟨al, y5, rfl, by rw [ht]; exact y7, y8⟩, y2, hv, y9.F ht⟩) y9.2.2 hd hlk)
    rcases (show x = 0 ∨ x = 1 by omega) with rfl | rfl <;> rfl
theorem s_lret {Z : Act} {B : Bg} (hC : Cx Z B) {pc : Nat} {L : Lc} {w : Wd} {x : Int} (h : mR B.1 = some .long) (hd : decode (mB B.1) pc = .ok (.lreturn, 1)) (hQ : QQ Z B (0, some (pvL x), w)) : GX Z B pc L [pvL x] w := by
  obtain ⟨p, l, e, R, s, m, args, below, meth, c, D, cs, A, Q⟩ := Z
  obtain ⟨M, d, w0, al0, o, X, b⟩ := B
  obtain ⟨⟨hx, hb, hml, hown⟩, hts, hA, ⟨hlk, hst, hrt, hin, hex⟩, hMF, ⟨hR1, hR2, hR3, hR4⟩, hXs⟩ := hC
  intro al H locs la hy
  obtain ⟨y1, y2, y3, y4, y5, y6, y7, y8, y9⟩ := id hy
  obtain ⟨ho, rfl⟩ := hQ
  have ho2 : w = o := ho.symm
  subst ho2
  have hv : ∀ v, some (pvL x) = some v → PVok w.2.1 v ∧ v.1 ≠ 3 := fun v h => by cases h; exact ⟨all_hd y3, show 1 ≠ 3 by omega⟩
  exact vx_ret (W.lret (v := Int64.ofInt x) hx hb (hrt.trans h) (fun t ht hw => ⟨rfl, ⟨al, y5, rfl, by rw [ht]; exact y7, y8⟩, y2, hv, y9.F ht⟩) y9.2.2 hd hlk)
theorem s_aret {Z : Act} {B : Bg} (hC : Cx Z B) {pc : Nat} {L : Lc} {w : Wd} {v : PV} {n : String} (h2 : 2 ≤ v.1) (h3 : v.1 ≠ 3) (h : mR B.1 = some (.object n) ∨ mR B.1 = some (.array .int)) (hd : decode (mB B.1) pc = .ok (.areturn, 1)) (hQ : QQ Z B (0, some v, w)) : GX Z B pc L [v] w := by
  obtain ⟨p, l, e, R, s, m, args, below, meth, c, D, cs, A, Q⟩ := Z
  obtain ⟨M, d, w0, al0, o, X, b⟩ := B
  obtain ⟨⟨hx, hb, hml, hown⟩, hts, hA, ⟨hlk, hst, hrt, hin, hex⟩, hMF, ⟨hR1, hR2, hR3, hR4⟩, hXs⟩ := hC
  intro al H locs la hy
  obtain ⟨y1, y2, y3, y4, y5, y6, y7, y8, y9⟩ := id hy
  obtain ⟨ho, rfl⟩ := hQ
  have ho2 : w = o := ho.symm
  subst ho2
  have hv : ∀ u, some v = some u → PVok w.2.1 u ∧ u.1 ≠ 3 := fun u h => by cases h; exact ⟨all_hd y3, h3⟩
  rcases h with h | h
  · exact vx_ret (W.aret (v := vl al b v) hx hb (hrt.trans h) (Or.inl ⟨_, rfl⟩) (vl_ref (n := w.2.1) h2) (fun t ht hw => ⟨rfl, ⟨al, y5, by rw [vl_b h3]; rfl, by rw [ht]; exact y7, y8⟩, y2, hv, y9.F ht⟩) y9.2.2 hd hlk)
  · exact vx_ret (W.aret (v := vl al b v) hx hb (hrt.trans h) (Or.inr ⟨_, rfl⟩) (vl_ref (n := w.2.1) h2) (fun t ht hw => ⟨rfl, ⟨al, y5, by rw [vl_b h3]; rfl, by rw [ht]; exact y7, y8⟩, y2, hv, y9.F ht⟩) y9.2.2 hd hlk)
theorem s_vret {Z : Act} {B : Bg} (hC : Cx Z B) {pc : Nat} {L : Lc} {w : Wd} (h : mR B.1 = none) (hd : decode (mB B.1) pc = .ok (.return_, 1)) (hQ : QQ Z B (0, none, w)) : GX Z B pc L [] w := by
  obtain ⟨p, l, e, R, s, m, args, below, meth, c, D, cs, A, Q⟩ := Z
  obtain ⟨M, d, w0, al0, o, X, b⟩ := B
  obtain ⟨⟨hx, hb, hml, hown⟩, hts, hA, ⟨hlk, hst, hrt, hin, hex⟩, hMF, ⟨hR1, hR2, hR3, hR4⟩, hXs⟩ := hC
  intro al H locs la hy
  obtain ⟨y1, y2, y3, y4, y5, y6, y7, y8, y9⟩ := id hy
  obtain ⟨ho, rfl⟩ := hQ
  have ho2 : w = o := ho.symm
  subst ho2
  exact vx_ret (W.vret hx hb (hrt.trans h) (fun t ht hw => ⟨rfl, ⟨al, y5, rfl, by rw [ht]; exact y7, y8⟩, y2, (fun v h => by cases h), y9.F ht⟩) y9.2.2 hd hlk)
end
section
/-! ===== throws, and the cells that are made ===== -/
theorem sh_cases (p : Nat) : p < 130 ∨ (¬ p < 130 ∧ p < 171 ∧ sh p = 11 ∧ ln p = 0) ∨ (1048576 ≤ p ∧ sh p = 12 ∧ ln p = 60) ∨ (171 ≤ p ∧ p < 1048576 ∧ ((sh p = 2 ∧ ln p = 0) ∨ (sh p = 12 ∧ ln p = 10))) := by
  by_cases h1 : p < 130
  · exact Or.inl h1
  by_cases h2 : p < 171
  · refine Or.inr (Or.inl ⟨h1, h2, sh_gap h1 h2, ?_⟩)
    unfold ln
    rw [if_neg h1, if_pos h2]
  by_cases h3 : 1048576 ≤ p
  · exact Or.inr (Or.inr (Or.inl ⟨h3, sh_big h3⟩))
  refine Or.inr (Or.inr (Or.inr ⟨by omega, by omega, ?_⟩))
  have := sh_fm (p := p) (by omega) (by omega)
  by_cases h4 : (p - 171) % 4 = 0
  · rw [if_pos h4, if_pos h4] at this; exact Or.inl this
  · rw [if_neg h4, if_neg h4] at this; exact Or.inr this
theorem ln_obj {p : Nat} (h : sh p < 12) : ln p = 0 := by
  rcases sh_cases p with hp | ⟨-, -, -, h1⟩ | ⟨-, h1, -⟩ | ⟨-, -, (h1 | h1)⟩
  · have h1 : ∀ q, q < 130 → sh q < 12 → ln q = 0 := by decide +kernel
    exact h1 p hp h
  · exact h1
  · omega
  · exact h1.2
  · omega
theorem sh_le (p : Nat) : sh p ≤ 16 := by
  rcases sh_cases p with hp | ⟨-, -, h1, -⟩ | ⟨-, h1, -⟩ | ⟨-, -, (h1 | h1)⟩
  · have h1 : ∀ q, q < 130 → sh q ≤ 16 := by decide +kernel
    exact h1 p hp
  · omega
  · omega
  · omega
  · omega
theorem len16 {p : Nat} (h : sh p = 16) : ln p = 13 := by
  have h1 : ∀ q, q < 130 → sh q = 16 → ln q = 13 := by decide +kernel
  exact h1 p (sh16 h) h
/-- a pointer into the world, or null -/
def pOk (n : Nat) (x : Int) : Prop := x < 0 ∨ inn n x.toNat
theorem rfo_p {al al' : Nat → Nat} {n : Nat} {x : Int} (h : ∀ p, inn n p → al' p = al p) (hx : pOk n x) : rfo al' x = rfo al x := by
  unfold rfo
  rcases hx with hx | hx
  · rw [if_pos hx, if_pos hx]
  · rw [h _ hx]
theorem fOk.p {n : Nat} {x : Int} (h : fOk n x) : pOk n x := by
  rcases h with rfl | ⟨P, rfl, h⟩
  · exact Or.inl (by omega)
  · exact Or.inr (by rw [Int.toNat_natCast]; exact h.1)
theorem TyM.p4 {md : Bool} {n : Nat} {σ : Hp} {p k j : Nat} {o : Int} (hT : TyM md n σ) (hs : Sh n p k 0) (hf : (zFld k)[j]? = some (4, o)) : pOk n (σ p j) := by
  rcases hT.2.2.1 p k j 4 o hs hf with h | ⟨-, h⟩
  · rw [h]
    cases md with
    | false =>
      have := hT.2.2.2.2 rfl p k j o hs hf h
      exact Or.inr this.2
    | true =>
      by_cases hz : (p : Int) + o < 0
      · exact Or.inl hz
      · have hk := zFld_lt hf
        have hex : ∀ k, k < 12 → ∀ j, j < (zFld k).length → (zTgt k)[j]?.isSome = true := by decide +kernel
        have hj : j < (zFld k).length := (List.getElem?_eq_some_iff.mp hf).1
        obtain ⟨⟨k', L'⟩, ht⟩ := Option.isSome_iff_exists.mp (hex k hk j hj)
        have := Sh.tgt (P' := ((p : Int) + o).toNat) (hT.1 rfl) hs hf ht (by omega)
        exact Or.inr this.1
  · rw [h]; exact Or.inl (by omega)
/-- only the pointers into the world matter -/
theorem cel_al {md : Bool} {n p : Nat} {σ : Hp} {al al' : Nat → Nat} {cs : Cids} {D : va_G} {H : Heap} {a : Nat} (hp : inn n p) (h : ∀ p, inn n p → al' p = al p) (hT : TyM md n σ) (hv : va_at D vwCl (a, cel al cs (σ p) p) H) : va_at D vwCl (a, cel al' cs (σ p) p) H := by
  have hs : Sh n p (sh p) (ln p) := ⟨hp, rfl, rfl⟩
  by_cases h1 : sh p < 12
  · have e : cel al' cs (σ p) p = cel al cs (σ p) p := by
      unfold cel
      rw [if_pos h1, if_pos h1]
      congr 2
      unfold flds
      apply List.map_congr_left
      intro j hj
      have hj2 : j < (zFld (sh p)).length := List.mem_range.mp hj
      obtain ⟨⟨c, o⟩, hz⟩ : ∃ x, (zFld (sh p))[j]? = some x := ⟨_, List.getElem?_eq_getElem hj2⟩
      rw [List.getD_eq_getElem?_getD, hz]
      have hs0 : Sh n p (sh p) 0 := ⟨hp, rfl, ln_obj h1⟩
      show fvl al' c (σ p j) = fvl al c (σ p j)
      match c, hz with
      | 0, _ => rfl
      | 1, _ => rfl
      | 2, _ => rfl
      | 3, hz => exact congrArg va_rf (rfo_p h (fOk.p (hT.2.2.1 p _ j 3 o hs0 hz)))
      | 4, hz => exact congrArg va_rf (rfo_p h (hT.p4 hs0 hz))
      | c + 5, hz =>
        have hex : ∀ k, k < 12 → ∀ j, j < (zFld k).length → ((zFld k)[j]?.map fun q => q.1) = some 0 ∨ ((zFld k)[j]?.map fun q => q.1) = some 1 ∨ ((zFld k)[j]?.map fun q => q.1) = some 2 ∨ ((zFld k)[j]?.map fun q => q.1) = some 3 ∨ ((zFld k)[j]?.map fun q => q.1) = some 4 := by decide +kernel
        have := hex _ h1 j hj2
        rw [hz] at this
        simp at this
    rw [e]; exact hv
  · have h16 := sh_le p
    rcases (show sh p = 12 ∨ sh p = 13 ∨ sh p = 14 ∨ sh p = 15 ∨ sh p = 16 by omega) with e | e | e | e | e
    · have e2 : cel al' cs (σ p) p = cel al cs (σ p) p := by simp [cel, e]
      rw [e2]; exact hv
    · have e2 : cel al' cs (σ p) p = cel al cs (σ p) p := by simp [cel, e]
      rw [e2]; exact hv
    · have e2 : cel al' cs (σ p) p = cel al cs (σ p) p := by simp [cel, e]
      rw [e2]; exact hv
    · have e2 : cel al' cs (σ p) p = cel al cs (σ p) p := by
        have e3 : (fun j : Nat => rfo al' (σ p j)) = fun j : Nat => rfo al (σ p j) := funext fun j => rfo_p h (fOk.p (hT.2.2.2.1 p 15 (ln p) j (by rw [← e]; exact hs) (by omega)))
        simp [cel, e, e3]
      rw [e2]; exact hv
    · have c1 : ∀ al : Nat → Nat, cel al cs (σ p) p = .inl (cs.2.2.2.2, 13, .inr (.inr (.inr (.inr fun j => rfo al (σ p j))))) := fun al => by simp [cel, e, len16 e]
      rw [c1] at hv ⊢
      have hv : H[a]? = some (arrV cs.2.2.2.2 13 fun j => va_rf (rfo al (σ p j))) := hv
      show H[a]? = some (arrV cs.2.2.2.2 13 fun j => va_rf (rfo al' (σ p j)))
      rw [hv]
      congr 1
      unfold arrV
      congr 2
      funext j
      refine congrArg va_rf (rfo_p h ?_).symm
      have hv2 : tyA n p 16 13 (j.val : Int) (σ p j.val) := hT.2.2.2.1 p 16 13 _ (by rw [← e, ← len16 e]; exact hs) (by omega)
      have hj := j.isLt
      have hv3 : σ p (j.val : Int) = p + 1 + (j.val : Int) := hv2 (by omega) (by omega)
      rw [hv3]
      refine Or.inr ?_
      rw [show ((p : Int) + 1 + (j.val : Int)).toNat = p + 1 + j.val by omega]
      cases hm : md with
      | true => subst hm; exact (Sh.row (i := j.val) (hT.1 rfl) (by rw [← e, ← len16 e]; exact hs : Sh n p 16 13) hj).1
      | false =>
        subst hm
        have h3 := hT.2.1 rfl
        have h4 := h3.2 p (inn_lt hp (by omega)) e
        exact inn_of (by omega) (by omega) (by omega)
theorem wsv_al {md : Bool} {n : Nat} {σ : Hp} {al al' : Nat → Nat} {cs : Cids} {D : va_G} {H : Heap} (h : ∀ p, inn n p → al' p = al p) (hT : TyM md n σ) (hP : va_P D vwCl (wsv al cs σ n) H) : va_P D vwCl (wsv al' cs σ n) H :=
  wsv_P.mpr fun p hp => by
    have := wsv_P.mp hP p hp
    rw [h p hp]
    exact cel_al hp h hT this
theorem wsv_congr {al : Nat → Nat} {cs : Cids} {σ σ' : Hp} {n : Nat} (h : ∀ p, inn n p → σ' p = σ p) : wsv al cs σ' n = wsv al cs σ n := by
  unfold wsv
  apply List.map_congr_left
  intro p hp
  rw [h p (ptrs_mem.mp hp)]
/-- more cells -/
theorem growG {md : Bool} {n n' : Nat} {σ σ' : Hp} {al al' : Nat → Nat} {cs : Cids} {D : va_G} {H : Heap} {A : Nat → Prop} {N : Nat → Prop} (hT : TyM md n σ) (hn : ∀ p, inn n' p → inn n p ∨ N p) (ho : ∀ p, inn n p → σ' p = σ p) (ha : ∀ p, inn n p → al' p = al p)
    (hP : va_P D vwCl (wsv al cs σ n) H) (hD : va_D A (wsv al cs σ n)) (hc : ∀ p, N p → va_at D vwCl (al' p, cel al' cs (σ' p) p) H) (h1 : ∀ p q, N p → N q → al' p = al' q → p = q) (h2 : ∀ p q, N p → inn n q → al' p ≠ al q) (h3 : ∀ p, N p → A (al' p)) : va_P D vwCl (wsv al' cs σ' n') H ∧ va_D A (wsv al' cs σ' n') := by
  have hP2 := wsv_P.mp (wsv_al ha hT hP)
  have hD2 := wsv_D.mp hD
  refine ⟨wsv_P.mpr fun p hp => ?_, wsv_D.mpr ⟨fun p q hp hq e => ?_, fun p hp => ?_⟩⟩
  · rcases hn p hp with h | h
    · rw [ho p h]; exact hP2 p h
    · exact hc p h
  · rcases hn p hp with hp | hp <;> rcases hn q hq with hq | hq
    · rw [ha p hp, ha q hq] at e; exact hD2.1 p q hp hq e
    · rw [ha p hp] at e; exact absurd e.symm (h2 q p hq hp)
    · rw [ha q hq] at e; exact absurd e (h2 p q hp hq)
    · exact h1 p q hp hq e
  · rcases hn p hp with h | h
    · rw [ha p h]; exact hD2.2 p h
    · exact h3 p h
theorem app_at {D : va_G} {ws : va_W} {q : Nat} {e : va_E} {H : Heap} (hP : va_P D vwCl (ws ++ [(q, e)]) H) : va_at D vwCl (q, e) H := hP ws.length _ (by rw [List.getElem?_append_right (Nat.le_refl _), Nat.sub_self]; rfl)
theorem app_in {ws : va_W} {x : Nat × va_E} {k : Nat} {y : Nat × va_E} (h : ws[k]? = some y) : (ws ++ [x])[k]? = some y := by
  rw [List.getElem?_append_left (List.getElem?_eq_some_iff.mp h).1]; exact h
theorem app_P {D : va_G} {ws : va_W} {x : Nat × va_E} {H : Heap} (hP : va_P D vwCl (ws ++ [x]) H) : va_P D vwCl ws H := fun k y hy => hP k y (app_in hy)
theorem app_D {A : Nat → Prop} {ws : va_W} {x : Nat × va_E} (hD : va_D A (ws ++ [x])) : va_D A ws := ⟨fun i j p q hi hj e => hD.1 i j p q (app_in hi) (app_in hj) e, fun k q hk => hD.2 k q (app_in hk)⟩
theorem app_q {A : Nat → Prop} {ws : va_W} {q : Nat} {e : va_E} (hD : va_D A (ws ++ [(q, e)])) : A q := hD.2 ws.length (q, e) (by rw [List.getElem?_append_right (Nat.le_refl _), Nat.sub_self]; rfl)
theorem app_ne {A : Nat → Prop} {ws : va_W} {q : Nat} {e : va_E} (hD : va_D A (ws ++ [(q, e)])) {k : Nat} {y : Nat × va_E} (h : ws[k]? = some y) : y.1 ≠ q := fun z => by
  have hl := (List.getElem?_eq_some_iff.mp h).1
  have := hD.1 k ws.length y (q, e) (app_in h) (by rw [List.getElem?_append_right (Nat.le_refl _), Nat.sub_self]; rfl) z
  omega
def alUp (al : Nat → Nat) (n q : Nat) : Nat → Nat := fun p => if p = n then q else al p
theorem alUp_in {al : Nat → Nat} {n P q : Nat} (hP : ¬ inn n P) : ∀ p, inn n p → alUp al P q p = al p := fun p hp => by
  unfold alUp
  by_cases e : p = P
  · subst e; exact absurd hp hP
  · rw [if_neg e]
theorem alUp_n {al : Nat → Nat} {n q : Nat} : alUp al n q n = q := by unfold alUp; rw [if_pos rfl]
/-- one more cell -/
theorem grow {md : Bool} {n n' P q : Nat} {σ σ' : Hp} {al : Nat → Nat} {cs : Cids} {D : va_G} {H : Heap} {A : Nat → Prop} {e : va_E} (hT : TyM md n σ) (hn : ∀ p, inn n' p → inn n p ∨ p = P) (hPn : ¬ inn n P) (ho : ∀ p, inn n p → σ' p = σ p) (he : cel (alUp al P q) cs (σ' P) P = e)
    (hP : va_P D vwCl (wsv al cs σ n ++ [(q, e)]) H) (hD : va_D A (wsv al cs σ n ++ [(q, e)])) : va_P D vwCl (wsv (alUp al P q) cs σ' n') H ∧ va_D A (wsv (alUp al P q) cs σ' n') := by
  refine growG hT hn ho (alUp_in hPn) (app_P hP) (app_D hD) (fun p hp => ?_) (fun p q' hp hq _ => by rw [hp, hq]) (fun p q' hp hq => ?_) (fun p hp => ?_)
  · subst hp; rw [he, alUp_n]; exact app_at hP
  · subst hp; rw [alUp_n]; exact fun z => app_ne hD (wsv_get hq) z.symm
  · subst hp; rw [alUp_n]; exact app_q hD
end
section
theorem tyF.mono {md : Bool} {n m p c : Nat} {o v : Int} (h : tyF md n p c o v) (hn : nle n m) : tyF md m p c o v := by
  match c, h with
  | 0, h => exact h
  | 1, h => exact h
  | 2, h => exact h
  | 3, h => exact fOk.mono h hn
  | c + 4, h => exact h
theorem tyA.mono {n m p k L : Nat} {i v : Int} (h : tyA n p k L i v) (hn : nle n m) : tyA m p k L i v := by
  by_cases e13 : k = 13
  · subst e13; exact h
  by_cases e14 : k = 14
  · subst e14; exact h
  by_cases e15 : k = 15
  · subst e15; exact fOk.mono h hn
  by_cases e16 : k = 16
  · subst e16; exact h
  have e : ∀ n, tyA n p k L i v = r32 v := fun n => by unfold tyA; split <;> first | rfl | (exfalso; omega)
  rw [e] at h ⊢
  exact h
/-- more cells, typed -/
theorem TyM.new {md : Bool} {n n' : Nat} {σ σ' : Hp} {N : Nat → Prop} (hT : TyM md n σ) (hle : nle n n') (hm : md = false → n' ≤ 130) (hm2 : md = true → nOk n') (hN : ∀ p, inn n' p → inn n p ∨ N p) (ho : ∀ p, inn n p → σ' p = σ p)
    (hf : ∀ (p j c : Nat) (o : Int), N p → ln p = 0 → (zFld (sh p))[j]? = some (c, o) → tyF md n' p c o (σ' p j) ∧ (c = 4 → md = false → σ' p j = -1))
    (ha : ∀ (p : Nat) (i : Int), N p → 12 ≤ sh p → tyA n' p (sh p) (ln p) i (σ' p i)) (hr : md = false → ∀ p, N p → sh p = 16 → p + 13 < n') : TyM md n' σ' := by
  have hlt : md = false → ∀ p, p < n' → inn n' p := fun e p hp => inn_of hp (by have := hm e; omega) (by have := hm e; omega)
  have hl2 : md = false → n ≤ 130 ∧ n ≤ n' := fun e => ⟨(hT.2.1 e).1, by have := hle.1; have := (hT.2.1 e).1; have := hm e; omega⟩
  refine ⟨hm2, fun e => ⟨hm e, fun p hp h16 => ?_⟩, fun p k j c o hs hz => ?_, fun p k L i hs hk => ?_, fun e p k j o hs hz hv => ?_⟩
  · rcases hN p (hlt e p hp) with h | h
    · have := (hT.2.1 e).2 p (inn_lt h (by have := hl2 e; omega)) h16
      have := hl2 e
      omega
    · exact hr e p h h16
  · rcases hN p hs.1 with h | h
    · rw [ho p h]
      exact (hT.2.2.1 p k j c o ⟨h, hs.2⟩ hz).mono hle
    · exact (hf p j c o h hs.2.2 (by rw [hs.2.1]; exact hz)).1
  · rcases hN p hs.1 with h | h
    · rw [ho p h]
      exact (hT.2.2.2.1 p k L i ⟨h, hs.2⟩ hk).mono hle
    · have := ha p i h (by rw [hs.2.1]; exact hk)
      rw [hs.2.1, hs.2.2] at this
      exact this
  · rcases hN p hs.1 with h | h
    · rw [ho p h] at hv
      have := hT.2.2.2.2 e p k j o ⟨h, hs.2⟩ hz hv
      exact ⟨this.1, this.2.mono hle⟩
    · have h4 := (hf p j 4 o h hs.2.2 (by rw [hs.2.1]; exact hz)).2 rfl e
      have hn := hm e
      have hall : ∀ p, p < 130 → ∀ j, j < (zFld (sh p)).length → ∀ o, (zFld (sh p))[j]? = some (4, o) → (p : Int) + o ≠ -1 := by
        intro p hp j hj o ho
        have hz9 : z_okT p = true := List.all_eq_true.mp z_okT_all p (List.mem_range.mpr hp)
        have h9 := List.all_eq_true.mp hz9 j (List.mem_range.mpr hj)
        rw [ho] at h9
        have hk := zFld_lt ho
        have hex : ∀ k, k < 12 → ∀ j, j < (zFld k).length → (zTgt k)[j]?.isSome = true := by decide +kernel
        obtain ⟨⟨k', L'⟩, ht⟩ := Option.isSome_iff_exists.mp (hex _ hk j hj)
        rw [ht] at h9
        simp only [Bool.and_eq_true, decide_eq_true_eq] at h9
        omega
      have hz2 : (zFld (sh p))[j]? = some (4, o) := by rw [hs.2.1]; exact hz
      exact absurd (by rw [← hv, h4]) (hall p (by have := inn_lt hs.1 (by omega); omega) j (List.getElem?_eq_some_iff.mp hz2).1 o hz2)
theorem cn_add {w w0 : Wd} {md : Bool} {n' k : Nat} {σ' : Hp} (h : le w0 w) (hk : cw n' = cw w.2.1 + k) : cn (md, n', w.2.2.1, σ') w0 = cn w w0 + k := by
  unfold cn
  have := cw_mono h.1; have := h.2
  dsimp only
  omega
theorem sn_add {w w0 : Wd} {md : Bool} {n' k : Nat} {σ' : Hp} (h : le w0 w) (hk : SL n' = SL w.2.1 + k) : sn (md, n', w.2.2.1, σ') w0 = sn w w0 + k := by
  unfold sn
  have := SL_mono h.1; have := h.2
  dsimp only
  omega
theorem cw_1 {n k : Nat} (h : n + k ≤ 130) : cw (n + k) = cw n + k := by
  unfold cw
  rw [if_pos (by omega), if_pos (by omega)]
  omega
theorem SL_1 {n : Nat} (h : n < 130) : SL (n + 1) = SL n + zSz n := by
  unfold SL
  rw [show (n + 1) % 1048576 = n % 1048576 + 1 by omega, show (n + 1) / 1048576 = n / 1048576 by omega, show n % 1048576 = n by omega]
  show Sl n + zSz n + _ = _
  omega
theorem nle_1 {n k : Nat} (h : n + k ≤ 130) : nle n (n + k) := by unfold nle; omega
theorem inn_1 {n : Nat} (h : n < 130) : (∀ p, inn (n + 1) p → inn n p ∨ p = n) ∧ ¬ inn n n ∧ inn (n + 1) n := by
  refine ⟨fun p hp => ?_, fun z => ?_, ?_⟩
  · unfold inn at hp ⊢; omega
  · unfold inn at z; omega
  · unfold inn; omega
def thrOk (q : Nat × Nat × Nat) : Bool := decide (Cond.classLink (zOwn q.1) q.2.1 (zX q.2.2) ∈ lw_good) && decide (Cond.initialized (zX q.2.2) ∈ lw_good)
theorem thr_ok : rThrL.all thrOk = true := by decide +kernel
theorem thr_word {c i x : Nat} (h : rThr c i = some x) : Cond.classLink (zOwn c) i (zX x) ∈ lw_good ∧ Cond.initialized (zX x) ∈ lw_good := by
  have h1 := List.all_eq_true.mp thr_ok _ (find_mem h)
  unfold thrOk at h1
  simp only [Bool.and_eq_true, decide_eq_true_eq] at h1
  exact h1
def tA (x ic : Nat) : List Cond := vx_atS RX10 ic (zX x) zSup
def tAok (x ic : Nat) : Bool := ((tA x ic).filter goodWord).all (fun w => decide (w ∈ lw_good)) && (((tA x ic).filter fun w => !goodWord w).all (fun w => decide (w ∈ zBad)) && (tA x ic).all vx_ot)
theorem tA1 : tAok 1 112 = true := by decide +kernel
theorem tA2 : tAok 2 274 = true := by decide +kernel
theorem tA3 : tAok 3 339 = true := by decide +kernel
theorem cpd_tab {w : Cond} (h : isCPD w = true) : w.onTables = true := by
  cases w with
  | castable a b => rfl
  | privateMethod x => rfl
  | declares x => rfl
  | _ => cases h
theorem tA_use {x ic : Nat} {args : Array Value} {s : State} (h : tAok x ic = true) (hts : ∀ w ∈ lw_good, w.before args s = true) (hb : ∀ w ∈ zBad, va_Nw w s) : (∀ w ∈ vx_atS RX10 ic (zX x) zSup, w.before args s = true) ∧ ∀ w ∈ vx_atS RX10 ic (zX x) zSup, vx_ot w = true := by
  unfold tAok at h
  simp only [Bool.and_eq_true] at h
  refine ⟨vx_hat (B := zBad) (fun w hw => hts w (of_decide_eq_true (List.all_eq_true.mp h.1 w hw))) (fun w hw => of_decide_eq_true (List.all_eq_true.mp h.2.1 w hw)) (fun w hw => va_Nw.use (cpd_tab (List.all_eq_true.mp zBad_ok w hw)) (hb w hw)), fun w hw => List.all_eq_true.mp h.2.2 w hw⟩
theorem zStr_own : ∀ q ∈ zStr, q.1 = "Cubecaller" := by decide +kernel
theorem s_throw {Z : Act} {B : Bg} (hC : Cx Z B) {pc idx x is ic ln : Nat} {L : Lc} {w : Wd} {st : List PV} (hd : decode (mB B.1) pc = .ok (.new idx, 3)) (h1 : rThr (mC B.1) idx = some x) (h10 : mC B.1 = 10) (hh : mH B.1 = []) (hs : catS st ≤ 8) (d3 : decode (mB B.1) (pc + 3) = .ok (.dup, 1))
    (d4 : (decode (mB B.1) (pc + 4) = .ok (.ldc is, 2) ∧ ln = 2) ∨ (decode (mB B.1) (pc + 4) = .ok (.ldc_w is, 3) ∧ ln = 3)) (d5 : decode (mB B.1) (pc + 4 + ln) = .ok (.invokespecial ic, 3)) (d6 : decode (mB B.1) (pc + 7 + ln) = .ok (.athrow, 1)) (hic : (x = 1 ∧ ic = 112) ∨ (x = 2 ∧ ic = 274) ∨ (x = 3 ∧ ic = 339)) (hstr : ∃ t, ("Cubecaller", is, t) ∈ zStr)
    (hQ : QQ Z B (x, none, w.1, w.2.1, w.2.2.1 + 1, w.2.2.2)) : GX Z B pc L st w := by
  obtain ⟨p, l, e, R, s, m, args, below, meth, c, D, cs, A, Q⟩ := Z
  obtain ⟨M, d, w0, al0, o, X, b⟩ := B
  obtain ⟨⟨hx, hb, hml, hown⟩, hts, hA, ⟨hlk, hst, hrt, hin, hex⟩, hMF, ⟨hR1, hR2, hR3, hR4⟩, hXs⟩ := hC
  intro al H locs la hy
  obtain ⟨y1, y2, y3, y4, y5, y6, y7, y8, y9⟩ := id hy
  obtain ⟨ho, rfl⟩ := hQ
  have hown : s.vm.findClass (zOwn (mC M)) = some m.cls := hown
  have h10 : mC M = 10 := h10
  rw [h10] at hown
  have hown : s.vm.findClass RX10 = some m.cls := hown
  have hx13 : x ≠ 0 ∧ x ≤ 3 := by rcases hic with ⟨h, -⟩ | ⟨h, -⟩ | ⟨h, -⟩ <;> omega
  have htA : tAok x ic = true := by
    rcases hic with ⟨rfl, rfl⟩ | ⟨rfl, rfl⟩ | ⟨rfl, rfl⟩
    · exact tA1
    · exact tA2
    · exact tA3
  obtain ⟨u1, u2⟩ := tA_use htA hts hMF.2.2.2.2.1
  obtain ⟨v1, v2⟩ := thr_word h1
  have v1 : Cond.classLink (zOwn (mC M)) idx (zX x) ∈ lw_good := v1
  rw [h10] at v1
  have v1 : Cond.classLink RX10 idx (zX x) ∈ lw_good := v1
  obtain ⟨tx, htx⟩ := hstr
  obtain ⟨sa, hsa⟩ := hMF.2.2.1 _ htx
  have hcls : Bundle.fit (zX x) = true := by rcases hic with ⟨rfl, -⟩ | ⟨rfl, -⟩ | ⟨rfl, -⟩ <;> decide +kernel
  have hgood : ∀ w ∈ Cond.classLink RX10 idx (zX x) :: Cond.initialized (zX x) :: vx_atS RX10 ic (zX x) zSup, vx_ot w = true := by
    intro w hw
    rcases List.mem_cons.mp hw with rfl | hw
    · have := (List.mem_filter.mp v1).2; simp [vx_ot, this]
    · rcases List.mem_cons.mp hw with rfl | hw
      · have := (List.mem_filter.mp v2).2; simp [vx_ot, this]
      · exact u2 w hw
  have hXC : ∀ t : State, s.vm.Alike t.vm → H.size ≤ t.heap.size → (∀ q : Nat, q < H.size → t.heap[q]? = H[q]?) → CX D cs al0 A w0 (x, none, w.1, w.2.1, w.2.2.1 + 1, w.2.2.2) (zX x) s t := by
    intro t _ hz hk
    refine ⟨hx13, rfl, ⟨al, y5, y7.kept (fun k q hq => hk _ (vx_lt y7 hq)), y8⟩, y2, ⟨Nat.le_trans y9.1 hz, fun q q1 q2 => ?_⟩⟩
    rw [hk q (Nat.lt_of_lt_of_le q1 y9.1)]
    exact y9.2.1 q q1 q2
  have hc9 : cn w w0 + 1 = cn o w0 := by
    rw [ho]
    unfold cn
    have := cw_mono y1.1.1; have := y1.1.2
    dsimp only
    omega
  have hs9 : sn w w0 + 6 = sn o w0 := by
    rw [ho]
    unfold sn
    have := SL_mono y1.1.1; have := y1.1.2
    dsimp only
    omega
  have hout : ∀ x ∈ c.exceptionTable.toList, covers x (pc + 7 + ln) = false := by
    have hh : mH M = [] := hh
    rw [hex, hh]
    intro x hx
    cases hx
  have hrl : ((st.map (vl al b)).map fun v => v.category).sum + (13 * (zSup.length + 1) + 43) ≤ R.locals := by
    rw [vl_catS]
    have : zSup.length = 2 := rfl
    omega
  rcases d4 with ⟨d4, rfl⟩ | ⟨d4, rfl⟩
  · exact vx_throwS hx hb hst hown hcls (by decide +kernel) (hts _ v1) (hts _ v2) hsa u1 hgood hMF.2.2.2.2.2.1 hMF.2.2.2.2.2.2.1 y9 (y6.2.1.trans hml.symm) hd d3 d4 d5 d6 hout (by have : zSup.length = 2 := rfl; omega) hrl (by omega) (by omega) hlk hXC y9.2.2 (by omega) (by omega)
  · exact vx_throwSW hx hb hst hown hcls (by decide +kernel) (hts _ v1) (hts _ v2) hsa u1 hgood hMF.2.2.2.2.2.1 hMF.2.2.2.2.2.2.1 y9 (y6.2.1.trans hml.symm) hd d3 d4 d5 d6 hout (by have : zSup.length = 2 := rfl; omega) hrl (by omega) (by omega) hlk hXC y9.2.2 (by omega) (by omega)
end
section
/-! ===== new ===== -/
theorem zNew_in {σ : Hp} {n : Nat} (hn : n < 130) : ∀ p, inn n p → zNew σ n p = σ p := fun p hp => by have := inn_lt hp (by omega); funext j; unfold zNew; rw [if_neg (by omega)]
def newOk (q : Nat × Nat × Nat) : Bool := decide (Cond.classLink (zOwn q.1) q.2.1 (zOwn q.2.2) ∈ lw_good) && match vwCl[q.2.2]? with
  | some (C, _, N) => decide (Cond.instantiable C N ∈ lw_good) && decide (Cond.initialized C ∈ lw_good)
  | none => false
theorem new_ok : rNewL.all newOk = true := by decide +kernel
theorem new_word {c i k : Nat} (h : rNew c i = some k) : ∃ (C : String) (T : u_T) (N : Nat), vwCl[k]? = some (C, T, N) ∧ C = zOwn k ∧ Cond.classLink (zOwn c) i C ∈ lw_good ∧ Cond.instantiable C N ∈ lw_good ∧ Cond.initialized C ∈ lw_good := by
  have h1 := List.all_eq_true.mp new_ok _ (find_mem h)
  unfold newOk at h1
  simp only [Bool.and_eq_true, decide_eq_true_eq] at h1
  obtain ⟨h1, h2⟩ := h1
  split at h2
  · rename_i C T N hk
    have hC : C = zOwn k := by
      have h3 := List.all_eq_true.mp ty_ok k (List.mem_range.mpr (cl_len hk))
      unfold tyOk at h3
      rw [hk] at h3
      simp only [Bool.and_eq_true, decide_eq_true_eq] at h3
      exact h3.1
    simp only [Bool.and_eq_true, decide_eq_true_eq] at h2
    exact ⟨C, T, N, hk, hC, by rw [hC]; exact h1, h2.1, h2.2⟩
  · cases h2
theorem zFld_c {k j c : Nat} {o : Int} (h : (zFld k)[j]? = some (c, o)) : c ≤ 4 := by
  have hk := zFld_lt h
  have hex : ∀ k, k < 12 → ∀ j, j < (zFld k).length → ∀ q, (zFld k)[j]? = some q → q.1 ≤ 4 := by
    intro k hk j hj q hq
    have h1 : ∀ k, k < 12 → (zFld k).all (fun q => decide (q.1 ≤ 4)) = true := by decide +kernel
    have := List.all_eq_true.mp (h1 k hk) q (List.mem_of_getElem? hq)
    exact of_decide_eq_true this
  exact hex k hk j (List.getElem?_eq_some_iff.mp h).1 _ h
theorem zNew_f {σ : Hp} {n j c : Nat} {o : Int} (hs : sh n < 12) (h : (zFld (sh n))[j]? = some (c, o)) : zNew σ n n j = if c = 3 ∨ c = 4 then -1 else 0 := by
  unfold zNew
  rw [if_pos rfl, if_pos hs, Int.toNat_natCast, h]
  have := zFld_c h
  match c, this with
  | 0, _ => rfl
  | 1, _ => rfl
  | 2, _ => rfl
  | 3, _ => rfl
  | 4, _ => rfl
theorem dflt_ok {t : FieldType} {c : Nat} {al : Nat → Nat} (hc : c ≤ 4) (ht : tyK c t) : defaultValue t = fvl al c (if c = 3 ∨ c = 4 then -1 else 0) := by
  match c, hc, ht with
  | 0, _, ht => cases ht; rfl
  | 1, _, ht => cases ht; rfl
  | 2, _, ht => cases ht; rfl
  | 3, _, ht => rcases ht with ⟨n, rfl⟩ | ⟨n, rfl⟩ <;> rfl
  | 4, _, ht => rcases ht with ⟨n, rfl⟩ | ⟨n, rfl⟩ <;> rfl
theorem TyM.newO {n : Nat} {σ : Hp} (hT : TyM false n σ) (hn : n < 130) (h16 : sh n ≠ 16) : TyM false (n + 1) (zNew σ n) := by
  refine hT.new (N := fun p => p = n) (nle_1 (by omega)) (fun _ => by omega) (fun h => by cases h) (inn_1 hn).1 (zNew_in hn) (fun p j c o h1 h3 h4 => ?_) (fun p i h1 h3 => ?_) (fun _ p h1 h3 => ?_)
  · subst h1
    have hk := zFld_lt h4
    rw [zNew_f hk h4]
    have := zFld_c h4
    match c, this with
    | 0, _ => exact ⟨r32_c rfl, fun h => by omega⟩
    | 1, _ => exact ⟨r64_c rfl, fun h => by omega⟩
    | 2, _ => exact ⟨⟨by decide, by decide⟩, fun h => by omega⟩
    | 3, _ => exact ⟨Or.inl rfl, fun h => by omega⟩
    | 4, _ => exact ⟨Or.inr ⟨rfl, rfl⟩, fun _ _ => rfl⟩
  · subst h1
    have h17 := sh_le p
    have hv : zNew σ p p i = if sh p = 15 then -1 else 0 := by
      unfold zNew
      rw [if_pos rfl, if_neg (by omega)]
    rw [hv]
    rcases (show sh p = 12 ∨ sh p = 13 ∨ sh p = 14 ∨ sh p = 15 by omega) with e | e | e | e <;> rw [e]
    · exact r32_c rfl
    · exact r64_c rfl
    · exact ⟨by decide, by decide⟩
    · exact Or.inl rfl
  · subst h1; exact absurd h3 h16
theorem s_new {Z : Act} {B : Bg} (hC : Cx Z B) {pc idx k : Nat} {L : Lc} {w : Wd} {st : List PV} (hd : decode (mB B.1) pc = .ok (.new idx, 3)) (hm : w.1 = false) (hn : w.2.1 < 130) (hk : rNew (mC B.1) idx = some k) (h1 : sh w.2.1 = k) (h2 : ln w.2.1 = 0) (h3 : k < 12) (hle : le (false, w.2.1 + 1, w.2.2.1, zNew w.2.2.2 w.2.1) B.2.2.2.2.1)
    (K : GX Z B (pc + 3) L (pvR k 0 w.2.1 :: st) (false, w.2.1 + 1, w.2.2.1, zNew w.2.2.2 w.2.1)) : GX Z B pc L st w := by
  obtain ⟨p, l, e, R, s, m, args, below, meth, c, D, cs, A, Q⟩ := Z
  obtain ⟨M, d, w0, al0, o, X, b⟩ := B
  obtain ⟨⟨hx, hb, hml, hown⟩, hts, hA, ⟨hlk, hst, hrt, hin, hex⟩, hMF, ⟨hR1, hR2, hR3, hR4⟩, hXs⟩ := hC
  intro al H locs la hy
  obtain ⟨y1, y2, y3, y4, y5, y6, y7, y8, y9⟩ := id hy
  obtain ⟨C, T, N, hkk, hC9, w1, w2, w3⟩ := new_word hk
  obtain ⟨t1, t2, t3⟩ := cls_ty hkk
  have t3 : (zFld k).length = N := t3
  have hle : le (false, w.2.1 + 1, w.2.2.1, zNew w.2.2.2 w.2.1) o := hle
  have hc9 : cn (false, w.2.1 + 1, w.2.2.1, zNew w.2.2.2 w.2.1) w0 = cn w w0 + 1 := cn_add y1.1 (cw_1 (by omega))
  have hs9 : sn (false, w.2.1 + 1, w.2.2.1, zNew w.2.2.2 w.2.1) w0 = sn w w0 + N := by rw [sn_add y1.1 (SL_1 hn), zSz, if_pos (by omega), h1, t3]
  have hc8 := cn_le (w0 := w0) hle
  have hs8 := sn_le (w0 := w0) hle
  rw [hm] at y2
  have hfs : ∀ j, j < N → defaultValue (zTy k j) = vp_V (flds k al (zNew w.2.2.2 w.2.1 w.2.1)) j := by
    intro j hj
    have hj2 : j < (zFld k).length := by rw [t3]; exact hj
    obtain ⟨⟨c5, o5⟩, hz⟩ : ∃ x, (zFld k)[j]? = some x := ⟨_, List.getElem?_eq_getElem hj2⟩
    obtain ⟨q1, q2, q3, q4, q5⟩ := fld_ty hkk hj hz
    unfold vp_V
    rw [List.getD_eq_getElem?_getD, flds_get hz, zNew_f (by omega) (by rw [h1]; exact hz)]
    exact dflt_ok q3 q4
  refine va_new hx hb hts (cls_in hkk) (zTy k) t1 hown (hts _ w1) (hts _ w2) (hts _ w3) hMF.1 y7 y8 y9 hA hkk hfs (by omega) (by omega) hd (fun q H1 q1 q2 q3 => ?_)
  have hT2 := y2.newO hn (by omega)
  have he : cel (alUp al w.2.1 q) cs (zNew w.2.2.2 w.2.1 w.2.1) w.2.1 = .inr (k, flds k al (zNew w.2.2.2 w.2.1 w.2.1)) := by
    unfold cel
    rw [if_pos (by omega), h1]
    congr 2
    unfold flds
    apply List.map_congr_left
    intro j hj
    have hj2 : j < (zFld k).length := List.mem_range.mp hj
    obtain ⟨⟨c5, o5⟩, hz⟩ : ∃ x, (zFld k)[j]? = some x := ⟨_, List.getElem?_eq_getElem hj2⟩
    rw [List.getD_eq_getElem?_getD, hz, zNew_f (by omega) (by rw [h1]; exact hz)]
    show fvl _ c5 _ = fvl _ c5 _
    match c5, zFld_c hz with
    | 0, _ => rfl
    | 1, _ => rfl
    | 2, _ => rfl
    | 3, _ => rfl
    | 4, _ => rfl
  obtain ⟨g1, g2⟩ := grow (al := al) (q := q) y2 (inn_1 hn).1 (inn_1 hn).2.1 (zNew_in hn) he q1 q2
  have KK := K (alUp al w.2.1 q) H1 locs la ⟨⟨⟨y1.1.1.trans (nle_1 (show w.2.1 + 1 ≤ 130 by omega)), y1.1.2⟩, hle⟩, hT2, all_cons (PVok.R.mpr ⟨(inn_1 hn).2.2, h1, h2⟩) (fun v hv => (y3 v hv).mono (nle_1 (show w.2.1 + 1 ≤ 130 by omega))), fun i v hv => (y4 i v hv).mono (nle_1 (show w.2.1 + 1 ≤ 130 by omega)), fun p hp => (alUp_in (inn_1 hn).2.1 p (hp.mono y1.1.1)).trans (y5 p hp), y6.congr (alUp_in (inn_1 hn).2.1) y4, g1, g2, q3⟩
  rw [hc9, hs9] at KK
  have hst9 : (pvR k 0 w.2.1 :: st).map (vl (alUp al w.2.1 q) b) = .ref q :: st.map (vl al b) := by
    rw [List.map_cons, vl_R, alUp_n]
    congr 1
    exact List.map_congr_left fun v hv => vl_congr (alUp_in (inn_1 hn).2.1) (y3 v hv)
  rw [hst9] at KK
  exact KK
/-- the entry of a new array -/
theorem zNew_a {σ : Hp} {n : Nat} (h : 12 ≤ sh n) (i : Int) : zNew σ n n i = if sh n = 15 then -1 else 0 := by
  unfold zNew
  rw [if_pos rfl, if_neg (by omega)]
theorem cel_n12 {al : Nat → Nat} {cs : Cids} {σ : Hp} {n : Nat} (h : sh n = 12) : cel al cs (zNew σ n n) n = .inl (cs.1, ln n, .inl fun _ => 0) := by
  have e : (fun j : Nat => Int32.ofInt (zNew σ n n j)) = fun _ => 0 := funext fun j => by rw [zNew_a (by omega), if_neg (by omega)]; rfl
  unfold cel
  rw [if_neg (by omega), if_neg (by omega), if_neg (by omega), if_neg (by omega), if_neg (by omega), e]
theorem cel_n13 {al : Nat → Nat} {cs : Cids} {σ : Hp} {n : Nat} (h : sh n = 13) : cel al cs (zNew σ n n) n = .inl (cs.2.1, ln n, .inr (.inl fun _ => 0)) := by
  have e : (fun j : Nat => Int64.ofInt (zNew σ n n j)) = fun _ => 0 := funext fun j => by rw [zNew_a (by omega), if_neg (by omega)]; rfl
  unfold cel
  rw [if_neg (by omega), if_pos h, e]
theorem cel_n14 {al : Nat → Nat} {cs : Cids} {σ : Hp} {n : Nat} (h : sh n = 14) : cel al cs (zNew σ n n) n = .inl (cs.2.2.1, ln n, .inl fun _ => 0) := by
  have e : (fun j : Nat => Int32.ofInt (zNew σ n n j)) = fun _ => 0 := funext fun j => by rw [zNew_a (by omega), if_neg (by omega)]; rfl
  unfold cel
  rw [if_neg (by omega), if_neg (by omega), if_pos h, e]
theorem cel_n15 {al : Nat → Nat} {cs : Cids} {σ : Hp} {n : Nat} (h : sh n = 15) : cel al cs (zNew σ n n) n = .inl (cs.2.2.2.1, ln n, .inr (.inr (.inr (.inr fun _ => none)))) := by
  have e : (fun j : Nat => rfo al (zNew σ n n j)) = fun _ => none := funext fun j => by rw [zNew_a (by omega), if_pos h]; rfl
  unfold cel
  rw [if_neg (by omega), if_neg (by omega), if_neg (by omega), if_pos h, e]
theorem grow_goal {Z : Act} {B : Bg} {pc q k : Nat} {L : Lc} {w : Wd} {st : List PV} {al : Nat → Nat} {H1 : Heap} {locs : List Loc} {la : Array Slot} {e : va_E}
    (K : GX Z B pc L (pvR k (ln w.2.1) w.2.1 :: st) (false, w.2.1 + 1, w.2.2.1, zNew w.2.2.2 w.2.1)) (hm : w.1 = false) (hn : w.2.1 < 130) (h1 : sh w.2.1 = k) (hk : k < 16) (hle : le (false, w.2.1 + 1, w.2.2.1, zNew w.2.2.2 w.2.1) B.2.2.2.2.1) : match Z, B with
  | (p, l, ev, R, s, m, args, below, meth, c, D, cs, A, Q), (M, _, w0, al0, _, _, b) => ∀ H, Hy (p, l, ev, R, s, m, args, below, meth, c, D, cs, A, Q) B al H locs la L st w → cel (alUp al w.2.1 q) cs (zNew w.2.2.2 w.2.1 w.2.1) w.2.1 = e → va_P D vwCl (wsv al cs w.2.2.2 w.2.1 ++ [(q, e)]) H1 → va_D A (wsv al cs w.2.2.2 w.2.1 ++ [(q, e)]) → va_S A s.heap H1 locs → W p l ev R s m args below meth c H1 locs (cn w w0 + 1) (sn w w0 + zSz w.2.1) Q (F0 m pc la (.ref q :: st.map (vl al b))) := by
  obtain ⟨p, l, e, R, s, m, args, below, meth, c, D, cs, A, Q⟩ := Z
  obtain ⟨M, d, w0, al0, o, X, b⟩ := B
  intro H hy he q1 q2 q3
  obtain ⟨y1, y2, y3, y4, y5, y6, y7, y8, y9⟩ := id hy
  rw [hm] at y2
  have hT2 := y2.newO hn (by omega)
  obtain ⟨g1, g2⟩ := grow (al := al) (q := q) y2 (inn_1 hn).1 (inn_1 hn).2.1 (zNew_in hn) he q1 q2
  have KK := K (alUp al w.2.1 q) H1 locs la ⟨⟨⟨y1.1.1.trans (nle_1 (show w.2.1 + 1 ≤ 130 by omega)), y1.1.2⟩, hle⟩, hT2, all_cons (PVok.R.mpr ⟨(inn_1 hn).2.2, h1, rfl⟩) (fun v hv => (y3 v hv).mono (nle_1 (show w.2.1 + 1 ≤ 130 by omega))), fun i v hv => (y4 i v hv).mono (nle_1 (show w.2.1 + 1 ≤ 130 by omega)), fun p hp => (alUp_in (inn_1 hn).2.1 p (hp.mono y1.1.1)).trans (y5 p hp), y6.congr (alUp_in (inn_1 hn).2.1) y4, g1, g2, q3⟩
  rw [cn_add y1.1 (cw_1 (by omega)), sn_add y1.1 (SL_1 hn)] at KK
  have hst9 : (pvR k (ln w.2.1) w.2.1 :: st).map (vl (alUp al w.2.1 q) b) = .ref q :: st.map (vl al b) := by
    rw [List.map_cons, vl_R, alUp_n]
    congr 1
    exact List.map_congr_left fun v hv => vl_congr (alUp_in (inn_1 hn).2.1) (y3 v hv)
  rw [hst9] at KK
  exact KK
theorem s_newarr {Z : Act} {B : Bg} (hC : Cx Z B) {pc k : Nat} {a : ArrayType} {L : Lc} {w : Wd} {st : List PV} (hd : decode (mB B.1) pc = .ok (.newarray a, 2)) (hm : w.1 = false) (hn : w.2.1 < 130) (ha : arrK a = some k) (h1 : sh w.2.1 = k) (hl : ln w.2.1 ≤ 20000) (hle : le (false, w.2.1 + 1, w.2.2.1, zNew w.2.2.2 w.2.1) B.2.2.2.2.1)
    (K : GX Z B (pc + 2) L (pvR k (ln w.2.1) w.2.1 :: st) (false, w.2.1 + 1, w.2.2.1, zNew w.2.2.2 w.2.1)) : GX Z B pc L (pvI (ln w.2.1 : Int) :: st) w := by
  have hk : k = 12 ∨ k = 13 ∨ k = 14 := by cases a <;> simp [arrK] at ha <;> omega
  have KG := fun (q : Nat) (H1 : Heap) (locs : List Loc) (la : Array Slot) (al : Nat → Nat) (e : va_E) => grow_goal (q := q) (al := al) (H1 := H1) (locs := locs) (la := la) (e := e) K hm hn h1 (by omega) hle
  obtain ⟨p, l, e, R, s, m, args, below, meth, c, D, cs, A, Q⟩ := Z
  obtain ⟨M, d, w0, al0, o, X, b⟩ := B
  obtain ⟨⟨hx, hb, hml, hown⟩, hts, hA, ⟨hlk, hst, hrt, hin, hex⟩, hMF, ⟨hR1, hR2, hR3, hR4⟩, hXs⟩ := hC
  intro al H locs la hy
  obtain ⟨y1, y2, y3, y4, y5, y6, y7, y8, y9⟩ := id hy
  have hle : le (false, w.2.1 + 1, w.2.2.1, zNew w.2.2.2 w.2.1) o := hle
  have hz : zSz w.2.1 = ln w.2.1 := by unfold zSz; rw [if_neg (by omega)]
  have hc8 := cn_le (w0 := w0) hle
  have hs8 := sn_le (w0 := w0) hle
  rw [cn_add y1.1 (cw_1 (by omega))] at hc8
  rw [sn_add y1.1 (SL_1 hn), hz] at hs8
  have hr : r32 (ln w.2.1 : Int) := all_hd y3
  have hn0 : ¬ Int32.ofInt (ln w.2.1 : Int) < 0 := fun h => by have := (i_lt hr (r32_c rfl : r32 0)).mp h; omega
  have hN : (Int32.ofInt (ln w.2.1 : Int)).toNatClampNeg = ln w.2.1 := by have := r32_cl hr (by omega); omega
  have hy2 := hy.st (all_tl y3)
  rcases hk with rfl | rfl | rfl
  · have : a = .int := by cases a <;> simp [arrK] at ha <;> rfl
    subst this
    refine va_newa (atype := .int) (a0 := (ln w.2.1, .inl fun _ => 0)) (n := Int32.ofInt (ln w.2.1 : Int)) (N' := ln w.2.1) hx hb (hts _ (by decide +kernel)) rfl hMF.1 y7 y8 y9 hA (fun cA => rfl) hn0 hN (by show ln w.2.1 * 4 ≤ _; omega) (by omega) (by omega) hd (fun q cA H1 q0 q1 q2 q3 => ?_)
    have hcA : cA = cs.1 := by
      have h5 := (q0.2 5 (cA, .int) rfl).2
      have h6 := (q0.2 0 (cs.1, .int) rfl).2
      exact Option.some.inj (h5.symm.trans h6)
    subst hcA
    have := KG q H1 locs la al _ H hy2 (cel_n12 h1) q1 q2 q3
    rw [hz] at this
    exact this
  · have : a = .long := by cases a <;> simp [arrK] at ha <;> rfl
    subst this
    refine va_newa (atype := .long) (a0 := (ln w.2.1, .inr (.inl fun _ => 0))) (n := Int32.ofInt (ln w.2.1 : Int)) (N' := ln w.2.1) hx hb (hts _ (by decide +kernel)) rfl hMF.1 y7 y8 y9 hA (fun cA => rfl) hn0 hN (by show ln w.2.1 * 8 ≤ _; omega) (by omega) (by omega) hd (fun q cA H1 q0 q1 q2 q3 => ?_)
    have hcA : cA = cs.2.1 := by
      have h5 := (q0.2 5 (cA, .long) rfl).2
      have h6 := (q0.2 1 (cs.2.1, .long) rfl).2
      exact Option.some.inj (h5.symm.trans h6)
    subst hcA
    have := KG q H1 locs la al _ H hy2 (cel_n13 h1) q1 q2 q3
    rw [hz] at this
    exact this
  · have : a = .boolean := by cases a <;> simp [arrK] at ha <;> rfl
    subst this
    refine va_newa (atype := .boolean) (a0 := (ln w.2.1, .inl fun _ => 0)) (n := Int32.ofInt (ln w.2.1 : Int)) (N' := ln w.2.1) hx hb (hts _ (by decide +kernel)) rfl hMF.1 y7 y8 y9 hA (fun cA => rfl) hn0 hN (by show ln w.2.1 * 1 ≤ _; omega) (by omega) (by omega) hd (fun q cA H1 q0 q1 q2 q3 => ?_)
    have hcA : cA = cs.2.2.1 := by
      have h5 := (q0.2 5 (cA, .boolean) rfl).2
      have h6 := (q0.2 2 (cs.2.2.1, .boolean) rfl).2
      exact Option.some.inj (h5.symm.trans h6)
    subst hcA
    have := KG q H1 locs la al _ H hy2 (cel_n14 h1) q1 q2 q3
    rw [hz] at this
    exact this
theorem s_anew {Z : Act} {B : Bg} (hC : Cx Z B) {pc idx : Nat} {L : Lc} {w : Wd} {st : List PV} (hd : decode (mB B.1) pc = .ok (.anewarray idx, 3)) (hm : w.1 = false) (hn : w.2.1 < 130) (hi : rNew (mC B.1) idx = some 2) (h1 : sh w.2.1 = 15) (hl : ln w.2.1 = 12) (hle : le (false, w.2.1 + 1, w.2.2.1, zNew w.2.2.2 w.2.1) B.2.2.2.2.1)
    (K : GX Z B (pc + 3) L (pvR 15 12 w.2.1 :: st) (false, w.2.1 + 1, w.2.2.1, zNew w.2.2.2 w.2.1)) : GX Z B pc L (pvI 12 :: st) w := by
  rw [← hl] at K
  have KG := fun (q : Nat) (H1 : Heap) (locs : List Loc) (la : Array Slot) (al : Nat → Nat) (e : va_E) => grow_goal (q := q) (al := al) (H1 := H1) (locs := locs) (la := la) (e := e) K hm hn h1 (by omega) hle
  obtain ⟨p, l, e, R, s, m, args, below, meth, c, D, cs, A, Q⟩ := Z
  obtain ⟨M, d, w0, al0, o, X, b⟩ := B
  obtain ⟨⟨hx, hb, hml, hown⟩, hts, hA, ⟨hlk, hst, hrt, hin, hex⟩, hMF, ⟨hR1, hR2, hR3, hR4⟩, hXs⟩ := hC
  intro al H locs la hy
  obtain ⟨y1, y2, y3, y4, y5, y6, y7, y8, y9⟩ := id hy
  obtain ⟨C, T, N, hkk, hC9, w1, w2, w3⟩ := new_word hi
  have hle : le (false, w.2.1 + 1, w.2.2.1, zNew w.2.2.2 w.2.1) o := hle
  have hz : zSz w.2.1 = 12 := by unfold zSz; rw [if_neg (by omega), hl]
  have hc8 := cn_le (w0 := w0) hle
  have hs8 := sn_le (w0 := w0) hle
  rw [cn_add y1.1 (cw_1 (by omega))] at hc8
  rw [sn_add y1.1 (SL_1 hn), hz] at hs8
  have hy2 := hy.st (all_tl y3)
  have hC2 : C = RX2 := by rw [hC9]; rfl
  subst hC2
  refine va_newq (n := Int32.ofInt 12) (N' := 12) hx hb hown (hts _ w1) hMF.2.2.2.2.2.2.2.1 hMF.1 y7 y8 y9 hA (by decide) (by decide) (by decide) (by omega) (by omega) hd (fun q cA H1 q0 q1 q2 q3 => ?_)
  have hcA : cA = cs.2.2.2.1 := by
    obtain ⟨kA, comp, -, -, -, h5⟩ := (q0.2 5 (cA, .object RX2) rfl).2
    obtain ⟨kA2, comp2, -, -, -, h6⟩ := (q0.2 3 (cs.2.2.2.1, .object RX2) rfl).2
    exact Option.some.inj (h5.symm.trans h6)
  subst hcA
  have hce : cel (alUp al w.2.1 q) cs (zNew w.2.2.2 w.2.1 w.2.1) w.2.1 = .inl (cs.2.2.2.1, 12, .inr (.inr (.inr (.inr fun _ => none)))) := by rw [cel_n15 h1, hl]
  have := KG q H1 locs la al _ H hy2 hce q1 q2 q3
  rw [hz] at this
  exact this
end
section
/-! ===== each method's code among the tables' words ===== -/
theorem mc_0 : Cond.code ⟨"Cubecaller", "<init>", "()V"⟩ prog_1_method_1_code 1 (none) ∈ tables_1 := (List.mem_append_left _ (List.mem_of_getElem? (i := 26) rfl))
theorem mc_1 : Cond.code ⟨"Cubecaller$Space", "<init>", "()V"⟩ prog_9_method_1_code 1 (none) ∈ tables_1 := (List.mem_append_left _ (List.mem_of_getElem? (i := 34) rfl))
theorem mc_2 : Cond.code ⟨"Cubecaller$Dimension", "<init>", "()V"⟩ prog_2_method_1_code 2 (none) ∈ tables_1 := (List.mem_append_left _ (List.mem_of_getElem? (i := 40) rfl))
theorem mc_3 : Cond.code ⟨"Cubecaller$Moves", "<init>", "()V"⟩ prog_7_method_1_code 1 (none) ∈ tables_1 := (List.mem_append_left _ (List.mem_of_getElem? (i := 46) rfl))
theorem mc_4 : Cond.code ⟨"Cubecaller$TimeOrder", "<init>", "()V"⟩ prog_11_method_1_code 1 (none) ∈ tables_1 := (List.mem_append_left _ (List.mem_of_getElem? (i := 128) rfl))
theorem mc_5 : Cond.code ⟨"java/util/Arrays", "fill", "([II)V"⟩ prog_24_method_103_code 4 (none) ∈ tables_1 := (List.mem_append_left _ (List.mem_of_getElem? (i := 132) rfl))
theorem mc_6 : Cond.code ⟨"Cubecaller$Measures", "<init>", "()V"⟩ prog_6_method_1_code 1 (none) ∈ tables_1 := (List.mem_append_left _ (List.mem_of_getElem? (i := 176) rfl))
theorem mc_7 : Cond.code ⟨"Cubecaller$FactRows", "<init>", "()V"⟩ prog_3_method_1_code 1 (none) ∈ tables_1 := (List.mem_append_left _ (List.mem_of_getElem? (i := 204) rfl))
theorem mc_8 : Cond.code ⟨"Cubecaller$KeptResults", "<init>", "()V"⟩ prog_5_method_1_code 1 (none) ∈ tables_1 := (List.mem_append_right _ (List.mem_append_left _ (List.mem_of_getElem? (i := 1) rfl)))
theorem mc_9 : Cond.code ⟨"Cubecaller$Spread", "<init>", "()V"⟩ prog_10_method_1_code 1 (none) ∈ tables_1 := (List.mem_append_right _ (List.mem_append_left _ (List.mem_of_getElem? (i := 25) rfl)))
theorem mc_10 : Cond.code ⟨"Cubecaller$Reckoner", "<init>", "(LCubecaller$Space;LCubecaller$Measures;LCubecaller$FactRows;)V"⟩ prog_8_method_1_code 4 (none) ∈ tables_1 := (List.mem_append_right _ (List.mem_append_left _ (List.mem_of_getElem? (i := 47) rfl)))
theorem mc_11 : Cond.code ⟨"Cubecaller$Formula", "<init>", "()V"⟩ prog_4_method_1_code 1 (none) ∈ tables_1 := (List.mem_append_right _ (List.mem_append_left _ (List.mem_of_getElem? (i := 97) rfl)))
theorem mc_12 : Cond.code ⟨"Cubecaller", "member", "(III)I"⟩ prog_1_method_2_code 6 (some .int) ∈ tables_1 := (List.mem_append_right _ (List.mem_append_left _ (List.mem_of_getElem? (i := 146) rfl)))
theorem mc_13 : Cond.code ⟨"Cubecaller", "existing", "(I)LCubecaller$Dimension;"⟩ prog_1_method_27_code 2 (some (.object "Cubecaller$Dimension")) ∈ tables_1 := (List.mem_append_right _ (List.mem_append_left _ (List.mem_of_getElem? (i := 150) rfl)))
theorem mc_14 : Cond.code ⟨"Cubecaller$Space", "dimension", "(I)LCubecaller$Dimension;"⟩ prog_9_method_2_code 2 (some (.object "Cubecaller$Dimension")) ∈ tables_1 := (List.mem_append_right _ (List.mem_append_left _ (List.mem_of_getElem? (i := 222) rfl)))
theorem mc_15 : Cond.code ⟨"Cubecaller", "needMember", "(LCubecaller$Dimension;I)V"⟩ prog_1_method_28_code 2 (none) ∈ tables_1 := (List.mem_append_right _ (List.mem_append_left _ (List.mem_of_getElem? (i := 225) rfl)))
theorem mc_16 : Cond.code ⟨"Cubecaller$Dimension", "has", "(I)Z"⟩ prog_2_method_2_code 2 (some .boolean) ∈ tables_1 := (List.mem_append_right _ (List.mem_append_left _ (List.mem_of_getElem? (i := 229) rfl)))
theorem mc_17 : Cond.code ⟨"Cubecaller", "needRange", "(III)V"⟩ prog_1_method_30_code 3 (none) ∈ tables_1 := (List.mem_append_right _ (List.mem_append_left _ (List.mem_of_getElem? (i := 233) rfl)))
theorem mc_18 : Cond.code ⟨"Cubecaller$Dimension", "isPlain", "(I)Z"⟩ prog_2_method_4_code 2 (some .boolean) ∈ tables_1 := (List.mem_append_right _ (List.mem_append_right _ (List.mem_append_left _ (List.mem_of_getElem? (i := 13) rfl))))
theorem mc_19 : Cond.code ⟨"Cubecaller", "need", "(Z)V"⟩ prog_1_method_31_code 1 (none) ∈ tables_1 := (List.mem_append_right _ (List.mem_append_right _ (List.mem_append_left _ (List.mem_of_getElem? (i := 17) rfl))))
theorem mc_20 : Cond.code ⟨"Cubecaller$Dimension", "addPlain", "(II)I"⟩ prog_2_method_12_code 4 (some .int) ∈ tables_1 := (List.mem_append_right _ (List.mem_append_right _ (List.mem_append_left _ (List.mem_of_getElem? (i := 37) rfl))))
theorem mc_21 : Cond.code ⟨"Cubecaller$Dimension", "addKind", "(I)I"⟩ prog_2_method_15_code 2 (some .int) ∈ tables_1 := (List.mem_append_right _ (List.mem_append_right _ (List.mem_append_left _ (List.mem_of_getElem? (i := 41) rfl))))
theorem mc_22 : Cond.code ⟨"Cubecaller$TimeOrder", "insert", "(IILCubecaller$Dimension;)V"⟩ prog_11_method_3_code 6 (none) ∈ tables_1 := (List.mem_append_right _ (List.mem_append_right _ (List.mem_append_left _ (List.mem_of_getElem? (i := 45) rfl))))
theorem mc_23 : Cond.code ⟨"Cubecaller$TimeOrder", "placeOf", "(I)I"⟩ prog_11_method_2_code 2 (some .int) ∈ tables_1 := (List.mem_append_right _ (List.mem_append_right _ (List.mem_append_left _ (List.mem_of_getElem? (i := 49) rfl))))
theorem mc_24 : Cond.code ⟨"Cubecaller$Dimension", "depthOf", "(I)I"⟩ prog_2_method_6_code 2 (some .int) ∈ tables_1 := (List.mem_append_right _ (List.mem_append_right _ (List.mem_append_left _ (List.mem_of_getElem? (i := 53) rfl))))
theorem mc_25 : Cond.code ⟨"Cubecaller$Space", "weigh", "()V"⟩ prog_9_method_4_code 1 (none) ∈ tables_1 := (List.mem_append_right _ (List.mem_append_right _ (List.mem_append_left _ (List.mem_of_getElem? (i := 57) rfl))))
theorem mc_26 : Cond.code ⟨"Cubecaller$Dimension", "weigh", "(LCubecaller$TimeOrder;)V"⟩ prog_2_method_19_code 3 (none) ∈ tables_1 := (List.mem_append_right _ (List.mem_append_right _ (List.mem_append_left _ (List.mem_of_getElem? (i := 61) rfl))))
theorem mc_27 : Cond.code ⟨"Cubecaller$Moves", "parentAt", "(IIILCubecaller$TimeOrder;)I"⟩ prog_7_method_3_code 9 (some .int) ∈ tables_1 := (List.mem_append_right _ (List.mem_append_right _ (List.mem_append_left _ (List.mem_of_getElem? (i := 66) rfl))))
theorem mc_28 : Cond.code ⟨"Cubecaller$Dimension", "settle", "()V"⟩ prog_2_method_17_code 2 (none) ∈ tables_1 := (List.mem_append_right _ (List.mem_append_right _ (List.mem_append_left _ (List.mem_of_getElem? (i := 71) rfl))))
theorem mc_29 : Cond.code ⟨"Cubecaller$Dimension", "isSeen", "(I)Z"⟩ prog_2_method_9_code 2 (some .boolean) ∈ tables_1 := (List.mem_append_right _ (List.mem_append_right _ (List.mem_append_left _ (List.mem_of_getElem? (i := 76) rfl))))
theorem mc_30 : Cond.code ⟨"Cubecaller$Dimension", "isBridgeSeen", "(I)Z"⟩ prog_2_method_18_code 3 (some .boolean) ∈ tables_1 := (List.mem_append_right _ (List.mem_append_right _ (List.mem_append_left _ (List.mem_of_getElem? (i := 80) rfl))))
theorem mc_31 : Cond.code ⟨"Cubecaller$Dimension", "standsFor", "(II)Z"⟩ prog_2_method_10_code 3 (some .boolean) ∈ tables_1 := (List.mem_append_right _ (List.mem_append_right _ (List.mem_append_left _ (List.mem_of_getElem? (i := 84) rfl))))
theorem mc_32 : Cond.code ⟨"Cubecaller$Dimension", "weighRow", "(IILCubecaller$TimeOrder;)V"⟩ prog_2_method_20_code 7 (none) ∈ tables_1 := (List.mem_append_right _ (List.mem_append_right _ (List.mem_append_left _ (List.mem_of_getElem? (i := 88) rfl))))
theorem mc_33 : Cond.code ⟨"Cubecaller$Dimension", "weightOver", "(IIII)I"⟩ prog_2_method_21_code 6 (some .int) ∈ tables_1 := (List.mem_append_right _ (List.mem_append_right _ (List.mem_append_left _ (List.mem_of_getElem? (i := 92) rfl))))
theorem mc_34 : Cond.code ⟨"Cubecaller$Dimension", "weightByBridge", "(III)I"⟩ prog_2_method_22_code 6 (some .int) ∈ tables_1 := (List.mem_append_right _ (List.mem_append_right _ (List.mem_append_left _ (List.mem_of_getElem? (i := 96) rfl))))
theorem mc_35 : Cond.code ⟨"Cubecaller$KeptResults", "dropAll", "()V"⟩ prog_5_method_9_code 1 (none) ∈ tables_1 := (List.mem_append_right _ (List.mem_append_right _ (List.mem_append_left _ (List.mem_of_getElem? (i := 100) rfl))))
theorem mc_36 : Cond.code ⟨"Cubecaller", "measure", "(III)I"⟩ prog_1_method_11_code 5 (some .int) ∈ tables_1 := (List.mem_append_right _ (List.mem_append_right _ (List.mem_append_left _ (List.mem_of_getElem? (i := 104) rfl))))
theorem mc_37 : Cond.code ⟨"Cubecaller", "needMeasure", "(I)V"⟩ prog_1_method_29_code 2 (none) ∈ tables_1 := (List.mem_append_right _ (List.mem_append_right _ (List.mem_append_left _ (List.mem_of_getElem? (i := 108) rfl))))
theorem mc_38 : Cond.code ⟨"Cubecaller$Measures", "has", "(I)Z"⟩ prog_6_method_2_code 2 (some .boolean) ∈ tables_1 := (List.mem_append_right _ (List.mem_append_right _ (List.mem_append_left _ (List.mem_of_getElem? (i := 112) rfl))))
theorem mc_39 : Cond.code ⟨"Cubecaller$Measures", "add", "(III)I"⟩ prog_6_method_4_code 4 (some .int) ∈ tables_1 := (List.mem_append_right _ (List.mem_append_right _ (List.mem_append_left _ (List.mem_of_getElem? (i := 117) rfl))))
theorem mc_40 : Cond.code ⟨"CubecallerLaw", "cell", "([II)I"⟩ method_2_code 2 (some .int) ∈ tables_1 := (List.mem_append_right _ (List.mem_append_right _ (List.mem_append_left _ (List.mem_of_getElem? (i := 121) rfl))))
theorem mc_41 : Cond.code ⟨"CubecallerLaw", "low", "(II)I"⟩ method_3_code 2 (some .int) ∈ tables_1 := (List.mem_append_right _ (List.mem_append_right _ (List.mem_append_left _ (List.mem_of_getElem? (i := 125) rfl))))
theorem mc_42 : Cond.codeWith ⟨"CubecallerLaw", "members", "(LCubecaller;III)I"⟩ method_4_code 5 (some .int) [(0, 7, 8, 15), (0, 7, 13, 17), (0, 7, 18, 19)] ∈ tables_1 := (List.mem_append_right _ (List.mem_append_right _ (List.mem_append_left _ (List.mem_of_getElem? (i := 129) rfl))))
theorem mc_43 : Cond.codeWith ⟨"CubecallerLaw", "bridges", "(LCubecaller;II)I"⟩ method_5_code 4 (some .int) [(0, 6, 7, 15), (0, 6, 11, 17), (0, 6, 15, 19)] ∈ tables_1 := (List.mem_append_right _ (List.mem_append_right _ (List.mem_append_left _ (List.mem_of_getElem? (i := 135) rfl))))
theorem mc_44 : Cond.code ⟨"Cubecaller", "bridge", "(II)I"⟩ prog_1_method_3_code 6 (some .int) ∈ tables_1 := (List.mem_append_right _ (List.mem_append_right _ (List.mem_append_left _ (List.mem_of_getElem? (i := 139) rfl))))
theorem mc_45 : Cond.code ⟨"java/lang/Integer", "bitCount", "(I)I"⟩ prog_18_method_49_code 1 (some .int) ∈ tables_1 := (List.mem_append_right _ (List.mem_append_right _ (List.mem_append_left _ (List.mem_of_getElem? (i := 142) rfl))))
theorem mc_46 : Cond.code ⟨"Cubecaller$Dimension", "areAllPlain", "(I)Z"⟩ prog_2_method_11_code 3 (some .boolean) ∈ tables_1 := (List.mem_append_right _ (List.mem_append_right _ (List.mem_append_left _ (List.mem_of_getElem? (i := 149) rfl))))
theorem mc_47 : Cond.code ⟨"Cubecaller$Dimension", "addBridge", "(I)I"⟩ prog_2_method_13_code 3 (some .int) ∈ tables_1 := (List.mem_append_right _ (List.mem_append_right _ (List.mem_append_left _ (List.mem_of_getElem? (i := 153) rfl))))
theorem mc_48 : Cond.codeWith ⟨"CubecallerLaw", "words", "(LCubecaller;III)I"⟩ method_7_code 5 (some .int) [(0, 7, 8, 17), (0, 7, 13, 19)] ∈ tables_1 := (List.mem_append_right _ (List.mem_append_right _ (List.mem_append_left _ (List.mem_of_getElem? (i := 156) rfl))))
theorem mc_49 : Cond.code ⟨"Cubecaller", "word", "(III)I"⟩ prog_1_method_7_code 4 (some .int) ∈ tables_1 := (List.mem_append_right _ (List.mem_append_right _ (List.mem_append_left _ (List.mem_of_getElem? (i := 160) rfl))))
theorem mc_50 : Cond.code ⟨"Cubecaller$Formula", "hasRoomFor", "(I)Z"⟩ prog_4_method_2_code 2 (some .boolean) ∈ tables_1 := (List.mem_append_right _ (List.mem_append_right _ (List.mem_append_left _ (List.mem_of_getElem? (i := 166) rfl))))
theorem mc_51 : Cond.code ⟨"Cubecaller$Formula", "put", "(III)V"⟩ prog_4_method_3_code 4 (none) ∈ tables_1 := (List.mem_append_right _ (List.mem_append_right _ (List.mem_append_left _ (List.mem_of_getElem? (i := 170) rfl))))
theorem mc_52 : Cond.codeWith ⟨"CubecallerLaw", "calculates", "(LCubecaller;II)I"⟩ method_8_code 4 (some .int) [(0, 6, 7, 15), (0, 6, 11, 17), (0, 6, 15, 19)] ∈ tables_1 := (List.mem_append_right _ (List.mem_append_right _ (List.mem_append_left _ (List.mem_of_getElem? (i := 173) rfl))))
theorem mc_53 : Cond.code ⟨"Cubecaller", "calculate", "(II)I"⟩ prog_1_method_8_code 5 (some .int) ∈ tables_1 := (List.mem_append_right _ (List.mem_append_right _ (List.mem_append_left _ (List.mem_of_getElem? (i := 177) rfl))))
theorem mc_54 : Cond.code ⟨"Cubecaller$Formula", "looksBeyond", "(I)Z"⟩ prog_4_method_4_code 3 (some .boolean) ∈ tables_1 := (List.mem_append_right _ (List.mem_append_right _ (List.mem_append_left _ (List.mem_of_getElem? (i := 181) rfl))))
theorem mc_55 : Cond.code ⟨"Cubecaller$Dimension", "addCalculated", "(LCubecaller$Formula;I)I"⟩ prog_2_method_14_code 4 (some .int) ∈ tables_1 := (List.mem_append_right _ (List.mem_append_right _ (List.mem_append_left _ (List.mem_of_getElem? (i := 185) rfl))))
theorem mc_56 : Cond.codeWith ⟨"CubecallerLaw", "measures", "(LCubecaller;III)I"⟩ method_9_code 5 (some .int) [(0, 7, 8, 15), (0, 7, 13, 17), (0, 7, 18, 19)] ∈ tables_1 := (List.mem_append_right _ (List.mem_append_right _ (List.mem_append_left _ (List.mem_of_getElem? (i := 188) rfl))))
theorem mc_57 : Cond.codeWith ⟨"CubecallerLaw", "facts", "(LCubecaller;IIIII)I"⟩ method_10_code 7 (some .int) [(0, 11, 12, 15), (0, 11, 17, 17), (0, 11, 22, 19)] ∈ tables_1 := (List.mem_append_right _ (List.mem_append_right _ (List.mem_append_left _ (List.mem_of_getElem? (i := 191) rfl))))
theorem mc_58 : Cond.code ⟨"Cubecaller", "fact", "(IIIII)I"⟩ prog_1_method_13_code 8 (some .int) ∈ tables_1 := (List.mem_append_right _ (List.mem_append_right _ (List.mem_append_left _ (List.mem_of_getElem? (i := 195) rfl))))
theorem mc_59 : Cond.code ⟨"Cubecaller", "existingCell", "(IIII)I"⟩ prog_1_method_32_code 5 (some .int) ∈ tables_1 := (List.mem_append_right _ (List.mem_append_right _ (List.mem_append_left _ (List.mem_of_getElem? (i := 199) rfl))))
theorem mc_60 : Cond.code ⟨"Cubecaller$Space", "isPlain", "(I)Z"⟩ prog_9_method_5_code 2 (some .boolean) ∈ tables_1 := (List.mem_append_right _ (List.mem_append_right _ (List.mem_append_left _ (List.mem_of_getElem? (i := 203) rfl))))
theorem mc_61 : Cond.code ⟨"Cubecaller", "memberOf", "(II)I"⟩ prog_1_method_33_code 2 (some .int) ∈ tables_1 := (List.mem_append_right _ (List.mem_append_right _ (List.mem_append_left _ (List.mem_of_getElem? (i := 206) rfl))))
theorem mc_62 : Cond.code ⟨"Cubecaller$Measures", "kindOf", "(I)I"⟩ prog_6_method_3_code 2 (some .int) ∈ tables_1 := (List.mem_append_right _ (List.mem_append_right _ (List.mem_append_left _ (List.mem_of_getElem? (i := 211) rfl))))
theorem mc_63 : Cond.code ⟨"Cubecaller$FactRows", "find", "(II)I"⟩ prog_3_method_3_code 4 (some .int) ∈ tables_1 := (List.mem_append_right _ (List.mem_append_right _ (List.mem_append_left _ (List.mem_of_getElem? (i := 215) rfl))))
theorem mc_64 : Cond.code ⟨"Cubecaller$FactRows", "add", "(III)V"⟩ prog_3_method_8_code 4 (none) ∈ tables_1 := (List.mem_append_right _ (List.mem_append_right _ (List.mem_append_left _ (List.mem_of_getElem? (i := 219) rfl))))
theorem mc_65 : Cond.code ⟨"Cubecaller", "dropFor", "(II)V"⟩ prog_1_method_38_code 8 (none) ∈ tables_1 := (List.mem_append_right _ (List.mem_append_right _ (List.mem_append_left _ (List.mem_of_getElem? (i := 223) rfl))))
theorem mc_66 : Cond.code ⟨"Cubecaller$KeptResults", "cellAt", "(I)I"⟩ prog_5_method_4_code 2 (some .int) ∈ tables_1 := (List.mem_append_right _ (List.mem_append_right _ (List.mem_append_left _ (List.mem_of_getElem? (i := 227) rfl))))
theorem mc_67 : Cond.code ⟨"Cubecaller$KeptResults", "has", "(I)Z"⟩ prog_5_method_2_code 2 (some .boolean) ∈ tables_1 := (List.mem_append_right _ (List.mem_append_right _ (List.mem_append_left _ (List.mem_of_getElem? (i := 231) rfl))))
theorem mc_68 : Cond.code ⟨"Cubecaller$KeptResults", "measureAt", "(I)I"⟩ prog_5_method_5_code 2 (some .int) ∈ tables_1 := (List.mem_append_right _ (List.mem_append_right _ (List.mem_append_left _ (List.mem_of_getElem? (i := 235) rfl))))
theorem mc_69 : Cond.code ⟨"Cubecaller$Measures", "needs", "(II)Z"⟩ prog_6_method_5_code 3 (some .boolean) ∈ tables_1 := (List.mem_append_right _ (List.mem_append_right _ (List.mem_append_left _ (List.mem_of_getElem? (i := 239) rfl))))
theorem mc_70 : Cond.code ⟨"Cubecaller$Space", "isCalculated", "(I)Z"⟩ prog_9_method_7_code 2 (some .boolean) ∈ tables_1 := (List.mem_append_right _ (List.mem_append_right _ (List.mem_append_right _ (List.mem_append_left _ (List.mem_of_getElem? (i := 3) rfl)))))
theorem mc_71 : Cond.code ⟨"Cubecaller$Space", "leading", "(I)I"⟩ prog_9_method_8_code 6 (some .int) ∈ tables_1 := (List.mem_append_right _ (List.mem_append_right _ (List.mem_append_right _ (List.mem_append_left _ (List.mem_of_getElem? (i := 7) rfl)))))
theorem mc_72 : Cond.code ⟨"Cubecaller$Dimension", "orderOf", "(I)I"⟩ prog_2_method_7_code 2 (some .int) ∈ tables_1 := (List.mem_append_right _ (List.mem_append_right _ (List.mem_append_right _ (List.mem_append_left _ (List.mem_of_getElem? (i := 12) rfl)))))
theorem mc_73 : Cond.code ⟨"Cubecaller$Space", "weight", "(II)I"⟩ prog_9_method_10_code 6 (some .int) ∈ tables_1 := (List.mem_append_right _ (List.mem_append_right _ (List.mem_append_right _ (List.mem_append_left _ (List.mem_of_getElem? (i := 16) rfl)))))
theorem mc_74 : Cond.code ⟨"Cubecaller$Space", "isSeen", "(I)Z"⟩ prog_9_method_6_code 2 (some .boolean) ∈ tables_1 := (List.mem_append_right _ (List.mem_append_right _ (List.mem_append_right _ (List.mem_append_left _ (List.mem_of_getElem? (i := 20) rfl)))))
theorem mc_75 : Cond.code ⟨"Cubecaller$Dimension", "weight", "(III)I"⟩ prog_2_method_23_code 5 (some .int) ∈ tables_1 := (List.mem_append_right _ (List.mem_append_right _ (List.mem_append_right _ (List.mem_append_left _ (List.mem_of_getElem? (i := 25) rfl)))))
theorem mc_76 : Cond.code ⟨"Cubecaller$KeptResults", "shift", "(II)V"⟩ prog_5_method_7_code 3 (none) ∈ tables_1 := (List.mem_append_right _ (List.mem_append_right _ (List.mem_append_right _ (List.mem_append_left _ (List.mem_of_getElem? (i := 29) rfl)))))
theorem mc_77 : Cond.code ⟨"Cubecaller", "setNumber", "(II)Z"⟩ prog_1_method_36_code 3 (some .boolean) ∈ tables_1 := (List.mem_append_right _ (List.mem_append_right _ (List.mem_append_right _ (List.mem_append_left _ (List.mem_of_getElem? (i := 33) rfl)))))
theorem mc_78 : Cond.code ⟨"Cubecaller$FactRows", "numberAt", "(I)I"⟩ prog_3_method_6_code 2 (some .int) ∈ tables_1 := (List.mem_append_right _ (List.mem_append_right _ (List.mem_append_right _ (List.mem_append_left _ (List.mem_of_getElem? (i := 37) rfl)))))
theorem mc_79 : Cond.code ⟨"Cubecaller$FactRows", "has", "(I)Z"⟩ prog_3_method_2_code 2 (some .boolean) ∈ tables_1 := (List.mem_append_right _ (List.mem_append_right _ (List.mem_append_right _ (List.mem_append_left _ (List.mem_of_getElem? (i := 41) rfl)))))
theorem mc_80 : Cond.code ⟨"Cubecaller$FactRows", "setNumber", "(II)V"⟩ prog_3_method_7_code 3 (none) ∈ tables_1 := (List.mem_append_right _ (List.mem_append_right _ (List.mem_append_right _ (List.mem_append_left _ (List.mem_of_getElem? (i := 45) rfl)))))
theorem mc_81 : Cond.code ⟨"Cubecaller$FactRows", "cellAt", "(I)I"⟩ prog_3_method_4_code 2 (some .int) ∈ tables_1 := (List.mem_append_right _ (List.mem_append_right _ (List.mem_append_right _ (List.mem_append_left _ (List.mem_of_getElem? (i := 49) rfl)))))
theorem mc_82 : Cond.code ⟨"Cubecaller$FactRows", "measureAt", "(I)I"⟩ prog_3_method_5_code 2 (some .int) ∈ tables_1 := (List.mem_append_right _ (List.mem_append_right _ (List.mem_append_right _ (List.mem_append_left _ (List.mem_of_getElem? (i := 53) rfl)))))
theorem mc_83 : Cond.codeWith ⟨"CubecallerLaw", "picks", "(LCubecaller;IIIII)I"⟩ method_12_code 7 (some .int) [(0, 11, 12, 15), (0, 11, 17, 17), (0, 11, 22, 19)] ∈ tables_1 := (List.mem_append_right _ (List.mem_append_right _ (List.mem_append_right _ (List.mem_append_left _ (List.mem_of_getElem? (i := 56) rfl)))))
theorem mc_84 : Cond.code ⟨"Cubecaller", "pick", "(IIIII)I"⟩ prog_1_method_20_code 7 (some .int) ∈ tables_1 := (List.mem_append_right _ (List.mem_append_right _ (List.mem_append_right _ (List.mem_append_left _ (List.mem_of_getElem? (i := 60) rfl)))))
theorem mc_85 : Cond.code ⟨"Cubecaller$Dimension", "pickAll", "(II)V"⟩ prog_2_method_24_code 4 (none) ∈ tables_1 := (List.mem_append_right _ (List.mem_append_right _ (List.mem_append_right _ (List.mem_append_left _ (List.mem_of_getElem? (i := 64) rfl)))))
theorem mc_86 : Cond.code ⟨"Cubecaller$Dimension", "isAsked", "(III)Z"⟩ prog_2_method_25_code 4 (some .boolean) ∈ tables_1 := (List.mem_append_right _ (List.mem_append_right _ (List.mem_append_right _ (List.mem_append_left _ (List.mem_of_getElem? (i := 68) rfl)))))
theorem mc_87 : Cond.code ⟨"Cubecaller$Dimension", "isLeaf", "(I)Z"⟩ prog_2_method_26_code 3 (some .boolean) ∈ tables_1 := (List.mem_append_right _ (List.mem_append_right _ (List.mem_append_right _ (List.mem_append_left _ (List.mem_of_getElem? (i := 72) rfl)))))
theorem mc_88 : Cond.code ⟨"Cubecaller$Dimension", "parentOf", "(I)I"⟩ prog_2_method_5_code 2 (some .int) ∈ tables_1 := (List.mem_append_right _ (List.mem_append_right _ (List.mem_append_right _ (List.mem_append_left _ (List.mem_of_getElem? (i := 76) rfl)))))
theorem mc_89 : Cond.code ⟨"Cubecaller$Reckoner", "begins", "(I)V"⟩ prog_8_method_2_code 2 (none) ∈ tables_1 := (List.mem_append_right _ (List.mem_append_right _ (List.mem_append_right _ (List.mem_append_left _ (List.mem_of_getElem? (i := 80) rfl)))))
theorem mc_90 : Cond.code ⟨"Cubecaller$Reckoner", "keepTop", "(II)V"⟩ prog_8_method_21_code 11 (none) ∈ tables_1 := (List.mem_append_right _ (List.mem_append_right _ (List.mem_append_right _ (List.mem_append_left _ (List.mem_of_getElem? (i := 84) rfl)))))
theorem mc_91 : Cond.code ⟨"Cubecaller$Dimension", "pickedAt", "(I)I"⟩ prog_2_method_27_code 2 (some .int) ∈ tables_1 := (List.mem_append_right _ (List.mem_append_right _ (List.mem_append_right _ (List.mem_append_left _ (List.mem_of_getElem? (i := 89) rfl)))))
theorem mc_92 : Cond.code ⟨"Cubecaller$Space", "chosenCell", "()I"⟩ prog_9_method_9_code 1 (some .int) ∈ tables_1 := (List.mem_append_right _ (List.mem_append_right _ (List.mem_append_right _ (List.mem_append_left _ (List.mem_of_getElem? (i := 93) rfl)))))
theorem mc_93 : Cond.code ⟨"Cubecaller", "withMember", "(III)I"⟩ prog_1_method_34_code 4 (some .int) ∈ tables_1 := (List.mem_append_right _ (List.mem_append_right _ (List.mem_append_right _ (List.mem_append_left _ (List.mem_of_getElem? (i := 96) rfl)))))
theorem mc_94 : Cond.code ⟨"Cubecaller$Reckoner", "valueOf", "(II)J"⟩ prog_8_method_4_code 4 (some .long) ∈ tables_1 := (List.mem_append_right _ (List.mem_append_right _ (List.mem_append_right _ (List.mem_append_left _ (List.mem_of_getElem? (i := 102) rfl)))))
theorem mc_95 : Cond.code ⟨"Cubecaller$Reckoner", "plainValue", "(I)J"⟩ prog_8_method_12_code 3 (some .long) ∈ tables_1 := (List.mem_append_right _ (List.mem_append_right _ (List.mem_append_right _ (List.mem_append_left _ (List.mem_of_getElem? (i := 108) rfl)))))
theorem mc_96 : Cond.code ⟨"Cubecaller$Reckoner", "meansNothing", "(I)Z"⟩ prog_8_method_13_code 5 (some .boolean) ∈ tables_1 := (List.mem_append_right _ (List.mem_append_right _ (List.mem_append_right _ (List.mem_append_left _ (List.mem_of_getElem? (i := 112) rfl)))))
theorem mc_97 : Cond.code ⟨"Cubecaller$Measures", "leastDepth", "(II)I"⟩ prog_6_method_6_code 4 (some .int) ∈ tables_1 := (List.mem_append_right _ (List.mem_append_right _ (List.mem_append_right _ (List.mem_append_left _ (List.mem_of_getElem? (i := 119) rfl)))))
theorem mc_98 : Cond.code ⟨"Cubecaller$Reckoner", "gather", "(II)V"⟩ prog_8_method_15_code 5 (none) ∈ tables_1 := (List.mem_append_right _ (List.mem_append_right _ (List.mem_append_right _ (List.mem_append_left _ (List.mem_of_getElem? (i := 124) rfl)))))
theorem mc_99 : Cond.code ⟨"Cubecaller$Reckoner", "ofGathered", "(I)J"⟩ prog_8_method_14_code 3 (some .long) ∈ tables_1 := (List.mem_append_right _ (List.mem_append_right _ (List.mem_append_right _ (List.mem_append_left _ (List.mem_of_getElem? (i := 132) rfl)))))
theorem mc_100 : Cond.code ⟨"Cubecaller$Reckoner", "ratio", "(JJ)J"⟩ prog_8_method_11_code 4 (some .long) ∈ tables_1 := (List.mem_append_right _ (List.mem_append_right _ (List.mem_append_right _ (List.mem_append_left _ (List.mem_of_getElem? (i := 136) rfl)))))
theorem mc_101 : Cond.code ⟨"Cubecaller", "bounded", "(J)J"⟩ prog_1_method_35_code 2 (some .long) ∈ tables_1 := (List.mem_append_right _ (List.mem_append_right _ (List.mem_append_right _ (List.mem_append_left _ (List.mem_of_getElem? (i := 140) rfl)))))
theorem mc_102 : Cond.code ⟨"Cubecaller$Reckoner", "different", "()J"⟩ prog_8_method_20_code 5 (some .long) ∈ tables_1 := (List.mem_append_right _ (List.mem_append_right _ (List.mem_append_right _ (List.mem_append_left _ (List.mem_of_getElem? (i := 152) rfl)))))
theorem mc_103 : Cond.code ⟨"Cubecaller$Reckoner", "lastPlace", "()I"⟩ prog_8_method_18_code 3 (some .int) ∈ tables_1 := (List.mem_append_right _ (List.mem_append_right _ (List.mem_append_right _ (List.mem_append_left _ (List.mem_of_getElem? (i := 157) rfl)))))
theorem mc_104 : Cond.code ⟨"Cubecaller$Reckoner", "sum", "(I)J"⟩ prog_8_method_19_code 5 (some .long) ∈ tables_1 := (List.mem_append_right _ (List.mem_append_right _ (List.mem_append_right _ (List.mem_append_left _ (List.mem_of_getElem? (i := 164) rfl)))))
theorem mc_105 : Cond.code ⟨"Cubecaller$Reckoner", "formulaValue", "(III)J"⟩ prog_8_method_5_code 10 (some .long) ∈ tables_1 := (List.mem_append_right _ (List.mem_append_right _ (List.mem_append_right _ (List.mem_append_left _ (List.mem_of_getElem? (i := 169) rfl)))))
theorem mc_106 : Cond.code ⟨"Cubecaller$Dimension", "formulaOf", "(I)LCubecaller$Formula;"⟩ prog_2_method_8_code 2 (some (.object "Cubecaller$Formula")) ∈ tables_1 := (List.mem_append_right _ (List.mem_append_right _ (List.mem_append_right _ (List.mem_append_left _ (List.mem_of_getElem? (i := 173) rfl)))))
theorem mc_107 : Cond.code ⟨"Cubecaller$Reckoner", "toDate", "(II)J"⟩ prog_8_method_7_code 8 (some .long) ∈ tables_1 := (List.mem_append_right _ (List.mem_append_right _ (List.mem_append_right _ (List.mem_append_left _ (List.mem_of_getElem? (i := 177) rfl)))))
theorem mc_108 : Cond.code ⟨"Cubecaller$Reckoner", "plus", "(JJI)J"⟩ prog_8_method_9_code 5 (some .long) ∈ tables_1 := (List.mem_append_right _ (List.mem_append_right _ (List.mem_append_right _ (List.mem_append_left _ (List.mem_of_getElem? (i := 181) rfl)))))
theorem mc_109 : Cond.code ⟨"Cubecaller$Reckoner", "back", "(III)J"⟩ prog_8_method_6_code 6 (some .long) ∈ tables_1 := (List.mem_append_right _ (List.mem_append_right _ (List.mem_append_right _ (List.mem_append_left _ (List.mem_of_getElem? (i := 185) rfl)))))
theorem mc_110 : Cond.code ⟨"Cubecaller$TimeOrder", "ahead", "(IILCubecaller$Dimension;)I"⟩ prog_11_method_4_code 6 (some .int) ∈ tables_1 := (List.mem_append_right _ (List.mem_append_right _ (List.mem_append_right _ (List.mem_append_left _ (List.mem_of_getElem? (i := 189) rfl)))))
theorem mc_111 : Cond.code ⟨"Cubecaller$Reckoner", "joined", "(IJJ)J"⟩ prog_8_method_8_code 5 (some .long) ∈ tables_1 := (List.mem_append_right _ (List.mem_append_right _ (List.mem_append_right _ (List.mem_append_left _ (List.mem_of_getElem? (i := 192) rfl)))))
theorem mc_112 : Cond.code ⟨"Cubecaller$Reckoner", "product", "(JJ)J"⟩ prog_8_method_10_code 4 (some .long) ∈ tables_1 := (List.mem_append_right _ (List.mem_append_right _ (List.mem_append_right _ (List.mem_append_left _ (List.mem_of_getElem? (i := 195) rfl)))))
theorem mc_113 : Cond.code ⟨"Cubecaller$Reckoner", "rank", "(LCubecaller$Dimension;IIJ)V"⟩ prog_8_method_22_code 7 (none) ∈ tables_1 := (List.mem_append_right _ (List.mem_append_right _ (List.mem_append_right _ (List.mem_append_left _ (List.mem_of_getElem? (i := 204) rfl)))))
theorem mc_114 : Cond.code ⟨"CubecallerLaw", "tell", "(LCubecaller;[I)[I"⟩ method_15_code 7 (some (.array .int)) ∈ tables_1 := (List.mem_append_right _ (List.mem_append_right _ (List.mem_append_right _ (List.mem_append_left _ (List.mem_of_getElem? (i := 210) rfl)))))
theorem mc_115 : Cond.code ⟨"Cubecaller", "memberAt", "(III)I"⟩ prog_1_method_6_code 5 (some .int) ∈ tables_1 := (List.mem_append_right _ (List.mem_append_right _ (List.mem_append_right _ (List.mem_append_left _ (List.mem_of_getElem? (i := 214) rfl)))))
theorem mc_116 : Cond.code ⟨"Cubecaller$Dimension", "kindOf", "(I)I"⟩ prog_2_method_3_code 2 (some .int) ∈ tables_1 := (List.mem_append_right _ (List.mem_append_right _ (List.mem_append_right _ (List.mem_append_left _ (List.mem_of_getElem? (i := 218) rfl)))))
theorem mc_117 : Cond.code ⟨"Cubecaller", "cellAnew", "(IIII)J"⟩ prog_1_method_16_code 6 (some .long) ∈ tables_1 := (List.mem_append_right _ (List.mem_append_right _ (List.mem_append_right _ (List.mem_append_left _ (List.mem_of_getElem? (i := 226) rfl)))))
theorem mc_118 : Cond.code ⟨"Cubecaller$Reckoner", "asAsked", "(I)J"⟩ prog_8_method_3_code 2 (some .long) ∈ tables_1 := (List.mem_append_right _ (List.mem_append_right _ (List.mem_append_right _ (List.mem_append_left _ (List.mem_of_getElem? (i := 230) rfl)))))
theorem mc_119 : Cond.code ⟨"Cubecaller", "facts", "()I"⟩ prog_1_method_26_code 1 (some .int) ∈ tables_1 := (List.mem_append_right _ (List.mem_append_right _ (List.mem_append_right _ (List.mem_append_left _ (List.mem_of_getElem? (i := 236) rfl)))))
theorem mc_120 : Cond.code ⟨"Cubecaller", "kept", "()I"⟩ prog_1_method_17_code 1 (some .int) ∈ tables_1 := (List.mem_append_right _ (List.mem_append_right _ (List.mem_append_right _ (List.mem_append_right _ (List.mem_of_getElem? (i := 0) rfl)))))
theorem mc_121 : Cond.code ⟨"Cubecaller", "hits", "()I"⟩ prog_1_method_18_code 1 (some .int) ∈ tables_1 := (List.mem_append_right _ (List.mem_append_right _ (List.mem_append_right _ (List.mem_append_right _ (List.mem_of_getElem? (i := 4) rfl)))))
theorem mc_122 : Cond.code ⟨"CubecallerLaw", "same", "([I[I)Z"⟩ method_16_code 3 (some .boolean) ∈ tables_1 := (List.mem_append_right _ (List.mem_append_right _ (List.mem_append_right _ (List.mem_append_right _ (List.mem_of_getElem? (i := 7) rfl)))))
theorem mc_123 : Cond.code ⟨"CubecallerLaw", "asks", "(LCubecaller;[II)Z"⟩ method_17_code 22 (some .boolean) ∈ tables_1 := (List.mem_append_right _ (List.mem_append_right _ (List.mem_append_right _ (List.mem_append_right _ (List.mem_of_getElem? (i := 10) rfl)))))
theorem mc_124 : Cond.code ⟨"Cubecaller", "cell", "(IIII)J"⟩ prog_1_method_15_code 9 (some .long) ∈ tables_1 := (List.mem_append_right _ (List.mem_append_right _ (List.mem_append_right _ (List.mem_append_right _ (List.mem_of_getElem? (i := 14) rfl)))))
theorem mc_125 : Cond.code ⟨"Cubecaller$KeptResults", "find", "(II)I"⟩ prog_5_method_3_code 4 (some .int) ∈ tables_1 := (List.mem_append_right _ (List.mem_append_right _ (List.mem_append_right _ (List.mem_append_right _ (List.mem_of_getElem? (i := 20) rfl)))))
theorem mc_126 : Cond.code ⟨"Cubecaller$KeptResults", "valueAt", "(I)J"⟩ prog_5_method_6_code 2 (some .long) ∈ tables_1 := (List.mem_append_right _ (List.mem_append_right _ (List.mem_append_right _ (List.mem_append_right _ (List.mem_of_getElem? (i := 24) rfl)))))
theorem mc_127 : Cond.code ⟨"Cubecaller$KeptResults", "keep", "(IIJ)V"⟩ prog_5_method_8_code 6 (none) ∈ tables_1 := (List.mem_append_right _ (List.mem_append_right _ (List.mem_append_right _ (List.mem_append_right _ (List.mem_of_getElem? (i := 29) rfl)))))
theorem mc_128 : Cond.code ⟨"Cubecaller", "at", "(II)I"⟩ prog_1_method_19_code 5 (some .int) ∈ tables_1 := (List.mem_append_right _ (List.mem_append_right _ (List.mem_append_right _ (List.mem_append_right _ (List.mem_of_getElem? (i := 34) rfl)))))
theorem mc_129 : Cond.code ⟨"Cubecaller", "picked", "(II)I"⟩ prog_1_method_21_code 4 (some .int) ∈ tables_1 := (List.mem_append_right _ (List.mem_append_right _ (List.mem_append_right _ (List.mem_append_right _ (List.mem_of_getElem? (i := 38) rfl)))))
theorem mc_130 : Cond.code ⟨"Cubecaller", "cross", "(III)I"⟩ prog_1_method_22_code 10 (some .int) ∈ tables_1 := (List.mem_append_right _ (List.mem_append_right _ (List.mem_append_right _ (List.mem_append_right _ (List.mem_of_getElem? (i := 45) rfl)))))
theorem mc_131 : Cond.code ⟨"CubecallerLaw", "act", "(LCubecaller;[III)I"⟩ method_18_code 8 (some .int) ∈ tables_1 := (List.mem_append_right _ (List.mem_append_right _ (List.mem_append_right _ (List.mem_append_right _ (List.mem_of_getElem? (i := 51) rfl)))))
theorem mc_132 : Cond.codeWith ⟨"CubecallerLaw", "moves", "(LCubecaller;IIII)I"⟩ method_6_code 6 (some .int) [(0, 9, 10, 15), (0, 9, 15, 19)] ∈ tables_1 := (List.mem_append_right _ (List.mem_append_right _ (List.mem_append_right _ (List.mem_append_right _ (List.mem_of_getElem? (i := 54) rfl)))))
theorem mc_133 : Cond.code ⟨"Cubecaller", "move", "(IIII)I"⟩ prog_1_method_4_code 7 (some .int) ∈ tables_1 := (List.mem_append_right _ (List.mem_append_right _ (List.mem_append_right _ (List.mem_append_right _ (List.mem_of_getElem? (i := 58) rfl)))))
theorem mc_134 : Cond.code ⟨"Cubecaller$Space", "movesTold", "()I"⟩ prog_9_method_3_code 1 (some .int) ∈ tables_1 := (List.mem_append_right _ (List.mem_append_right _ (List.mem_append_right _ (List.mem_append_right _ (List.mem_of_getElem? (i := 63) rfl)))))
theorem mc_135 : Cond.code ⟨"Cubecaller$Moves", "tell", "(III)V"⟩ prog_7_method_2_code 4 (none) ∈ tables_1 := (List.mem_append_right _ (List.mem_append_right _ (List.mem_append_right _ (List.mem_append_right _ (List.mem_of_getElem? (i := 67) rfl)))))
theorem mc_136 : Cond.code ⟨"Cubecaller", "asNow", "(Z)Z"⟩ prog_1_method_5_code 3 (some .boolean) ∈ tables_1 := (List.mem_append_right _ (List.mem_append_right _ (List.mem_append_right _ (List.mem_append_right _ (List.mem_of_getElem? (i := 71) rfl)))))
theorem mc_137 : Cond.code ⟨"Cubecaller", "totals", "(Z)Z"⟩ prog_1_method_10_code 3 (some .boolean) ∈ tables_1 := (List.mem_append_right _ (List.mem_append_right _ (List.mem_append_right _ (List.mem_append_right _ (List.mem_of_getElem? (i := 75) rfl)))))
theorem mc_138 : Cond.code ⟨"Cubecaller", "hide", "(IIZ)Z"⟩ prog_1_method_9_code 6 (some .boolean) ∈ tables_1 := (List.mem_append_right _ (List.mem_append_right _ (List.mem_append_right _ (List.mem_append_right _ (List.mem_of_getElem? (i := 79) rfl)))))
theorem mc_139 : Cond.code ⟨"Cubecaller$Dimension", "setHidden", "(IZ)Z"⟩ prog_2_method_16_code 4 (some .boolean) ∈ tables_1 := (List.mem_append_right _ (List.mem_append_right _ (List.mem_append_right _ (List.mem_append_right _ (List.mem_of_getElem? (i := 84) rfl)))))
theorem mc_140 : Cond.code ⟨"CubecallerLaw", "grow", "([II)I"⟩ method_19_code 2 (some .int) ∈ tables_1 := (List.mem_append_right _ (List.mem_append_right _ (List.mem_append_right _ (List.mem_append_right _ (List.mem_of_getElem? (i := 87) rfl)))))
theorem mc_141 : Cond.code ⟨"Cubecaller", "from", "(III)I"⟩ prog_1_method_12_code 5 (some .int) ∈ tables_1 := (List.mem_append_right _ (List.mem_append_right _ (List.mem_append_right _ (List.mem_append_right _ (List.mem_of_getElem? (i := 91) rfl)))))
theorem mc_142 : Cond.code ⟨"Cubecaller$Measures", "setLeastDepth", "(III)I"⟩ prog_6_method_7_code 5 (some .int) ∈ tables_1 := (List.mem_append_right _ (List.mem_append_right _ (List.mem_append_right _ (List.mem_append_right _ (List.mem_of_getElem? (i := 95) rfl)))))
theorem mc_143 : Cond.codeWith ⟨"CubecallerLaw", "writes", "(LCubecaller;IIIIII)I"⟩ method_11_code 8 (some .int) [(0, 13, 14, 15), (0, 13, 19, 17), (0, 13, 24, 19)] ∈ tables_1 := (List.mem_append_right _ (List.mem_append_right _ (List.mem_append_right _ (List.mem_append_right _ (List.mem_of_getElem? (i := 99) rfl)))))
theorem mc_144 : Cond.code ⟨"Cubecaller", "write", "(IIIIII)I"⟩ prog_1_method_23_code 9 (some .int) ∈ tables_1 := (List.mem_append_right _ (List.mem_append_right _ (List.mem_append_right _ (List.mem_append_right _ (List.mem_of_getElem? (i := 103) rfl)))))
theorem mc_145 : Cond.code ⟨"Cubecaller$Reckoner", "allWeighOne", "()Z"⟩ prog_8_method_17_code 2 (some .boolean) ∈ tables_1 := (List.mem_append_right _ (List.mem_append_right _ (List.mem_append_right _ (List.mem_append_right _ (List.mem_of_getElem? (i := 108) rfl)))))
theorem mc_146 : Cond.code ⟨"Cubecaller$Spread", "start", "(IJ)V"⟩ prog_10_method_2_code 4 (none) ∈ tables_1 := (List.mem_append_right _ (List.mem_append_right _ (List.mem_append_right _ (List.mem_append_right _ (List.mem_of_getElem? (i := 112) rfl)))))
theorem mc_147 : Cond.code ⟨"Cubecaller$Reckoner", "rowAt", "(I)I"⟩ prog_8_method_16_code 2 (some .int) ∈ tables_1 := (List.mem_append_right _ (List.mem_append_right _ (List.mem_append_right _ (List.mem_append_right _ (List.mem_of_getElem? (i := 117) rfl)))))
theorem mc_148 : Cond.code ⟨"Cubecaller$Spread", "own", "(IJ)V"⟩ prog_10_method_3_code 4 (none) ∈ tables_1 := (List.mem_append_right _ (List.mem_append_right _ (List.mem_append_right _ (List.mem_append_right _ (List.mem_of_getElem? (i := 121) rfl)))))
theorem mc_149 : Cond.code ⟨"Cubecaller$Spread", "share", "(I)V"⟩ prog_10_method_5_code 6 (none) ∈ tables_1 := (List.mem_append_right _ (List.mem_append_right _ (List.mem_append_right _ (List.mem_append_right _ (List.mem_of_getElem? (i := 125) rfl)))))
theorem mc_150 : Cond.code ⟨"Cubecaller$Spread", "leaveRest", "(J)V"⟩ prog_10_method_7_code 4 (none) ∈ tables_1 := (List.mem_append_right _ (List.mem_append_right _ (List.mem_append_right _ (List.mem_append_right _ (List.mem_of_getElem? (i := 129) rfl)))))
theorem mc_151 : Cond.code ⟨"Cubecaller$Spread", "byWeights", "(J)V"⟩ prog_10_method_8_code 7 (none) ∈ tables_1 := (List.mem_append_right _ (List.mem_append_right _ (List.mem_append_right _ (List.mem_append_right _ (List.mem_of_getElem? (i := 133) rfl)))))
theorem mc_152 : Cond.code ⟨"Cubecaller$Spread", "greatestRemainder", "()I"⟩ prog_10_method_9_code 3 (some .int) ∈ tables_1 := (List.mem_append_right _ (List.mem_append_right _ (List.mem_append_right _ (List.mem_append_right _ (List.mem_of_getElem? (i := 137) rfl)))))
theorem mc_153 : Cond.code ⟨"Cubecaller$Spread", "equally", "()V"⟩ prog_10_method_6_code 2 (none) ∈ tables_1 := (List.mem_append_right _ (List.mem_append_right _ (List.mem_append_right _ (List.mem_append_right _ (List.mem_of_getElem? (i := 142) rfl)))))
theorem mc_154 : Cond.code ⟨"Cubecaller$Spread", "inRange", "()Z"⟩ prog_10_method_10_code 2 (some .boolean) ∈ tables_1 := (List.mem_append_right _ (List.mem_append_right _ (List.mem_append_right _ (List.mem_append_right _ (List.mem_of_getElem? (i := 146) rfl)))))
theorem mc_155 : Cond.code ⟨"Cubecaller", "writeShares", "()I"⟩ prog_1_method_37_code 3 (some .int) ∈ tables_1 := (List.mem_append_right _ (List.mem_append_right _ (List.mem_append_right _ (List.mem_append_right _ (List.mem_of_getElem? (i := 152) rfl)))))
theorem mc_156 : Cond.code ⟨"Cubecaller$Spread", "shareAt", "(I)J"⟩ prog_10_method_4_code 2 (some .long) ∈ tables_1 := (List.mem_append_right _ (List.mem_append_right _ (List.mem_append_right _ (List.mem_append_right _ (List.mem_of_getElem? (i := 156) rfl)))))
theorem mc_157 : Cond.codeWith ⟨"CubecallerLaw", "begins", "(LCubecaller;)I"⟩ method_14_code 2 (some .int) [(0, 5, 6, 19)] ∈ tables_1 := (List.mem_append_right _ (List.mem_append_right _ (List.mem_append_right _ (List.mem_append_right _ (List.mem_of_getElem? (i := 159) rfl)))))
theorem mc_158 : Cond.code ⟨"Cubecaller", "begin", "()V"⟩ prog_1_method_24_code 1 (none) ∈ tables_1 := (List.mem_append_right _ (List.mem_append_right _ (List.mem_append_right _ (List.mem_append_right _ (List.mem_of_getElem? (i := 163) rfl)))))
theorem mc_159 : Cond.code ⟨"Cubecaller$FactRows", "save", "()V"⟩ prog_3_method_10_code 1 (none) ∈ tables_1 := (List.mem_append_right _ (List.mem_append_right _ (List.mem_append_right _ (List.mem_append_right _ (List.mem_of_getElem? (i := 167) rfl)))))
theorem mc_160 : Cond.codeWith ⟨"CubecallerLaw", "ends", "(LCubecaller;Z)I"⟩ method_13_code 3 (some .int) [(0, 5, 6, 19)] ∈ tables_1 := (List.mem_append_right _ (List.mem_append_right _ (List.mem_append_right _ (List.mem_append_right _ (List.mem_of_getElem? (i := 173) rfl)))))
theorem mc_161 : Cond.code ⟨"Cubecaller", "end", "(Z)I"⟩ prog_1_method_25_code 2 (some .int) ∈ tables_1 := (List.mem_append_right _ (List.mem_append_right _ (List.mem_append_right _ (List.mem_append_right _ (List.mem_of_getElem? (i := 177) rfl)))))
theorem mc_162 : Cond.code ⟨"Cubecaller$FactRows", "restore", "()V"⟩ prog_3_method_11_code 1 (none) ∈ tables_1 := (List.mem_append_right _ (List.mem_append_right _ (List.mem_append_right _ (List.mem_append_right _ (List.mem_of_getElem? (i := 181) rfl)))))
theorem mcs_0 : ∀ w ∈ (mtab0).map mw, w ∈ tables_1 := List.forall_mem_cons.mpr ⟨mc_0, List.forall_mem_cons.mpr ⟨mc_1, List.forall_mem_cons.mpr ⟨mc_2, List.forall_mem_cons.mpr ⟨mc_3, List.forall_mem_cons.mpr ⟨mc_4, List.forall_mem_cons.mpr ⟨mc_5, List.forall_mem_cons.mpr ⟨mc_6, List.forall_mem_cons.mpr ⟨mc_7, List.forall_mem_cons.mpr ⟨mc_8, List.forall_mem_cons.mpr ⟨mc_9, List.forall_mem_cons.mpr ⟨mc_10, List.forall_mem_cons.mpr ⟨mc_11, List.forall_mem_cons.mpr ⟨mc_12, List.forall_mem_cons.mpr ⟨mc_13, List.forall_mem_cons.mpr ⟨mc_14, List.forall_mem_cons.mpr ⟨mc_15, List.forall_mem_cons.mpr ⟨mc_16, List.forall_mem_cons.mpr ⟨mc_17, List.forall_mem_cons.mpr ⟨mc_18, List.forall_mem_cons.mpr ⟨mc_19, List.forall_mem_cons.mpr ⟨mc_20, List.forall_mem_cons.mpr ⟨mc_21, List.forall_mem_cons.mpr ⟨mc_22, List.forall_mem_cons.mpr ⟨mc_23, List.forall_mem_cons.mpr ⟨mc_24, List.forall_mem_cons.mpr ⟨mc_25, List.forall_mem_cons.mpr ⟨mc_26, List.forall_mem_cons.mpr ⟨mc_27, List.forall_mem_cons.mpr ⟨mc_28, List.forall_mem_cons.mpr ⟨mc_29, List.forall_mem_cons.mpr ⟨mc_30, List.forall_mem_cons.mpr ⟨mc_31, List.forall_mem_cons.mpr ⟨mc_32, List.forall_mem_cons.mpr ⟨mc_33, List.forall_mem_cons.mpr ⟨mc_34, List.forall_mem_cons.mpr ⟨mc_35, List.forall_mem_cons.mpr ⟨mc_36, List.forall_mem_cons.mpr ⟨mc_37, List.forall_mem_cons.mpr ⟨mc_38, List.forall_mem_cons.mpr ⟨mc_39, List.forall_mem_cons.mpr ⟨mc_40, List.forall_mem_cons.mpr ⟨mc_41, List.forall_mem_cons.mpr ⟨mc_42, List.forall_mem_cons.mpr ⟨mc_43, List.forall_mem_cons.mpr ⟨mc_44, List.forall_mem_cons.mpr ⟨mc_45, List.forall_mem_cons.mpr ⟨mc_46, List.forall_mem_cons.mpr ⟨mc_47, List.forall_mem_cons.mpr ⟨mc_48, List.forall_mem_cons.mpr ⟨mc_49, List.forall_mem_cons.mpr ⟨mc_50, List.forall_mem_cons.mpr ⟨mc_51, List.forall_mem_cons.mpr ⟨mc_52, List.forall_mem_cons.mpr ⟨mc_53, List.forall_mem_cons.mpr ⟨mc_54, List.forall_mem_cons.mpr ⟨mc_55, List.forall_mem_cons.mpr ⟨mc_56, List.forall_mem_cons.mpr ⟨mc_57, List.forall_mem_cons.mpr ⟨mc_58, List.forall_mem_cons.mpr ⟨mc_59, fun _ h => absurd h List.not_mem_nil⟩⟩⟩⟩⟩⟩⟩⟩⟩⟩⟩⟩⟩⟩⟩⟩⟩⟩⟩⟩⟩⟩⟩⟩⟩⟩⟩⟩⟩⟩⟩⟩⟩⟩⟩⟩⟩⟩⟩⟩⟩⟩⟩⟩⟩⟩⟩⟩⟩⟩⟩⟩⟩⟩⟩⟩⟩⟩⟩⟩
theorem mcs_1 : ∀ w ∈ (mtab1).map mw, w ∈ tables_1 := List.forall_mem_cons.mpr ⟨mc_60, List.forall_mem_cons.mpr ⟨mc_61, List.forall_mem_cons.mpr ⟨mc_62, List.forall_mem_cons.mpr ⟨mc_63, List.forall_mem_cons.mpr ⟨mc_64, List.forall_mem_cons.mpr ⟨mc_65, List.forall_mem_cons.mpr ⟨mc_66, List.forall_mem_cons.mpr ⟨mc_67, List.forall_mem_cons.mpr ⟨mc_68, List.forall_mem_cons.mpr ⟨mc_69, List.forall_mem_cons.mpr ⟨mc_70, List.forall_mem_cons.mpr ⟨mc_71, List.forall_mem_cons.mpr ⟨mc_72, List.forall_mem_cons.mpr ⟨mc_73, List.forall_mem_cons.mpr ⟨mc_74, List.forall_mem_cons.mpr ⟨mc_75, List.forall_mem_cons.mpr ⟨mc_76, List.forall_mem_cons.mpr ⟨mc_77, List.forall_mem_cons.mpr ⟨mc_78, List.forall_mem_cons.mpr ⟨mc_79, List.forall_mem_cons.mpr ⟨mc_80, List.forall_mem_cons.mpr ⟨mc_81, List.forall_mem_cons.mpr ⟨mc_82, List.forall_mem_cons.mpr ⟨mc_83, List.forall_mem_cons.mpr ⟨mc_84, List.forall_mem_cons.mpr ⟨mc_85, List.forall_mem_cons.mpr ⟨mc_86, List.forall_mem_cons.mpr ⟨mc_87, List.forall_mem_cons.mpr ⟨mc_88, List.forall_mem_cons.mpr ⟨mc_89, List.forall_mem_cons.mpr ⟨mc_90, List.forall_mem_cons.mpr ⟨mc_91, List.forall_mem_cons.mpr ⟨mc_92, List.forall_mem_cons.mpr ⟨mc_93, List.forall_mem_cons.mpr ⟨mc_94, List.forall_mem_cons.mpr ⟨mc_95, List.forall_mem_cons.mpr ⟨mc_96, List.forall_mem_cons.mpr ⟨mc_97, List.forall_mem_cons.mpr ⟨mc_98, List.forall_mem_cons.mpr ⟨mc_99, List.forall_mem_cons.mpr ⟨mc_100, List.forall_mem_cons.mpr ⟨mc_101, List.forall_mem_cons.mpr ⟨mc_102, List.forall_mem_cons.mpr ⟨mc_103, List.forall_mem_cons.mpr ⟨mc_104, List.forall_mem_cons.mpr ⟨mc_105, List.forall_mem_cons.mpr ⟨mc_106, List.forall_mem_cons.mpr ⟨mc_107, List.forall_mem_cons.mpr ⟨mc_108, List.forall_mem_cons.mpr ⟨mc_109, List.forall_mem_cons.mpr ⟨mc_110, List.forall_mem_cons.mpr ⟨mc_111, List.forall_mem_cons.mpr ⟨mc_112, List.forall_mem_cons.mpr ⟨mc_113, List.forall_mem_cons.mpr ⟨mc_114, List.forall_mem_cons.mpr ⟨mc_115, List.forall_mem_cons.mpr ⟨mc_116, List.forall_mem_cons.mpr ⟨mc_117, List.forall_mem_cons.mpr ⟨mc_118, List.forall_mem_cons.mpr ⟨mc_119, fun _ h => absurd h List.not_mem_nil⟩⟩⟩⟩⟩⟩⟩⟩⟩⟩⟩⟩⟩⟩⟩⟩⟩⟩⟩⟩⟩⟩⟩⟩⟩⟩⟩⟩⟩⟩⟩⟩⟩⟩⟩⟩⟩⟩⟩⟩⟩⟩⟩⟩⟩⟩⟩⟩⟩⟩⟩⟩⟩⟩⟩⟩⟩⟩⟩⟩
theorem mcs_2 : ∀ w ∈ (mtab2.take 43).map mw, w ∈ tables_1 := List.forall_mem_cons.mpr ⟨mc_120, List.forall_mem_cons.mpr ⟨mc_121, List.forall_mem_cons.mpr ⟨mc_122, List.forall_mem_cons.mpr ⟨mc_123, List.forall_mem_cons.mpr ⟨mc_124, List.forall_mem_cons.mpr ⟨mc_125, List.forall_mem_cons.mpr ⟨mc_126, List.forall_mem_cons.mpr ⟨mc_127, List.forall_mem_cons.mpr ⟨mc_128, List.forall_mem_cons.mpr ⟨mc_129, List.forall_mem_cons.mpr ⟨mc_130, List.forall_mem_cons.mpr ⟨mc_131, List.forall_mem_cons.mpr ⟨mc_132, List.forall_mem_cons.mpr ⟨mc_133, List.forall_mem_cons.mpr ⟨mc_134, List.forall_mem_cons.mpr ⟨mc_135, List.forall_mem_cons.mpr ⟨mc_136, List.forall_mem_cons.mpr ⟨mc_137, List.forall_mem_cons.mpr ⟨mc_138, List.forall_mem_cons.mpr ⟨mc_139, List.forall_mem_cons.mpr ⟨mc_140, List.forall_mem_cons.mpr ⟨mc_141, List.forall_mem_cons.mpr ⟨mc_142, List.forall_mem_cons.mpr ⟨mc_143, List.forall_mem_cons.mpr ⟨mc_144, List.forall_mem_cons.mpr ⟨mc_145, List.forall_mem_cons.mpr ⟨mc_146, List.forall_mem_cons.mpr ⟨mc_147, List.forall_mem_cons.mpr ⟨mc_148, List.forall_mem_cons.mpr ⟨mc_149, List.forall_mem_cons.mpr ⟨mc_150, List.forall_mem_cons.mpr ⟨mc_151, List.forall_mem_cons.mpr ⟨mc_152, List.forall_mem_cons.mpr ⟨mc_153, List.forall_mem_cons.mpr ⟨mc_154, List.forall_mem_cons.mpr ⟨mc_155, List.forall_mem_cons.mpr ⟨mc_156, List.forall_mem_cons.mpr ⟨mc_157, List.forall_mem_cons.mpr ⟨mc_158, List.forall_mem_cons.mpr ⟨mc_159, List.forall_mem_cons.mpr ⟨mc_160, List.forall_mem_cons.mpr ⟨mc_161, List.forall_mem_cons.mpr ⟨mc_162, fun _ h => absurd h List.not_mem_nil⟩⟩⟩⟩⟩⟩⟩⟩⟩⟩⟩⟩⟩⟩⟩⟩⟩⟩⟩⟩⟩⟩⟩⟩⟩⟩⟩⟩⟩⟩⟩⟩⟩⟩⟩⟩⟩⟩⟩⟩⟩⟩⟩
end
